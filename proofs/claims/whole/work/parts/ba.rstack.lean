/-! THE MODEL'S STACK of what is open -/
def pNz (f i : Nat) : Bool := ((Nat.beq f 1575 || Nat.beq f 1577 || Nat.beq f 1586) && Nat.beq i 0) || pRy f i
theorem pNz_f {f i : Nat} : pNz f i = false ↔ ¬ ((f = 1570 ∨ f = 1571) ∨ ((f = 1574 ∨ f = 1575 ∨ f = 1576 ∨ f = 1577 ∨ f = 1580 ∨ f = 1581 ∨ f = 1586) ∧ i = 0)) := by
  unfold pNz
  rw [Bool.or_eq_false_iff, pRy_f, ← Bool.not_eq_true]
  simp only [Bool.or_eq_true, Bool.and_eq_true, Nat.beq_eq, or_assoc]
  omega
def FN (r : Nat) (t t' : S2) : Prop := Fr pNz t t' ∧ ∀ k, k < 300 * r → t' 1580 0 k = t 1580 0 k ∧ t' 1581 0 k = t 1581 0 k
theorem FN.rf {r : Nat} {t : S2} : FN r t t := ⟨Fr.rf, fun _ _ => ⟨rfl, rfl⟩⟩
theorem FN.tr {r : Nat} {t t' t'' : S2} (h : FN r t t') (h' : FN r t' t'') : FN r t t'' := ⟨h.1.tr h'.1, fun k hk => ⟨(h'.2 k hk).1.trans (h.2 k hk).1, (h'.2 k hk).2.trans (h.2 k hk).2⟩⟩
theorem FM.fn {r : Nat} {t t' : S2} (h : FM r t t') : FN r t t' := ⟨h.1.mo fun f i w => (Bool.or_eq_false_iff.mp w).2, h.2⟩
theorem FN.st {r g j : Nat} {v : Int} {t : S2} (hg : g = 1575 ∨ g = 1577 ∨ g = 1586) : FN r t (st2 t g 0 j v) := ⟨fr_one.mo (fun f i w => one_f (by have := pNz_f.mp w; omega)), fun k _ => by rw [st2_ne (by omega), st2_ne (by omega)]; exact ⟨rfl, rfl⟩⟩
/-- how deep, how many wait -/
def dpt : List Int → Nat
  | [] => 0
  | x :: r => dpt r + (if x = 9 ∨ x = 12 then 1 else 0)
def pnt : List Int → Nat
  | [] => 0
  | x :: r => pnt r + (if x = 12 then 0 else 1)
def tpS : List Int → Int
  | [] => -1
  | x :: _ => x
theorem dpt_app {B : List Int} : ∀ {A : List Int}, dpt (A ++ B) = dpt A + dpt B
  | [] => (Nat.zero_add _).symm
  | x :: r => by
    show dpt (r ++ B) + _ = dpt r + _ + dpt B
    rw [dpt_app]
    omega
theorem pnt_app {B : List Int} : ∀ {A : List Int}, pnt (A ++ B) = pnt A + pnt B
  | [] => (Nat.zero_add _).symm
  | x :: r => by
    show pnt (r ++ B) + _ = pnt r + _ + pnt B
    rw [pnt_app]
    omega
theorem dpt_rep {k : Nat} : dpt (List.replicate k 9) = k ∧ pnt (List.replicate k 9) = k := by
  induction k with
  | zero => exact ⟨rfl, rfl⟩
  | succ k ih =>
    rw [List.replicate_succ]
    show dpt (List.replicate k 9) + 1 = k + 1 ∧ pnt (List.replicate k 9) + 1 = k + 1
    omega
def SK (t : S2) (St : List Int) : Prop := t 1577 0 0 = St.length ∧ stkA (t 1586 0) St ∧ t 1575 0 0 = dpt St
theorem SK.fr {t t' : S2} {St : List Int} (h : SK t St) (h1 : t' 1577 0 0 = t 1577 0 0) (h2 : t' 1586 0 = t 1586 0) (h3 : t' 1575 0 0 = t 1575 0 0) : SK t' St := by
  unfold SK
  rw [h1, h2, h3]
  exact h
theorem SK.fm {t t' : S2} {r : Nat} {St : List Int} (h : SK t St) (e : FM r t t') : SK t' St := h.fr (by rw [e.1 _ _ (pRy_f.mpr (by omega))]) (e.1 _ _ (pRy_f.mpr (by omega))) (by rw [e.1 _ _ (pRy_f.mpr (by omega))])
theorem m195 {t : S2} {St : List Int} (h : SK t St) (hl : St.length ≤ 402) : f195 t = some (tpS St) := by
  obtain ⟨h1, h2, h3⟩ := h
  unfold f195
  simp only [bnd]
  rw [h1]
  match St, h1, h2, hl with
  | [], _, _, _ => rfl
  | x :: r, h1, h2, hl =>
    rw [List.length_cons] at hl ⊢
    rw [if_pos (by omega), jsub_e (by omega) (by omega), show ((r.length + 1 : Nat) : Int) - 1 = (r.length : Int) by omega, ld_t (by omega) (by omega), Int.toNat_natCast, h2.1]
    rfl
theorem QA.st {t : S2} {n q c g j : Nat} {v : Int} {bs : Nat → Nat} {E : List Int} {r : Nat} (h : QA t n bs q c E r) (hg : g = 1575 ∨ g = 1577 ∨ g = 1586) : QA (st2 t g 0 j v) n bs q c E r := by
  obtain ⟨a1, a2, a3, a4, a5, a6, a7⟩ := h
  exact ⟨a1.st (by omega), by rw [st2_ne (by omega)]; exact a2, by rw [st2_ne (by omega)]; exact a3, by rw [st2_ne (by omega)]; exact a4, by rw [st2_ne (by omega)]; exact a5, a6, fun k hk => (a7 k hk).fr (st2_row (by omega)) (st2_row (by omega))⟩
theorem QX.st {t : S2} {n q c g j : Nat} {v : Int} {bs : Nat → Nat} {E : List Int} {r : Nat} (h : QX t n bs q c E r) (hg : g = 1575 ∨ g = 1577 ∨ g = 1586) : QX (st2 t g 0 j v) n bs q c E r := ⟨h.1.st hg, h.2.st (by omega)⟩
theorem stkA_tl {a b : Nat → Int} {x : Int} {St : List Int} (h : stkA a (x :: St)) (e : ∀ j, j < St.length → b j = a j) : stkA b St := h.2.congr fun j hj => (e j hj).symm
/-- one that is answered -/
theorem m194_s {t : S2} {n q c : Nat} {bs : Nat → Nat} {E : List Int} {r : Nat} {St : List Int} {a op : Int} (h : QA t n bs q c E r) (hs : SK t (a :: St)) (hl : St.length ≤ 400) (hE : E.length < 300) (ha : (a = 9 ∧ op = -273) ∨ (a = 10 ∧ op = -271) ∨ (a = 11 ∧ op = -272)) : ∃ t', f194_a a t = some (.inl t') ∧ QA t' n bs q c (E ++ [op]) r ∧ SK t' St ∧ FN r t t' ∧ t' 1570 0 0 = t 1570 0 0 := by
  have hop : mopS op = a := by rcases ha with ⟨rfl, rfl⟩ | ⟨rfl, rfl⟩ | ⟨rfl, rfl⟩ <;> decide
  have ho : op < -268 := by omega
  obtain ⟨t1, b1, b2, b3, b4⟩ := m187 (b := 0) h hE hop (fun w => by omega) (fun w => by omega)
  have hs1 := hs.fm b3
  obtain ⟨s1, s2, s3⟩ := id hs1
  have hd : dpt (a :: St) = dpt St + (if a = 9 ∨ a = 12 then 1 else 0) := rfl
  have hdl : dpt St ≤ St.length := by
    clear hs1 s1 s2 s3 hs hl hd
    induction St with
    | nil => exact Nat.le_refl 0
    | cons x r ih =>
      show dpt r + _ ≤ _
      rw [List.length_cons]
      split <;> omega
  have e1 : jsub ((St.length + 1 : Nat) : Int) 1 = (St.length : Int) := by rw [jsub_e (by omega) (by omega)]; omega
  rw [List.length_cons] at s1
  unfold f194_a
  simp only [bnd, jn]
  rw [m195 hs (by rw [List.length_cons]; omega), cP_s, if_neg (show ¬ ¬ tpS (a :: St) = a from fun w => w rfl), h.1.2, if_neg (show ¬ ¬ (0 : Int) = 0 by decide), b1, cP_s, s1, e1]
  have fin : ∀ v : Int, v = dpt St → ∃ t', some ((.inl (st2 (st2 t1 1577 0 0 (St.length : Int)) 1575 0 0 v)) : S2 ⊕ S2) = some (.inl t') ∧ QA t' n bs q c (E ++ [op]) r ∧ SK t' St ∧ FN r t t' ∧ t' 1570 0 0 = t 1570 0 0 := fun v hv => by
    refine ⟨_, rfl, (b2.st (by omega)).st (by omega), ⟨?_, ?_, ?_⟩, (b3.fn.tr (FN.st (by omega))).tr (FN.st (by omega)), ?_⟩
    · rw [st2_ne (by omega), st2_eq]
    · exact stkA_tl s2 fun j hj => by rw [st2_ne (by omega), st2_ne (by omega)]
    · rw [st2_eq, hv]
    · rw [st2_ne (by omega), st2_ne (by omega)]; exact b4
  have e5 : st2 t1 1577 0 0 (St.length : Int) 1575 0 0 = dpt (a :: St) := by rw [st2_ne (by omega)]; exact s3
  rw [e5, hd]
  by_cases a9 : a = 9
  · rw [if_neg (show ¬ ¬ a = 9 from fun w => w a9), if_pos (Or.inl a9), jsub_e (by omega) (by omega)]
    exact fin _ (by omega)
  · rw [if_pos a9, if_neg (by omega), jsub_e (by omega) (by omega)]
    exact fin _ (by omega)
theorem m194 {t : S2} {n q c : Nat} {bs : Nat → Nat} {r : Nat} {a op : Int} (ha : (a = 9 ∧ op = -273) ∨ (a = 10 ∧ op = -271) ∨ (a = 11 ∧ op = -272)) (k : Nat) {E St : List Int} (h : QA t n bs q c E r) (hs : SK t (List.replicate k a ++ St)) (ht : tpS St ≠ a) (hl : St.length + k ≤ 400) (hE : E.length + k < 300) : ∃ t', f194 a t = some t' ∧ QA t' n bs q c (E ++ List.replicate k op) r ∧ SK t' St ∧ FN r t t' ∧ t' 1570 0 0 = t 1570 0 0 := by
  unfold f194
  have key := itr_inv (b := fun s2 => f194_a a s2) (fun (i : Nat) (y : S2) => i ≤ k ∧ QA y n bs q c (E ++ List.replicate i op) r ∧ SK y (List.replicate (k - i) a ++ St) ∧ FN r t y ∧ y 1570 0 0 = t 1570 0 0) (fun (y : S2) => QA y n bs q c (E ++ List.replicate k op) r ∧ SK y St ∧ FN r t y ∧ y 1570 0 0 = t 1570 0 0) k (by
    rintro i y hi ⟨g1, g2, g3, g4, g5⟩
    by_cases e : i = k
    · subst e
      rw [Nat.sub_self] at g3
      have g3 : SK y St := g3
      refine Or.inr ⟨y, ?_, g2, g3, g4, g5⟩
      unfold f194_a
      rw [m195 g3 (by omega), cP_s, if_pos ht]
    · rw [show k - i = (k - (i + 1)) + 1 by omega, List.replicate_succ] at g3
      have g3 : SK y (a :: (List.replicate (k - (i + 1)) a ++ St)) := g3
      obtain ⟨y', a1, a2, a3, a4, a5⟩ := m194_s g2 g3 (by rw [List.length_append, List.length_replicate]; omega) (by rw [List.length_append, List.length_replicate]; omega) ha
      rw [List.append_assoc] at a2
      exact Or.inl ⟨by omega, y', a1, by omega, by rw [List.replicate_succ']; exact a2, a3, g4.tr a4, by rw [a5, g5]⟩) am_fu (fu_lt (by omega)) t ⟨by omega, by rw [List.replicate_zero, List.append_nil]; exact h, hs, FN.rf, rfl⟩
  obtain ⟨y, k1, k2⟩ := key
  rw [k1, cP_s]
  exact ⟨y, rfl, k2⟩
/-- one that is opened: and, or -/
theorem SK.push {t : S2} {St : List Int} {a : Int} {v : Int} (h : SK t St) (hv : v = dpt (a :: St)) : SK (st2 (st2 (st2 t 1575 0 0 v) 1586 0 St.length a) 1577 0 0 ((St.length + 1 : Nat) : Int)) (a :: St) := by
  obtain ⟨h1, h2, h3⟩ := h
  refine ⟨?_, ?_, ?_⟩
  · rw [st2_eq, List.length_cons]
  · refine ⟨by rw [st2_ne (by omega), st2_eq], h2.congr fun j hj => ?_⟩
    rw [st2_ne (by omega), st2_ne (by omega), st2_ne (by omega)]
  · rw [st2_ne (by omega), st2_ne (by omega), st2_eq, hv]
theorem m192 {t : S2} {n q c : Nat} {bs : Nat → Nat} {E St : List Int} {r : Nat} {a : Int} (h : QX t n bs q c E r) (hs : SK t St) (hl : St.length ≤ 400) (ha : a = 10 ∨ a = 11) : ∃ t', f192 a t = some t' ∧ QX t' n bs q c E r ∧ SK t' (a :: St) ∧ FN r t t' := by
  obtain ⟨s1, s2, s3⟩ := id hs
  have hd : dpt (a :: St) = dpt St := by
    show dpt St + (if a = 9 ∨ a = 12 then 1 else 0) = _
    rw [if_neg (by omega)]
    rfl
  have e1 : jadd (St.length : Int) 1 = ((St.length + 1 : Nat) : Int) := by rw [jadd_e (by omega) (by omega)]; rfl
  have e0 : st2 t 1575 0 0 (dpt (a :: St) : Int) = t := st2_id (by rw [hd]; exact s3)
  have hp := hs.push (a := a) (v := dpt (a :: St)) rfl
  rw [e0] at hp
  unfold f192
  simp only [bnd, jn]
  rw [if_neg (by omega), if_pos (by omega), s1, sto_t (by omega) (by omega), Int.toNat_natCast, st2_ne (f' := 1577) (by omega), s1, e1]
  exact ⟨_, rfl, (h.st (by omega)).st (by omega), hp, (FN.st (by omega)).tr (FN.st (by omega))⟩
theorem m192n {t : S2} {n q c : Nat} {bs : Nat → Nat} {E St : List Int} {r : Nat} {a : Int} (h : QX t n bs q c E r) (hs : SK t St) (hl : St.length ≤ 400) (ha : a = 9 ∨ a = 12) (hd : dpt St ≤ 10) : if dpt St < 10 then (∃ t', f192 a t = some t' ∧ QX t' n bs q c E r ∧ SK t' (a :: St) ∧ FN r t t') else (∃ t', f192 a t = some t' ∧ QE t' n bs (1 + 8 * (q : Int) + 2) ∧ FN r t t' ∧ t' 1570 0 0 = q) := by
  obtain ⟨s1, s2, s3⟩ := id hs
  obtain ⟨g1, g2, g3, g4, g5⟩ := id h.2
  have hd1 : dpt (a :: St) = dpt St + 1 := by
    show dpt St + (if a = 9 ∨ a = 12 then 1 else 0) = _
    rw [if_pos ha]
  have e1 : jadd (St.length : Int) 1 = ((St.length + 1 : Nat) : Int) := by rw [jadd_e (by omega) (by omega)]; rfl
  have e2 : jadd (dpt St : Int) 1 = (dpt (a :: St) : Int) := by rw [jadd_e (by omega) (by omega), hd1]; rfl
  have hx : ∀ (R : Type) (x y : Option R), (if a = 9 then x else if ¬ a = 12 then y else x) = x := fun R x y => by
    by_cases y : a = 9
    · rw [if_pos y]
    · rw [if_neg y, if_neg (fun w => w (by omega))]
  unfold f192
  simp only [bnd, jn]
  rw [hx]
  by_cases y : dpt St < 10
  · have hp := hs.push (a := a) (v := dpt (a :: St)) rfl
    rw [if_pos y, s3, if_pos (show ¬ (dpt St : Int) = 10 by omega), e2, st2_ne (f' := 1577) (by omega), s1, sto_t (by omega) (by omega), Int.toNat_natCast, st2_ne (f' := 1577) (by omega), st2_ne (f' := 1577) (by omega), s1, e1]
    exact ⟨_, rfl, ((h.st (by omega)).st (by omega)).st (by omega), hp, ((FN.st (by omega)).tr (FN.st (by omega))).tr (FN.st (by omega))⟩
  · obtain ⟨t1, d1, d2, d3⟩ := h.1.1.fail (k := 2) (p := q) (by omega) (by omega)
    have hQ := h.1.er d3 d2
    have d4 : t1 1570 0 0 = q := by
      rw [m167 (by omega) (by omega)] at d1
      cases d1
      rw [fl_o (by omega)]; exact g4
    have o : ∀ f, f ≠ 1570 → f ≠ 1571 → t1 f 0 0 = t f 0 0 := fun f w1 w2 => by rw [d3 _ _ (p70_f.mpr (by omega))]
    rw [if_neg y, s3, if_neg (show ¬ ¬ (dpt St : Int) = 10 by omega), g4, d1, cP_s, o _ (by omega) (by omega), s3, e2, st2_ne (f' := 1577) (by omega), o _ (by omega) (by omega), s1, sto_t (by omega) (by omega), Int.toNat_natCast, st2_ne (f' := 1577) (by omega), st2_ne (f' := 1577) (by omega), o _ (by omega) (by omega), s1, e1]
    refine ⟨_, rfl, ((hQ.st (by omega)).st (by omega)).st (by omega), ((d3.fm.fn.tr (FN.st (by omega))).tr (FN.st (by omega))).tr (FN.st (by omega)), ?_⟩
    rw [st2_ne (by omega), st2_ne (by omega), st2_ne (by omega)]
    exact d4
