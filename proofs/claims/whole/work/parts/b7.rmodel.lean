/-! THE MODEL'S VALUES, TERMS, SUMS of a rule -/
def pRy (f i : Nat) : Bool := (Nat.beq f 1570 || Nat.beq f 1571) || ((Nat.beq f 1574 || Nat.beq f 1576 || Nat.beq f 1580 || Nat.beq f 1581) && Nat.beq i 0)
theorem pRy_f {f i : Nat} : pRy f i = false ↔ ¬ ((f = 1570 ∨ f = 1571) ∨ ((f = 1574 ∨ f = 1576 ∨ f = 1580 ∨ f = 1581) ∧ i = 0)) := by
  rw [← Bool.not_eq_true]
  unfold pRy
  simp only [Bool.or_eq_true, Bool.and_eq_true, Nat.beq_eq, or_assoc]
/-- what reading a rule may change: of the entries only those from 300 * r on -/
def FM (r : Nat) (t t' : S2) : Prop := Fr pRy t t' ∧ ∀ k, k < 300 * r → t' 1580 0 k = t 1580 0 k ∧ t' 1581 0 k = t 1581 0 k
theorem FM.rf {r : Nat} {t : S2} : FM r t t := ⟨Fr.rf, fun _ _ => ⟨rfl, rfl⟩⟩
theorem FM.tr {r : Nat} {t t' t'' : S2} (h : FM r t t') (h' : FM r t' t'') : FM r t t'' := ⟨h.1.tr h'.1, fun k hk => ⟨(h'.2 k hk).1.trans (h.2 k hk).1, (h'.2 k hk).2.trans (h.2 k hk).2⟩⟩
theorem FM.of {r : Nat} {t t' : S2} {P : Nat → Nat → Bool} (h : Fr P t t') (hp : ∀ f i, pRy f i = false → P f i = false) (h1 : P 1580 0 = false) (h2 : P 1581 0 = false) : FM r t t' := ⟨h.mo hp, fun k _ => ⟨by rw [h _ _ h1], by rw [h _ _ h2]⟩⟩
abbrev pb70 : Nat → Nat → Bool := p70
theorem Fr.fm {r : Nat} {t t' : S2} (h : Fr pb70 t t') : FM r t t' := FM.of h (fun f i w => p70_f.mpr (by have := pRy_f.mp w; omega)) (p70_f.mpr (by omega)) (p70_f.mpr (by omega))
theorem FM.st {r g j : Nat} {v : Int} {t : S2} (hg : g = 1570 ∨ g = 1571 ∨ g = 1574 ∨ g = 1576) : FM r t (st2 t g 0 j v) := FM.of fr_one (fun f i w => one_f (by have := pRy_f.mp w; omega)) (one_f (by omega)) (one_f (by omega))
/-- the model at a token of a rule, entries E in slot r -/
def QA (t : S2) (n : Nat) (bs : Nat → Nat) (q c : Nat) (E : List Int) (r : Nat) : Prop := MAt t n bs q ∧ t 1576 0 0 = c ∧ t 1574 0 0 = E.length ∧ t 1572 0 0 = r ∧ t 1578 0 0 = 13 ∧ r < 6 ∧ ∀ k, k < E.length → entM t r k (E.getD k 0)
/-- after a fault -/
def QE (t : S2) (n : Nat) (bs : Nat → Nat) (e : Int) : Prop := MEr t n bs e ∧ t 1578 0 0 = 13
def QX (t : S2) (n : Nat) (bs : Nat → Nat) (q c : Nat) (E : List Int) (r : Nat) : Prop := QA t n bs q c E r ∧ MRd t n bs q
theorem QA.at {t t' : S2} {n q q' c : Nat} {bs : Nat → Nat} {E : List Int} {r : Nat} (h : QA t n bs q c E r) (e : Fr p70 t t') (h2 : MAt t' n bs q') : QA t' n bs q' c E r := by
  obtain ⟨a1, a2, a3, a4, a5, a6, a7⟩ := h
  refine ⟨h2, ?_, ?_, ?_, ?_, a6, fun k hk => ?_⟩
  · rw [e _ _ (p70_f.mpr (by omega))]; exact a2
  · rw [e _ _ (p70_f.mpr (by omega))]; exact a3
  · rw [e _ _ (p70_f.mpr (by omega))]; exact a4
  · rw [e _ _ (p70_f.mpr (by omega))]; exact a5
  · exact (a7 k hk).fr (e _ _ (p70_f.mpr (by omega))) (e _ _ (p70_f.mpr (by omega)))
theorem QA.er {t t' : S2} {n q c : Nat} {bs : Nat → Nat} {E : List Int} {r : Nat} {x : Int} (h : QA t n bs q c E r) (e : Fr p70 t t') (h2 : MEr t' n bs x) : QE t' n bs x := ⟨h2, by rw [e _ _ (p70_f.mpr (by omega))]; exact h.2.2.2.2.1⟩
theorem QE.er {t t' : S2} {n : Nat} {bs : Nat → Nat} {x : Int} (h : QE t n bs x) (e : Fr p70 t t') (h2 : MEr t' n bs x) : QE t' n bs x := ⟨h2, by rw [e _ _ (p70_f.mpr (by omega))]; exact h.2⟩
theorem QE.st {t : S2} {n g j : Nat} {bs : Nat → Nat} {x v : Int} (h : QE t n bs x) (hg : g ≠ 1569 ∧ g ≠ 1570 ∧ g ≠ 1571 ∧ g ≠ 1578 ∧ g ≠ 1579) : QE (st2 t g 0 j v) n bs x := ⟨h.1.st (by omega), by rw [st2_ne (by omega)]; exact h.2⟩
theorem QE.go {t : S2} {n q : Nat} {bs : Nat → Nat} {x : Int} (h : QE t n bs x) (hq : q ≤ n) : QE (st2 t 1570 0 0 (q : Int)) n bs x := by
  obtain ⟨⟨⟨p, h1⟩, h2, h3⟩, h4⟩ := h
  exact ⟨⟨⟨q, h1.go hq⟩, by rw [st2_ne (by omega)]; exact h2, h3⟩, by rw [st2_ne (by omega)]; exact h4⟩
theorem QA.bl {t : S2} {n q c : Nat} {bs : Nat → Nat} {E : List Int} {r : Nat} (h : QA t n bs q c E r) : f163 t = some (atP t q) ∧ QX (atP t q) n bs q c E r := by
  obtain ⟨g1, g2, g3⟩ := h.1.bl
  exact ⟨g1, h.at atP_fr g2, g3⟩
theorem QX.sign {t : S2} {n q c : Nat} {bs : Nat → Nat} {E : List Int} {r : Nat} (h : QX t n bs q c E r) : f164 t = some (bt n bs q) ∧ t 1570 0 0 = q := by
  obtain ⟨g1, g2, g3, g4, g5⟩ := h.2
  exact ⟨m164 g1 g2 g3 g4, g4⟩
/-- behind a token of length L -/
theorem QX.skip {t : S2} {n q c L : Nat} {bs : Nat → Nat} {E : List Int} {r : Nat} (h : QX t n bs q c E r) (hq : q < n) (hL : tL n bs q = L) : QA (st2 t 1570 0 0 ((q + L : Nat) : Int)) n bs (nq n bs q) c E r := by
  have hb := tL_bd (bs := bs) hq
  refine h.1.at (Fr.rf.st rfl) ⟨⟨q + L, h.2.go (by omega), ?_⟩, ?_⟩
  · unfold nq
    rw [if_neg (by omega), hL]
  · rw [st2_ne (by omega)]; exact h.1.1.2
theorem ent_st {t : S2} {r k j : Nat} {a b op : Int} (h : entM t r k op) (hk : k ≠ j) : entM (st2 (st2 t 1580 0 (300 * r + j) a) 1581 0 (300 * r + j) b) r k op := by
  obtain ⟨h1, h2, h3⟩ := h
  refine ⟨?_, fun w => ?_, fun w => ?_⟩
  · rw [st2_ne (by omega), st2_ne (by omega)]; exact h1
  · rw [st2_ne (by omega), st2_ne (by omega)]; exact h2 w
  · rw [st2_ne (by omega), st2_ne (by omega)]; exact h3 w
theorem m187 {t : S2} {n q c : Nat} {bs : Nat → Nat} {E : List Int} {r : Nat} {a b op : Int} (h : QA t n bs q c E r) (hE : E.length < 300) (ha : mopS op = a) (h0 : 0 ≤ op → op < 100000 ∧ b = op) (h1 : -268 ≤ op ∧ op ≤ -256 → b = -op - 256) : ∃ t', f187 a b t = some t' ∧ QA t' n bs q c (E ++ [op]) r ∧ FM r t t' ∧ t' 1570 0 0 = t 1570 0 0 := by
  obtain ⟨a1, a2, a3, a4, a5, a6, a7⟩ := h
  have e0 : jadd (jmul 300 (r : Int)) (E.length : Int) = ((300 * r + E.length : Nat) : Int) := m206_i a6 hE
  have e1 : jadd (E.length : Int) 1 = ((E.length + 1 : Nat) : Int) := by rw [jadd_e (by omega) (by omega)]; rfl
  unfold f187
  simp only [bnd]
  rw [a1.2, if_neg (by decide), a4, a3, e0, sto_t (by omega) (by omega), Int.toNat_natCast, st2_ne (f' := 1572) (by omega), st2_ne (f' := 1574) (by omega), a4, a3, e0, sto_t (by omega) (by omega), Int.toNat_natCast, st2_ne (f' := 1574) (by omega), st2_ne (f' := 1574) (by omega), a3, e1]
  refine ⟨_, rfl, ⟨((a1.st (by omega)).st (by omega)).st (by omega), ?_, ?_, ?_, ?_, a6, fun k hk => ?_⟩, ⟨?_, fun k hk => ?_⟩, ?_⟩
  · rw [st2_ne (by omega), st2_ne (by omega), st2_ne (by omega)]; exact a2
  · rw [st2_eq, List.length_append, List.length_singleton]
  · rw [st2_ne (by omega), st2_ne (by omega), st2_ne (by omega)]; exact a4
  · rw [st2_ne (by omega), st2_ne (by omega), st2_ne (by omega)]; exact a5
  · rw [List.length_append, List.length_singleton] at hk
    have key : entM (st2 (st2 t 1580 0 (300 * r + E.length) a) 1581 0 (300 * r + E.length) b) r k ((E ++ [op]).getD k 0) := by
      by_cases e : k = E.length
      · rw [e, List.getD_eq_getElem?_getD, List.getElem?_append_right (by omega), Nat.sub_self]
        show entM _ r E.length op
        refine ⟨?_, fun w => ?_, fun w => ?_⟩
        · rw [st2_ne (by omega), st2_eq, ha]
        · rw [st2_eq]; exact h0 w
        · rw [st2_eq]; exact h1 w
      · rw [List.getD_eq_getElem?_getD, List.getElem?_append_left (by omega), ← List.getD_eq_getElem?_getD]
        exact ent_st (a7 k (by omega)) e
    exact key.fr (st2_row (by omega)) (st2_row (by omega))
  · exact ((Fr.rf.st rfl).st rfl).st rfl
  · rw [st2_ne (by omega), st2_ne (by omega), st2_ne (by omega), st2_ne (by omega), st2_ne (by omega), st2_ne (by omega)]
    exact ⟨rfl, rfl⟩
  · rw [st2_ne (by omega), st2_ne (by omega), st2_ne (by omega)]
theorem m187x {t : S2} {n q c : Nat} {bs : Nat → Nat} {E : List Int} {r : Nat} {a op : Int} (h : QX t n bs q c E r) (hE : E.length < 300) (ha : mopS op = a) (ho : op < -268) : ∃ t', f187 a 0 t = some t' ∧ QX t' n bs q c (E ++ [op]) r ∧ FM r t t' := by
  obtain ⟨t', b1, b2, b3, b4⟩ := m187 (b := 0) h.1 hE ha (fun w => by omega) (fun w => by omega)
  refine ⟨t', b1, ⟨b2, ?_⟩, b3⟩
  obtain ⟨g1, g2, g3, g4, g5⟩ := h.2
  obtain ⟨⟨⟨p, k1, -⟩, -⟩, -⟩ := b2
  exact ⟨k1.1, g2, g3, by rw [b4]; exact g4, g5⟩
theorem m187e {t : S2} {n : Nat} {bs : Nat → Nat} {e a b : Int} (h : QE t n bs e) : f187 a b t = some t := by
  obtain ⟨⟨h1, h2, h3⟩, h4⟩ := h
  unfold f187
  rw [bnd, h2, if_pos (by omega)]
theorem m186 {t : S2} {n q c p : Nat} {bs : Nat → Nat} {E : List Int} {r : Nat} (h : QA t n bs q c E r) (hp : p ≤ 400) (hc : c ≤ 60) : if 60 ≤ c then (∃ t', f186 p t = some t' ∧ QE t' n bs (1 + 8 * (p : Int) + 3) ∧ FM r t t' ∧ t' 1570 0 0 = t 1570 0 0) else f186 p t = some (st2 t 1576 0 0 ((c + 1 : Nat) : Int)) ∧ QA (st2 t 1576 0 0 ((c + 1 : Nat) : Int)) n bs q (c + 1) E r := by
  obtain ⟨a1, a2, a3, a4, a5, a6, a7⟩ := id h
  by_cases y : 60 ≤ c
  · rw [if_pos y]
    obtain ⟨t1, b1, b2, b3⟩ := a1.fail (k := 3) (p := p) (by omega) hp
    have b4 : t1 1570 0 0 = t 1570 0 0 := by
      rw [m167 (by omega) hp] at b1
      cases b1
      exact fl_o (by omega)
    have hM := h.er b3 b2
    refine ⟨st2 t1 1576 0 0 (jadd (t1 1576 0 0) 1), ?_, hM.st (by omega), b3.fm.tr (FM.st (by omega)), by rw [st2_ne (by omega)]; exact b4⟩
    unfold f186
    simp only [bnd, jn]
    rw [a2, if_neg (show ¬ ¬ (c : Int) = 60 by omega), b1, cP_s]
  · rw [if_neg y]
    refine ⟨?_, a1.st (by omega), st2_eq, ?_, ?_, ?_, a6, fun k hk => (a7 k hk).fr (st2_row (by omega)) (st2_row (by omega))⟩
    · unfold f186
      simp only [bnd, jn]
      rw [a2, if_pos (show ¬ (c : Int) = 60 by omega), jadd_e (by omega) (by omega)]
      rfl
    · rw [st2_ne (by omega)]; exact a3
    · rw [st2_ne (by omega)]; exact a4
    · rw [st2_ne (by omega)]; exact a5
theorem m186e {t : S2} {n p : Nat} {bs : Nat → Nat} {e : Int} {r : Nat} (h : QE t n bs e) (hp : p ≤ 400) : ∃ t', f186 p t = some t' ∧ QE t' n bs e ∧ FM r t t' ∧ t' 1570 0 0 = t 1570 0 0 := by
  unfold f186
  simp only [bnd, jn]
  by_cases y : t 1576 0 0 = 60
  · have hf : flS t 3 p = t := by
      unfold flS
      rw [if_pos (by have := h.1.2; omega)]
    rw [if_neg (fun w => w y), m167 (by omega) hp, hf, cP_s]
    exact ⟨_, rfl, h.st (by omega), FM.st (by omega), by rw [st2_ne (by omega)]⟩
  · rw [if_pos y]
    exact ⟨_, rfl, h.st (by omega), FM.st (by omega), by rw [st2_ne (by omega)]⟩
/-! words -/
theorem m188 : ∀ j : Fin 13, f188 (j.val : Int) = some (wT j.val) := by decide
theorem tK_255 {n q : Nat} {bs : Nat → Nat} (hb : ∀ k, k < n → bs k < 256) : ∀ i, i < 13 → (wAt n bs q (m2_tb (wT i)) = true ↔ tK n bs q = 256 + (i : Int)) := fun i hi => (tK_w (i := i) hb (by omega)).symm
def vK (K : Int) : Nat := if 256 ≤ K ∧ K ≤ 268 then (K - 256).toNat else 13
theorem m185a {t : S2} {n q : Nat} {bs : Nat → Nat} (h : MRd t n bs q) (h13 : t 1578 0 0 = 13) : itr (fun x5 => f185_a x5 t) am_fu 0 = some ((vK (tK n bs q) : Nat) : Int) := by
  obtain ⟨g1, g2, g3, g4, g5⟩ := h
  have hk : vK (tK n bs q) ≤ 13 := by
    unfold vK
    split <;> omega
  have hw : ∀ j : Nat, j < 13 → f185_a (j : Int) t = if vK (tK n bs q) = j then some (Sum.inr (j : Int)) else some (.inl ((j + 1 : Nat) : Int)) := fun j hj => by
    have w2 := wT_k ⟨j, by omega⟩
    have w3 := m188 ⟨j, hj⟩
    have w4 := tK_255 (n := n) (q := q) (bs := bs) g2 j hj
    dsimp only at w2 w3
    unfold f185_a
    rw [bnd, h13, if_neg (by omega), w3, cP_s, gd_t w2.1, m166 g1 g2 g3 g4 g5 w2.1 w2.2, cP_s]
    by_cases y : vK (tK n bs q) = j
    · have : tK n bs q = 256 + (j : Int) := by
        unfold vK at y
        split at y <;> omega
      rw [if_pos y, if_pos (w4.mpr this), if_pos ne10]
    · have : ¬ tK n bs q = 256 + (j : Int) := fun w => y (by
        unfold vK
        rw [if_pos (by omega)]
        omega)
      rw [if_neg y, if_neg (fun w => this (w4.mp w)), if_neg (by decide), bnd, jadd_e (by omega) (by omega)]
      rfl
  refine itr_seq (fun i => (i : Int)) (vK (tK n bs q)) _ ?_ ?_ am_fu (fu_lt (by omega))
  · intro i hi
    show f185_a (i : Int) t = _
    rw [hw i (by omega), if_neg (by omega)]
  · show f185_a _ t = _
    by_cases y : vK (tK n bs q) = 13
    · unfold f185_a
      rw [bnd, h13, if_pos (by omega)]
    · rw [hw _ (by omega), if_pos rfl]
theorem m185 {t : S2} {n q c : Nat} {bs : Nat → Nat} {E : List Int} {r : Nat} (h : QA t n bs q c E r) (hc : c ≤ 60) (hE : E.length < 300) : ∃ t', f185 t = some t' ∧ FM r t t' ∧ match aVal n bs q c with
    | .inl e => QE t' n bs e
    | .inr (q', c', X) => QA t' n bs q' c' (E ++ X) r := by
  obtain ⟨g1, g2⟩ := h.bl
  have hb := g2.2.2.1
  have hle := g2.1.1.le
  obtain ⟨k1, k2, k3, k4, k5⟩ := id g2.2
  have hF : FM r t (atP t q) := atP_fr.fm
  unfold f185 aVal
  rw [g1, cP_s, bnd, k4]
  by_cases d : isD (bt n bs q) = true
  · have hq := bt_n1 d
    have hr := run_bd (q := isD) (bs := bs) k5
    have hK := (tK_2 hb).mpr d
    have hV := tV_d (n := n) (bs := bs) d
    have hm := m171 k1 k2 k3 k4 k5
    rw [if_pos d, atP_at] at hm
    rw [m172t k1 k2 k3 k4 d, cP_s, if_neg ne10, if_pos (show isV (tK n bs q) = true by rw [hK]; rfl), hV]
    by_cases c5 : run isD n bs q ≤ 5
    · have hv := dv_5 (n := n) (p := q) (bs := bs) (k := run isD n bs q) (by omega) c5
      have hn : nV n bs q = dv n bs q (run isD n bs q) := if_pos c5
      have hsk := g2.skip hq (tL_d d)
      have e1 : st2 (atP t q) 1570 0 0 ((q + run isD n bs q : Nat) : Int) = atP t (q + run isD n bs q) := atP_at
      rw [e1] at hsk
      have h6 := m186 (p := q) hsk (by omega) hc
      rw [if_pos c5] at hm
      rw [hm, cR_s, if_neg (show ¬ nV n bs q = -1 by omega)]
      by_cases y : 60 ≤ c
      · rw [if_pos y] at h6 ⊢
        obtain ⟨t', b1, b2, b3, -⟩ := h6
        rw [b1, cP_s, m187e b2, cP_s]
        exact ⟨t', rfl, (show FM r t (atP t (q + run isD n bs q)) from atP_fr.fm).tr b3, b2⟩
      · rw [if_neg y] at h6 ⊢
        obtain ⟨b1, b2⟩ := h6
        have hcd : cdV n bs q = nV n bs q := by
          unfold cdV
          rw [if_pos hK, hV]
        obtain ⟨t', d1, d2, d3, -⟩ := m187 (a := 0) (b := nV n bs q) (op := nV n bs q) b2 hE (mop_v (by omega)) (fun _ => ⟨by omega, rfl⟩) (fun w => by omega)
        rw [b1, cP_s, d1, cP_s]
        refine ⟨t', rfl, ((show FM r t (atP t (q + run isD n bs q)) from atP_fr.fm).tr (FM.st (by omega))).tr d3, ?_⟩
        rw [hcd]
        exact d2
    · have hn : nV n bs q = -1 := if_neg c5
      rw [if_neg c5] at hm
      have e2 : atP t (q + run isD n bs q) 1571 0 0 = 0 := by rw [atP_o (by omega)]; exact h.1.2
      have hfr : Fr p70 t (flS (atP t (q + run isD n bs q)) 1 q) := atP_fr.tr flS_fr
      have hME : QE (flS (atP t (q + run isD n bs q)) 1 q) n bs (1 + 8 * (q : Int) + 1) := by
        refine h.er hfr ⟨⟨q + run isD n bs q, ?_⟩, fl_e e2, by omega⟩
        have := (g2.2.go hr).fl (k := 1) (q := q)
        rw [atP_at] at this
        exact this
      obtain ⟨t', b1, b2, b3, -⟩ := m186e (p := q) (r := r) hME (by omega)
      rw [hm, cR_s, b1, cP_s, m187e b2, cP_s, if_pos hn]
      exact ⟨t', rfl, hfr.fm.tr b3, b2⟩
  · have hK : ¬ tK n bs q = 2 := fun w => d ((tK_2 hb).mp w)
    have h13 : atP t q 1578 0 0 = 13 := g2.1.2.2.2.2.1
    rw [m172f k1 k2 k3 k4 (Bool.eq_false_iff.mpr d), cP_s, if_pos rfl, m185a g2.2 h13, cP_s, bnd, h13]
    by_cases w : 256 ≤ tK n bs q ∧ tK n bs q ≤ 268
    · obtain ⟨i, hi⟩ := Int.eq_ofNat_of_zero_le (show 0 ≤ tK n bs q - 256 by omega)
      have hi13 : i < 13 := by omega
      have hKi : tK n bs q = 256 + (i : Int) := by omega
      have hvK : vK (tK n bs q) = i := by
        unfold vK
        rw [if_pos w]
        omega
      have hV : tV n bs q = 0 := if_neg d
      have w2 := wT_k ⟨i, by omega⟩
      have w3 := m188 ⟨i, hi13⟩
      dsimp only at w2 w3
      obtain ⟨l1, l2⟩ := tL_w (i := i) hb (by omega) hKi
      have hl := (lenk ⟨wT i, w2.1⟩).2 w2.2
      dsimp only at hl
      have h6 := m186 (p := q) g2.1 (by omega) hc
      rw [hvK, if_pos (show ¬ (i : Int) = 13 by omega), if_pos (show isV (tK n bs q) = true from decide_eq_true (Or.inr w)), hV, if_neg (show ¬ (0 : Int) = -1 by decide)]
      by_cases y : 60 ≤ c
      · rw [if_pos y] at h6 ⊢
        obtain ⟨t1, b1, b2, b3, b4⟩ := h6
        rw [b1, cP_s, bnd, b4, k4, w3, cP_s, gd_t w2.1, m274 w2.1, cP_s, jadd_e (by omega) (by omega), bnd]
        have hbd := tL_bd (bs := bs) l2
        have b5 := b2.go (q := q + (m2_tb (wT i)).length) (by omega)
        rw [show ((q : Int) + ((m2_tb (wT i)).length : Int)) = ((q + (m2_tb (wT i)).length : Nat) : Int) by omega, m187e b5, cP_s]
        exact ⟨_, rfl, (hF.tr b3).tr (FM.st (by omega)), b5⟩
      · rw [if_neg y] at h6 ⊢
        obtain ⟨b1, b2⟩ := h6
        have b3 : QX (st2 (atP t q) 1576 0 0 ((c + 1 : Nat) : Int)) n bs q (c + 1) E r := ⟨b2, g2.2.st (by omega)⟩
        have b4 := b3.skip l2 l1
        have e4 : st2 (atP t q) 1576 0 0 ((c + 1 : Nat) : Int) 1570 0 0 = q := by rw [st2_ne (by omega)]; exact k4
        have hcd : cdV n bs q = -(256 + (i : Int)) := by
          unfold cdV
          rw [if_neg hK, hKi]
        obtain ⟨t', d1, d2, d3, -⟩ := m187 (a := 1) (b := i) (op := -(256 + (i : Int))) b4 hE (mop_w (by omega) (by omega)) (fun w => by omega) (fun w => by omega)
        rw [b1, cP_s, bnd, e4, w3, cP_s, gd_t w2.1, m274 w2.1, cP_s, jadd_e (by omega) (by omega), bnd, show ((q : Int) + ((m2_tb (wT i)).length : Int)) = ((q + (m2_tb (wT i)).length : Nat) : Int) by omega, d1, cP_s]
        refine ⟨t', rfl, ((hF.tr (FM.st (by omega))).tr (FM.st (by omega))).tr d3, ?_⟩
        rw [hcd]
        exact d2
    · have hvK : vK (tK n bs q) = 13 := if_neg w
      obtain ⟨t', b1, b2, b3⟩ := g2.1.1.fail (k := 0) (p := q) (by omega) (by omega)
      rw [hvK, if_neg (show ¬ ¬ ((13 : Nat) : Int) = 13 from fun w => w rfl), b1, cP_s, if_neg (show ¬ isV (tK n bs q) = true from fun y => by
        have := of_decide_eq_true y
        omega)]
      exact ⟨t', rfl, hF.tr b3.fm, g2.1.er b3 b2⟩
theorem QE.bl {t : S2} {n : Nat} {e : Int} {bs : Nat → Nat} {r : Nat} (h : QE t n bs e) : ∃ t' q, f163 t = some t' ∧ QE t' n bs e ∧ FM r t t' ∧ MRd t' n bs q := by
  obtain ⟨⟨⟨p, a1⟩, a2, a3⟩, a4⟩ := h
  obtain ⟨k1, k2⟩ := a1.bl
  exact ⟨_, _, k1, ⟨⟨⟨_, k2⟩, by rw [atP_o (by omega)]; exact a2, a3⟩, by rw [atP_o (by omega)]; exact a4⟩, atP_fr.fm, k2⟩
theorem m185e {t : S2} {n : Nat} {bs : Nat → Nat} {e : Int} {r : Nat} (h : QE t n bs e) : ∃ t', f185 t = some t' ∧ QE t' n bs e ∧ FM r t t' := by
  obtain ⟨t1, q, g1, g2, g3, g4⟩ := QE.bl (r := r) h
  obtain ⟨k1, k2, k3, k4, k5⟩ := id g4
  have hf : ∀ (z : S2) (k : Int) (p : Nat), z 1571 0 0 = e → flS z k p = z := fun z k p hz => by
    unfold flS
    rw [if_pos (by have := h.1.2.2; omega)]
  unfold f185
  rw [g1, cP_s, bnd, k4]
  by_cases d : isD (bt n bs q) = true
  · have hr := run_bd (q := isD) (bs := bs) k5
    have hm := m171 k1 k2 k3 k4 k5
    have e2 : atP t1 (q + run isD n bs q) 1571 0 0 = e := by rw [atP_o (by omega)]; exact g2.1.2.1
    rw [if_pos d, hf _ _ _ e2] at hm
    have hx : ∃ v, f171 99999 t1 = some (v, atP t1 (q + run isD n bs q)) := by
      rw [hm]
      split <;> exact ⟨_, rfl⟩
    obtain ⟨v, hv⟩ := hx
    obtain ⟨t', b1, b2, b3, -⟩ := m186e (p := q) (r := r) (g2.go hr) (by omega)
    rw [m172t k1 k2 k3 k4 d, cP_s, if_neg ne10, hv, cR_s]
    show ∃ t', (cP (f186 q (st2 t1 1570 0 0 ((q + run isD n bs q : Nat) : Int))) _) = some t' ∧ _
    rw [b1, cP_s, m187e b2, cP_s]
    exact ⟨t', rfl, b2, (g3.tr (FM.st (by omega))).tr b3⟩
  · rw [m172f k1 k2 k3 k4 (Bool.eq_false_iff.mpr d), cP_s, if_pos rfl, m185a g4 g2.2, cP_s, bnd, g2.2]
    by_cases w : vK (tK n bs q) = 13
    · rw [if_neg (show ¬ ¬ ((vK (tK n bs q) : Nat) : Int) = 13 by omega), m167 (by omega) (by omega), hf _ _ _ g2.1.2.1, cP_s]
      exact ⟨_, rfl, g2, g3⟩
    · have hw : 256 ≤ tK n bs q ∧ tK n bs q ≤ 268 := by
        by_cases y : 256 ≤ tK n bs q ∧ tK n bs q ≤ 268
        · exact y
        · exact absurd (if_neg y) w
      obtain ⟨i, hi⟩ := Int.eq_ofNat_of_zero_le (show 0 ≤ tK n bs q - 256 by omega)
      have hi13 : i < 13 := by omega
      have hKi : tK n bs q = 256 + (i : Int) := by omega
      have hvK : vK (tK n bs q) = i := by
        unfold vK
        rw [if_pos hw]
        omega
      have w2 := wT_k ⟨i, by omega⟩
      have w3 := m188 ⟨i, hi13⟩
      dsimp only at w2 w3
      obtain ⟨l1, l2⟩ := tL_w (i := i) k2 (by omega) hKi
      have hbd := tL_bd (bs := bs) l2
      obtain ⟨t2, b1, b2, b3, b4⟩ := m186e (p := q) (r := r) g2 (by omega)
      have b5 := b2.go (q := q + (m2_tb (wT i)).length) (by omega)
      rw [if_pos (show ¬ ((vK (tK n bs q) : Nat) : Int) = 13 by omega), hvK, b1, cP_s, bnd, b4, k4, w3, cP_s, gd_t w2.1, m274 w2.1, cP_s, jadd_e (by omega) (by omega), bnd, show ((q : Int) + ((m2_tb (wT i)).length : Int)) = ((q + (m2_tb (wT i)).length : Nat) : Int) by omega, m187e b5, cP_s]
      exact ⟨_, rfl, b5, (g3.tr b3).tr (FM.st (by omega))⟩
