/-! GAME, the model: all turns gone through -/
def stp {α β : Type} (b : α → Option (α ⊕ β)) : Nat → α → α → Prop
  | 0, a, a' => a = a'
  | m + 1, a, a' => ∃ a1, b a = some (.inl a1) ∧ stp b m a1 a'
theorem stp_tr {α β : Type} {b : α → Option (α ⊕ β)} : ∀ {m k : Nat} {a a' a'' : α}, stp b m a a' → stp b k a' a'' → stp b (m + k) a a''
  | 0, k, a, a', a'', h, h' => by
    have h : a = a' := h
    subst h
    rw [Nat.zero_add]
    exact h'
  | m + 1, k, a, a', a'', ⟨a1, h1, h2⟩, h' => by
    rw [Nat.add_right_comm]
    exact ⟨a1, h1, stp_tr h2 h'⟩
theorem stp_1 {α β : Type} {b : α → Option (α ⊕ β)} {a a' : α} (h : b a = some (.inl a')) : stp b 1 a a' := ⟨a', h, rfl⟩
theorem itr_stp {α β : Type} {b : α → Option (α ⊕ β)} {r : β} : ∀ {m n : Nat} {a a' : α}, stp b m a a' → b a' = some (.inr r) → m < n → itr b n a = some r
  | 0, n, a, a', h, hr, hn => by
    have h : a = a' := h
    subst h
    match n, hn with
    | n + 1, _ => unfold itr; rw [hr]
  | m + 1, n, a, a', ⟨a1, h1, h2⟩, hr, hn => by
    match n, hn with
    | n + 1, hn =>
      unfold itr
      rw [h1]
      exact itr_stp h2 hr (by omega)
theorem TV.of {at' : Nat} {v : Int} {z z1 z' : S2} (h : TV at' v z1 z') (h1 : ∀ j, j ≤ at' → z1 1601 0 j = z 1601 0 j) (h2 : z1 1602 0 0 = z 1602 0 0) (h3 : z1 1600 0 0 = z 1600 0 0) : TV at' v z z' := by
  obtain ⟨a1, a2, a3, a4⟩ := h
  refine ⟨fun j hj => (a1 j hj).trans (h1 j (by omega)), fun o a ho hp => a2 o a ((h1 at' (Nat.le_refl _)).trans ho) hp, fun h0 => (a3 h0).trans h2, fun h0 o ho hp p hq => a4 h0 o ((h1 0 (by omega)).trans ho) (fun p hp' => ⟨(hp p hp').1, h2.trans (hp p hp').2⟩) p (by rw [h3]; exact hq)⟩
/-- the top of the loop at a turn, k acts gone through -/
def Top (t : S2) (C : V2) (ks : Nat → Nat) (at' k : Nat) (o : Option (Int × Int)) (z : S2) : Prop := KF t z ∧ z 1537 0 3 = C 388 0 ∧ (∀ j, j < at' → z 1600 0 j = ((ks j : Nat) : Int) - 1) ∧ z 1600 0 at' = (k : Int) - 2 ∧ z 1601 0 at' = vE o
/-- what may not change while a turn is gone through -/
def Un (at' : Nat) (z z' : S2) : Prop := (∀ j, j < at' → z' 1600 0 j = z 1600 0 j ∧ z' 1601 0 j = z 1601 0 j) ∧ (at' ≠ 0 → z' 1602 0 0 = z 1602 0 0)
theorem Un.rf {at' : Nat} {z : S2} : Un at' z z := ⟨fun _ _ => ⟨rfl, rfl⟩, fun _ => rfl⟩
theorem Un.tr {at' : Nat} {z z' z'' : S2} (h : Un at' z z') (h' : Un at' z' z'') : Un at' z z'' := ⟨fun j hj => ⟨((h'.1 j hj).1).trans (h.1 j hj).1, ((h'.1 j hj).2).trans (h.1 j hj).2⟩, fun h0 => (h'.2 h0).trans (h.2 h0)⟩
def valK (C Y : V2) (code : List Int) (f g : Nat) (ks : Nat → Nat) (d at' : Nat) (k : Nat) : Int := gV C code f g d (at' + 1) (nxY C code (pathY C Y code ks at') k)
def bK (C Y : V2) (code : List Int) (f g : Nat) (ks : Nat → Nat) (d at' k : Nat) : Option (Int × Int) := bst (evT at') (avB C (pathY C Y code ks at') (famT f g at')) (valK C Y code f g ks d at') k
/-- at turn 0 the first act is kept -/
def FA (at' : Nat) (o : Option (Int × Int)) (z : S2) : Prop := at' = 0 → ∀ p, o = some p → z 1602 0 0 = p.2
abbrev bPl (f g n : Int) : Int × S2 → Option ((Int × S2) ⊕ S2) := fun (x7, s8) => f243_a f g n x7 s8
/-- one act more at a turn: d turns are behind it -/
def StepOK (t : S2) (C Y : V2) (code : List Int) (f g n d at' B : Nat) : Prop := ∀ (ks : Nat → Nat) (k : Nat) (z : S2), pathOK C Y code f g ks at' → (k : Int) ≤ 10 * C 388 0 → Top t C ks at' k (bK C Y code f g ks d at' k) z → FA at' (bK C Y code f g ks d at' k) z → ∃ m z', m ≤ B ∧ stp (bPl f g n) m ((at' : Int), z) ((at' : Int), z') ∧ Top t C ks at' (k + 1) (bK C Y code f g ks d at' (k + 1)) z' ∧ FA at' (bK C Y code f g ks d at' (k + 1)) z' ∧ Un at' z z'
theorem turn_all {t : S2} {C Y : V2} {code : List Int} {f g n d at' B : Nat} (hS : StepOK t C Y code f g n d at' B) {ks : Nat → Nat} (hp : pathOK C Y code f g ks at') {z : S2} (hT : Top t C ks at' 0 none z) : ∀ {k : Nat}, (k : Int) ≤ 10 * C 388 0 + 1 → ∃ m z', m ≤ k * B ∧ stp (bPl f g n) m ((at' : Int), z) ((at' : Int), z') ∧ Top t C ks at' k (bK C Y code f g ks d at' k) z' ∧ FA at' (bK C Y code f g ks d at' k) z' ∧ Un at' z z'
  | 0, _ => ⟨0, z, by omega, rfl, hT, fun _ p q => (by cases q), Un.rf⟩
  | k + 1, hk => by
    obtain ⟨m, z1, a1, a2, a3, a4, a5⟩ := turn_all hS hp hT (k := k) (by omega)
    obtain ⟨m2, z2, b1, b2, b3, b4, b5⟩ := hS ks k z1 hp (by omega) a3 a4
    exact ⟨m + m2, z2, by rw [Nat.succ_mul]; omega, stp_tr a2 b2, b3, b4, a5.tr b5⟩
theorem bK_range {C Y : V2} {code : List Int} {f g : Nat} {ks : Nat → Nat} {d at' k : Nat} (hC : CB C) (hY : YB C Y) (h9 : Y 512 0 ≤ 999) (hf : f < 4) (hg : g < 4) (hd : d ≤ 3) (ha : at' ≤ 3) {p : Int × Int} (h : bK C Y code f g ks d at' k = some p) : -66000 ≤ p.1 ∧ p.1 ≤ 66000 := by
  refine bst_rng (fun j _ => gV_rng hC hf hg (nxY_YB hC (pathY_YB hC hY h9 (by omega)) (by rw [pathY_h]; omega)) ?_) h
  rw [nxY_h, pathY_h]
  omega
/-- the head of a step -/
theorem play_head {t z : S2} {C Y : V2} {code : List Int} {f g n at' k : Nat} {ks : Nat → Nat} {o : Option (Int × Int)} (hC : CB C) (hY : YB C Y) (h9 : Y 512 0 ≤ 999) (hM : MS C Y code 0 t) (hat : at' < 3) (hp : pathOK C Y code f g ks at') (hk : (k : Int) ≤ 10 * C 388 0) (hT : Top t C ks at' k o z) : ∃ s13, MS C (pathY C Y code ks at') code 0 s13 ∧ KF t s13 ∧ Fr pPl (st2 z 1600 0 at' ((k : Int) - 1)) s13 ∧ ((avB C (pathY C Y code ks at') (famT f g at') k = false ∧ f243_a f g n at' z = some (.inl ((at' : Int), s13))) ∨ (avB C (pathY C Y code ks at') (famT f g at') k = true ∧ ∃ s19, MS C (nxY C code (pathY C Y code ks at') k) code 0 s19 ∧ KF t s19 ∧ Fr pPl (st2 z 1600 0 at' ((k : Int) - 1)) s19 ∧ f243_a f g n at' z = if ¬ (at' : Int) = (jsub n 1) then (bnd (jadd at' 1) fun v20 => sto s19 1600 0 4 v20 (-2) fun s21 => sto s21 1601 0 4 v20 1000000 fun s22 => some (.inl (v20, s22))) else ld s19 1539 0 4 f fun v23 => ld s19 1539 0 4 g fun v24 => cP (f244 at' (jsub v23 v24) s19) fun s25 => some (.inl ((at' : Int), s25)))) := by
  have hcc := hC.1
  obtain ⟨t1, t2, t3, t4, t5⟩ := hT
  have f0 : Fr (pF1 1600) z (st2 z 1600 0 at' ((k : Int) - 1)) := Fr.rf.st pF1_t
  have hK := t1.fr f0 (fun f i q => pF1_f.mpr (by have := pAk_f.mp q; omega)) (pF1_f.mpr (by omega)) (pF1_f.mpr (by omega))
  have hYa := pathY_YB (code := code) (ks := ks) hC hY h9 (j := at') (by omega)
  have q3 : st2 z 1600 0 at' ((k : Int) - 1) 1537 0 3 = C 388 0 := by rw [st2_ne (by omega)]; exact t2
  obtain ⟨s13, a1, a2, a3, a4⟩ := m245 (f := f) (g := g) (ks := ks) (at' := at') hC hY h9 hM hK (by omega) hp (fun j hj => by rw [st2_ne (by omega)]; exact t3 j hj)
  have hq : s13 1600 0 at' = (k : Int) - 1 := by rw [a4 _ _ (pPl_o (by omega)), st2_eq]
  have ev : jadd ((k : Int) - 2) 1 = (k : Int) - 1 := by rw [jadd_e (by omega) (by omega)]; omega
  have hst : f243_a f g n at' z = cR (f246 (famT f g at') ((k : Int) - 1) s13) fun r16 s17 => if r16 = 0 then (some (.inl ((at' : Int), s17))) else cR (f222 s17) fun r18 s19 => if ¬ (at' : Int) = (jsub n 1) then (bnd (jadd at' 1) fun v20 => sto s19 1600 0 4 v20 (-2) fun s21 => sto s21 1601 0 4 v20 1000000 fun s22 => some (.inl (v20, s22))) else ld s19 1539 0 4 f fun v23 => ld s19 1539 0 4 g fun v24 => cP (f244 at' (jsub v23 v24) s19) fun s25 => some (.inl ((at' : Int), s25)) := by
    unfold f243_a
    rw [if_neg (by omega), ld_t (by omega) (by omega), Int.toNat_natCast, t4, ev, sto_t (by omega) (by omega), Int.toNat_natCast, ld_t (by omega) (by omega), Int.toNat_natCast, st2_eq, ld_t (by omega) (by omega), show st2 z 1600 0 at' ((k : Int) - 1) 1537 0 (Int.toNat 3) = C 388 0 from q3, jmul_e (by omega) (by omega), if_pos (by omega), a1, cP_s, jrem2 (by omega)]
    simp only [jn]
    rw [ld_t (by omega) (by omega), Int.toNat_natCast, hq, ld_t (by omega) (by omega), Int.toNat_natCast, hq]
    unfold famT
    by_cases c : at' % 2 = 0
    · rw [c, if_neg (by decide), if_pos rfl]
    · rw [if_pos (by omega), if_neg c]
  refine ⟨s13, a2, a3, a4, ?_⟩
  have h246 := m246 (fam := if at' % 2 = 0 then f else g) hC hYa a2 hk
  rw [← famT_lt] at h246
  cases hav : avB C (pathY C Y code ks at') (famT f g at') k with
  | false =>
    left
    refine ⟨rfl, ?_⟩
    rw [hst, h246.2 hav, cR_s, if_pos rfl]
  | true =>
    right
    obtain ⟨w1, b1, b2, b3⟩ := h246.1 hav
    obtain ⟨x, w2, c1, c2, c3⟩ := mstep hC hYa b2
    refine ⟨rfl, w2, c2, (a3.fr b3 (fun f i q => pH_k q) (pH_f.mpr (by omega)) (pH_f.mpr (by omega))).fr c3 (fun f i q => pG_k q) pG_6 pG_9, (a4.tr (b3.mo fun f i q => (pPl_f.mp q).2.1)).tr (c3.mo fun f i q => (pPl_f.mp q).2.2), ?_⟩
    rw [hst, b1, cR_s, if_neg ne10, c1, cR_s]
theorem Un.pl {at' : Nat} {z s : S2} {x : Int} (h : Fr pPl (st2 z 1600 0 at' x) s) : Un at' z s := ⟨fun j hj => ⟨by rw [h _ _ (pPl_o (by omega)), st2_ne (by omega)], by rw [h _ _ (pPl_o (by omega)), st2_ne (by omega)]⟩, fun _ => by rw [h _ _ (pPl_o (by omega)), st2_ne (by omega)]⟩
theorem MS.l3 {C Y : V2} {code : List Int} {d : Int} {t : S2} (h : MS C Y code d t) : t 1537 0 3 = C 388 0 := h.1.1.2.2.2.1
theorem bK_t {C Y : V2} {code : List Int} {f g : Nat} {ks : Nat → Nat} {d at' k : Nat} (h : avB C (pathY C Y code ks at') (famT f g at') k = true) : bK C Y code f g ks d at' (k + 1) = bupd (evT at') (bK C Y code f g ks d at' k) (valK C Y code f g ks d at' k) ((k : Int) - 1) := bst_t h
theorem bK_f {C Y : V2} {code : List Int} {f g : Nat} {ks : Nat → Nat} {d at' k : Nat} (h : avB C (pathY C Y code ks at') (famT f g at') k = false) : bK C Y code f g ks d at' (k + 1) = bK C Y code f g ks d at' k := bst_f h
/-- the value of an act taken: top again -/
theorem play_took {t z s z' : S2} {C Y : V2} {code : List Int} {f g d at' k : Nat} {ks : Nat → Nat} (hC : CB C) (hY : YB C Y) (h9 : Y 512 0 ≤ 999) (hf : f < 4) (hg : g < 4) (hd : d ≤ 3) (hat : at' < 3) (hav : avB C (pathY C Y code ks at') (famT f g at') k = true) (hT : Top t C ks at' k (bK C Y code f g ks d at' k) z) (hFA : FA at' (bK C Y code f g ks d at' k) z) (hs0 : ∀ j, j < at' → s 1600 0 j = z 1600 0 j) (hs1 : ∀ j, j ≤ at' → s 1601 0 j = z 1601 0 j) (hs2 : s 1602 0 0 = z 1602 0 0) (hs3 : s 1600 0 at' = (k : Int) - 1) (hTV : TV at' (valK C Y code f g ks d at' k) s z') (hr : ∀ j, j ≤ at' → z' 1600 0 j = s 1600 0 j) (hK : KF t z') (h3 : z' 1537 0 3 = C 388 0) : Top t C ks at' (k + 1) (bK C Y code f g ks d at' (k + 1)) z' ∧ FA at' (bK C Y code f g ks d at' (k + 1)) z' ∧ Un at' z z' := by
  obtain ⟨t1, t2, t3, t4, t5⟩ := hT
  have hrg : ∀ p, bK C Y code f g ks d at' k = some p → p.1 < 1000000 := fun p hp => by
    have := bK_range hC hY h9 hf hg hd (by omega) hp
    omega
  refine ⟨⟨hK, h3, fun j hj => by rw [hr j (by omega), hs0 j hj]; exact t3 j hj, by rw [hr at' (Nat.le_refl _), hs3]; omega, ?_⟩, fun h0 p hp => ?_, fun j hj => ⟨by rw [hr j (by omega), hs0 j hj], by rw [hTV.1 j hj, hs1 j (by omega)]⟩, fun h0 => by rw [hTV.2.2.1 h0, hs2]⟩
  · rw [bK_t hav]
    exact hTV.2.1 _ _ (by rw [hs1 at' (Nat.le_refl _)]; exact t5) hrg
  · subst h0
    rw [bK_t hav] at hp
    refine hTV.2.2.2 rfl _ (by rw [hs1 0 (Nat.le_refl _)]; exact t5) (fun p hp' => ⟨hrg p hp', by rw [hs2]; exact hFA rfl p hp'⟩) p ?_
    rw [hs3]
    exact hp
/-- a turn with none behind it -/
theorem step_last {t : S2} {C Y : V2} {code : List Int} {f g n at' : Nat} (hC : CB C) (hY : YB C Y) (h9 : Y 512 0 ≤ 999) (hM : MS C Y code 0 t) (hf : f < 4) (hg : g < 4) (hf2 : (f : Int) < C 387 0) (hg2 : (g : Int) < C 387 0) (hn : n ≤ 3) (hat : at' + 1 = n) : StepOK t C Y code f g n 0 at' 1 := by
  intro ks k z hp hk hT hFA
  obtain ⟨s13, a1, a2, a3, a4⟩ := play_head (n := n) hC hY h9 hM (by omega) hp hk hT
  rcases a4 with ⟨hav, hst⟩ | ⟨hav, s19, b1, b2, b3, hst⟩
  · refine ⟨1, s13, Nat.le_refl _, stp_1 hst, ⟨a2, a1.l3, fun j hj => ?_, ?_, ?_⟩, ?_, Un.pl a3⟩
    · rw [((Un.pl a3).1 j hj).1]; exact hT.2.2.1 j hj
    · rw [a3 _ _ (pPl_o (by omega)), st2_eq]; omega
    · rw [bK_f hav, a3 _ _ (pPl_o (by omega)), st2_ne (by omega)]; exact hT.2.2.2.2
    · rw [bK_f hav]
      intro h0 p hp'
      rw [a3 _ _ (pPl_o (by omega)), st2_ne (by omega)]
      exact hFA h0 p hp'
  · have hYn : YB C (nxY C code (pathY C Y code ks at') k) := nxY_YB hC (pathY_YB hC hY h9 (by omega)) (by rw [pathY_h]; omega)
    have w1 : s19 1539 0 f = nxY C code (pathY C Y code ks at') k 518 f := (b1.2.1.2.2.2.2 f hf hf2).2
    have w2 : s19 1539 0 g = nxY C code (pathY C Y code ks at') k 518 g := (b1.2.1.2.2.2.2 g hg hg2).2
    have r1 := hYn.2.2.2.2.2 f hf
    have r2 := hYn.2.2.2.2.2 g hg
    have hh : nxY C code (pathY C Y code ks at') k 512 0 ≤ 1003 := by rw [nxY_h, pathY_h]; omega
    have hv : jsub (nxY C code (pathY C Y code ks at') k 518 f) (nxY C code (pathY C Y code ks at') k 518 g) = valK C Y code f g ks 0 at' k := by
      rw [jsub_e (by omega) (by omega)]
      rfl
    have hvlt : valK C Y code f g ks 0 at' k < 1000000 := by
      rw [← hv, jsub_e (by omega) (by omega)]
      omega
    obtain ⟨z', c1, c2, c3⟩ := m244 (z := s19) (at' := at') (by omega) hvlt
    have hU := Un.pl b3
    obtain ⟨d1, d2, d3⟩ := play_took (t := t) (z := z) (s := s19) (z' := z') (code := code) (d := 0) hC hY h9 hf hg (by omega) (show at' < 3 by omega) hav hT hFA (fun j hj => (hU.1 j hj).1) (fun j hj => by rw [b3 _ _ (pPl_o (by omega)), st2_ne (by omega)]) (by rw [b3 _ _ (pPl_o (by omega)), st2_ne (by omega)]) (by rw [b3 _ _ (pPl_o (by omega)), st2_eq]) c2 (fun j hj => by rw [c3 _ _ (pTV_f.mpr (by omega))]) (b2.fr c3 (fun f i q => pTV_f.mpr (by have := pAk_f.mp q; omega)) (pTV_f.mpr (by omega)) (pTV_f.mpr (by omega))) (by rw [c3 _ _ (pTV_f.mpr (by omega))]; exact b1.l3)
    refine ⟨1, z', Nat.le_refl _, stp_1 ?_, d1, d2, d3⟩
    show f243_a f g n at' z = _
    rw [hst, if_neg (by rw [jsub_e (by omega) (by omega)]; omega), ld_t (by omega) (by omega), Int.toNat_natCast, w1, ld_t (by omega) (by omega), Int.toNat_natCast, w2, hv, c1, cP_s]
