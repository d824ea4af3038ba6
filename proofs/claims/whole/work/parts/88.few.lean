/-! FEW -/
def fewP (C Y : V2) (fam : Int) (n : Nat) : Bool := decide ((n : Int) < C 389 0 ∧ C 395 n = fam) && !!decide (Y 515 n = -1)
theorem fewP_t {C Y : V2} {fam : Int} {n : Nat} : fewP C Y fam n = true ↔ (n : Int) < C 389 0 ∧ C 395 n = fam ∧ Y 515 n = -1 := by
  unfold fewP
  rw [Bool.and_eq_true, Bool.not_not, decide_eq_true_eq, decide_eq_true_eq, and_assoc]
theorem m249a {β : Type} {C Y : V2} {t : S2} {f : Int} {k : Int → Option β} (hC : CB C) (hR : CR C t) (hV : YR C Y t) : cP (itr (fun (x7, x8) => f249_a f x7 x8 t) am_fu (0, 0)) k = k (setB 10 (fewP C Y f)) := by
  have hcc := hC.1
  have hcut : setB 10 (fewP C Y f) = setB (C 389 0).toNat (fewP C Y f) := setB_cut (by omega) (fun i h1 h2 => by
    cases q : fewP C Y f i with
    | false => rfl
    | true => have := fewP_t.mp q; omega)
  rw [hcut]
  refine seq_cP (fun i => (setB i (fewP C Y f), (i : Int))) (C 389 0).toNat _ rfl (by omega) ?_ ?_ rfl
  · intro i hi
    have h9 : (i : Int) < C 389 0 := by omega
    show f249_a f _ _ t = _
    unfold f249_a
    rw [ld_t (by omega) (by omega), show t 1537 0 (Int.toNat 4) = C 389 0 from hR.1.2.2.2.2.1, if_neg (by omega), ld_t (by omega) (by omega), Int.toNat_natCast, (hR.2.2.1 i (by omega) (by omega)).1, setB_s]
    simp only [jn, bnd]
    rw [ld_t (by omega) (by omega), Int.toNat_natCast, (hV.2.2.2.1 i (by omega) (by omega)).2, jadd_e (by omega) (by omega), setB_z]
    by_cases h1 : C 395 i = f
    · rw [if_neg (fun q => q h1)]
      by_cases h2 : Y 515 i = -1
      · rw [if_neg (fun q => q h2), if_pos (fewP_t.mpr ⟨h9, h1, h2⟩)]
        rfl
      · rw [if_pos h2, if_neg (fun q => h2 (fewP_t.mp q).2.2)]
        rfl
    · rw [if_pos h1, if_neg (fun q => h1 (fewP_t.mp q).2.1)]
      rfl
  · show f249_a f _ _ t = _
    unfold f249_a
    rw [ld_t (by omega) (by omega), show t 1537 0 (Int.toNat 4) = C 389 0 from hR.1.2.2.2.2.1, if_pos (by omega)]
theorem c249 {t t1 : S2} {C Y : V2} {code : List Int} {l : Nat} {fam : Int} (hC : CB C) (hY : YB C Y) (hM : MS C Y code 0 t) (hk : AK t t1) (hl : l < 6) (hl2 : (l : Int) < C 388 0) : ∃ t2, itr (fun (x22, x23, s24) => f249_b fam l (setN 10 (fewP C Y fam) : Nat) x22 x23 s24) am_fu (-2, 0, t1) = some (lsM (lsN (setN 10 (fewP C Y fam)) (okS C Y code true l fam) 1024), t2) ∧ AK t t2 := by
  have hp := setN_bd (p := fewP C Y fam) (n := 10) (by omega)
  have hcut := lsN_cut (ok := okS C Y code true l fam) (m := setN 10 (fewP C Y fam) + 1) (Nat.lt_succ_self _) hp (n := 1024) (by omega) (by omega)
  have hpb : ∀ n, Nat.testBit (setN 10 (fewP C Y fam)) n = true → n < 10 ∧ (n : Int) < C 389 0 := fun n hn => by
    have := setN_tb hn
    exact ⟨this.1, (fewP_t.mp this.2).1⟩
  rw [hcut]
  generalize hP : setN 10 (fewP C Y fam) = p at hp hpb ⊢
  refine Exists.elim (itr_inv (b := fun (x22, x23, s24) => f249_b fam l p x22 x23 s24) (fun (i : Nat) (z : Int × Int × S2) => z.1 = lsM (lsN p (okS C Y code true l fam) i) ∧ z.2.1 = i ∧ AK t z.2.2) (fun (z : Int × S2) => z.1 = lsM (lsN p (okS C Y code true l fam) (p + 1)) ∧ AK t z.2) (p + 1) ?_ am_fu (fu_lt (by omega)) (-2, 0, t1) ⟨rfl, rfl, hk⟩) ?_
  rotate_left
  · rintro ⟨a, s'⟩ ⟨hr, q1, q2⟩
    dsimp only at q1 q2
    subst q1
    exact ⟨s', hr, q2⟩
  · rintro i ⟨x, y, z⟩ hi ⟨g1, g2, g3⟩
    dsimp only at g1 g2 g3 ⊢
    subst g1 g2
    by_cases e : i = p + 1
    · subst e
      refine Or.inr ⟨(lsM (lsN p (okS C Y code true l fam) (p + 1)), z), ?_, rfl, g3⟩
      show f249_b fam l p _ _ z = _
      unfold f249_b
      rw [if_pos (by omega)]
    · refine Or.inl ⟨by omega, ?_⟩
      have hi2 : i < 1024 := by omega
      have hLb := lsN_bd (p := p) (ok := okS C Y code true l fam) (n := i)
      have ej : jadd (i : Int) 1 = ((i + 1 : Nat) : Int) := by rw [jadd_e (by omega) (by omega)]; rfl
      have keep : ¬ lsT p (okS C Y code true l fam) (lsN p (okS C Y code true l fam) i) i → lsN p (okS C Y code true l fam) (i + 1) = lsN p (okS C Y code true l fam) i := lsN_f
      have take : lsT p (okS C Y code true l fam) (lsN p (okS C Y code true l fam) i) i → lsN p (okS C Y code true l fam) (i + 1) = i := lsN_t
      unfold lsT at keep take
      generalize hL : lsN p (okS C Y code true l fam) i = L at hLb keep take ⊢
      have hfin : ∀ z', f249_b fam l p (lsM L) i z = some (.inl (lsM (lsN p (okS C Y code true l fam) (i + 1)), ((i + 1 : Nat) : Int), z')) → AK t z' → ∃ a', (fun (x22, x23, s24) => f249_b fam l p x22 x23 s24) (lsM L, (i : Int), z) = some (.inl a') ∧ a'.1 = lsM (lsN p (okS C Y code true l fam) (i + 1)) ∧ a'.2.1 = ((i + 1 : Nat) : Int) ∧ AK t a'.2.2 := fun z' h1 h2 => ⟨(_, _, z'), h1, rfl, rfl, h2⟩
      by_cases a1 : jand (i : Int) (jxor (p : Int) (-1)) = 0
      · have hb : ∀ n, Nat.testBit i n = true → n < 10 ∧ (n : Int) < C 389 0 := fun n hn => hpb n (sub_tb hi2 hp a1 hn)
        have hMz := g3.ms hM hC
        obtain ⟨z1, k1, k2, k4⟩ := m250 hC hY hMz hi2 hb hl hl2
        have hrun : ∃ z3, (∀ (o : Int), (o = if okS C Y code true l fam i = true then (i : Int) else lsM L) → (cR (f250 i l z) fun r26 s27 => jn (fun (x28 : Int) (s29 : S2) => cP (f237 s29) fun s30 => bnd (jadd (i : Int) 1) fun v31 => (some (.inl (x28, v31, s30)) : Option ((Int × Int × S2) ⊕ (Int × S2)))) fun j160 => jn (fun (s32 : S2) => j160 (lsM L) s32) fun j158 => if r26 = 0 then (j158 s27) else cR (f200 l s27) fun r33 s34 => if ¬ r33 = fam then (j158 s34) else j160 i s34) = some (.inl (o, ((i + 1 : Nat) : Int), z3))) ∧ AK t z3 := by
          cases hm : (mvS C true l i Y 10).1 with
          | false =>
            obtain ⟨z3, m1, m2⟩ := g3.back (k4.mo fun f i q => pH_k q) (k4 _ _ (pH_f.mpr (by omega))) (by rw [k4 _ _ (pH_f.mpr (by omega)), g3.1.2.2.1])
            refine ⟨z3, fun o ho => ?_, m2⟩
            have hok : okS C Y code true l fam i = false := by
              unfold okS
              rw [hm]; rfl
            rw [k1, cR_s, hm]
            simp only [jn, m1, cP_s, bnd, ej, ho, hok]
            rfl
          | true =>
            obtain ⟨z2, l1, l2⟩ := m200 hC (mvS_YB hY) (k2 hm) hl hl2
            obtain ⟨z3, m1, m2⟩ := g3.back ((k4.mo fun f i q => pH_k q).tr (l2.mo fun f i q => pO_k q)) (by rw [l2 _ _ (pO_f.mpr (by omega)), k4 _ _ (pH_f.mpr (by omega))]) (by rw [l2 _ _ (pO_f.mpr (by omega)), k4 _ _ (pH_f.mpr (by omega)), g3.1.2.2.1])
            refine ⟨z3, fun o ho => ?_, m2⟩
            have hok : okS C Y code true l fam i = decide (own C (mvS C true l i Y 10).2 (rainI C (mvS C true l i Y 10).2 0) code l = fam) := by
              unfold okS
              rw [hm, Bool.true_and]
            rw [k1, cR_s, hm]
            simp only [jn]
            rw [if_neg (by decide), l1, cR_s]
            simp only [m1, cP_s, bnd, ej, ho, hok]
            by_cases q : own C (mvS C true l i Y 10).2 (rainI C (mvS C true l i Y 10).2 0) code l = fam
            · rw [if_neg (fun w => w q), if_pos (decide_eq_true q)]
            · rw [if_pos q, if_neg (by rw [decide_eq_false q]; decide)]
        obtain ⟨z3, hrun, m2⟩ := hrun
        by_cases hx : L = -1 ∨ bcI i < bcI L.toNat
        · refine hfin z3 ?_ m2
          have hr := hrun (lsM (lsN p (okS C Y code true l fam) (i + 1))) (by
            by_cases q : okS C Y code true l fam i = true
            · rw [if_pos q, take ⟨a1, hx, q⟩]
              unfold lsM
              rw [if_neg (by omega)]
            · rw [if_neg q, keep (fun w => q w.2.2)])
          unfold f249_b
          rw [if_neg (by omega), if_neg (fun w => w a1)]
          simp only [jn] at hr ⊢
          by_cases q : L = -1
          · rw [if_pos ((lsM_n (by omega)).mpr q)]
            exact hr
          · obtain ⟨L', rfl⟩ := Int.eq_ofNat_of_zero_le (show 0 ≤ L by omega)
            have hlm : lsM (L' : Int) = (L' : Int) := if_neg (by omega)
            rw [hlm] at hr ⊢
            rw [Int.toNat_natCast] at hx
            rw [if_neg (by omega), m248 hi2, cP_s, m248 (by omega), cP_s, if_neg (by omega)]
            exact hr
        · refine hfin z ?_ g3
          rw [keep (fun w => hx w.2.1)]
          obtain ⟨L', rfl⟩ := Int.eq_ofNat_of_zero_le (show 0 ≤ L by omega)
          have hlm : lsM (L' : Int) = (L' : Int) := if_neg (by omega)
          rw [hlm]
          rw [Int.toNat_natCast] at hx
          unfold f249_b
          rw [if_neg (by omega), if_neg (fun w => w a1)]
          simp only [jn]
          rw [if_neg (by omega), m248 hi2, cP_s, m248 (by omega), cP_s, if_pos (by omega), bnd, ej]
      · refine hfin z ?_ g3
        rw [keep (fun w => a1 w.1)]
        unfold f249_b
        rw [if_neg (by omega), if_pos a1, bnd, ej]
theorem call_few {s : S2} {C Y : V2} {code : List Int} {a b c : Int} (h : Rel s C Y code) (ia : i32 a) (ib : i32 b) (ic : i32 c) : ∃ r s1 s2, f127 a b c s = some (r, s1) ∧ f249 a b c s1 = some (r, s2) ∧ Ask s s2 := by
  have hM := h.2.2.2.2.2.2.2
  have hC := h.2.2.1
  have hY := h.2.2.2.1
  have hcc := hC.1
  obtain ⟨e1, e2, e3⟩ := cw0f h.1
  have jc : ji2l c = c := by unfold i32 at ic; exact ji2l_e (by omega) (by omega)
  by_cases ha : 0 ≤ a ∧ a < C 387 0
  · by_cases hb : 0 ≤ b ∧ b < C 388 0
    · obtain ⟨l, rfl⟩ := Int.eq_ofNat_of_zero_le hb.1
      by_cases hc : 0 ≤ c ∧ c ≤ 1
      · obtain ⟨s1, k1, k2, k3, k4⟩ := h.start
        obtain ⟨s2, l1, l2⟩ := c123 (fam := a) (l := l) k2 (by rw [k4.yv fun f g1 g2 => pS_f.mpr ⟨by omega, pY_f.mpr (by omega)⟩]; exact h.2.1) hY (by omega)
        rw [if_neg (by omega)] at l1
        have l1' : f123 0 l a s1 = some (lsN (setN 10 (fewP C Y a)) (okS C Y code true l a) 1024, s2) := l1
        have F1 : Fr pAk s s2 := (k4.mo fun f i q => pS_k q).tr (l2.mo fun f i q => pP_k q)
        have F2 : Fr pCl s s2 := (k4.mo fun f i q => pS_cl q).tr (l2.mo fun f i q => pP_cl q)
        have hM2 := hM.cl F2
        obtain ⟨t1, m1, m2⟩ := AK.keep (t := s2)
        obtain ⟨t2, n1, n2⟩ := c249 (l := l) (fam := a) hC hY hM2 m2 (by omega) hb.2
        have hLb := lsN_bd (p := setN 10 (fewP C Y a)) (ok := okS C Y code true l a) (n := 1024)
        refine ⟨sizeS (lsN (setN 10 (fewP C Y a)) (okS C Y code true l a) 1024) c, s2, t2, ?_, ?_, (Ask.cl F1 F2).tr n2.1⟩
        · unfold f127
          rw [m51t (by omega), cP_s, if_neg ne10, m50t (by omega), cP_s, if_neg ne10, if_neg (by omega), if_pos hc.2, k1, cP_s, l1', cR_s, m126 (by omega), cP_s]
        · unfold f249
          rw [m198 hC hM2.1 ia, if_pos ha, cP_s, if_neg ne10, m210 hC hM2.1 ib, if_pos hb, cP_s, if_neg ne10, jc, m173t hc, cP_s, if_pos ne10, m249a hC hM2.1 hM2.2.1, m1, cP_s, setB_N (by omega), n1, cP_s]
          exact size_m (by omega) hc
      · refine ⟨-1, s, s, ?_, ?_, Ask.rf⟩
        · unfold f127
          rw [m51t (by omega), cP_s, if_neg ne10, m50t (by omega), cP_s, if_neg ne10]
          by_cases b0 : c < 0
          · rw [if_pos b0]
          · rw [if_neg b0, if_neg (by omega)]
        · unfold f249
          rw [m198 hC hM.1 ia, if_pos ha, cP_s, if_neg ne10, m210 hC hM.1 ib, if_pos hb, cP_s, if_neg ne10, jc, m173f hc, cP_s, if_neg (by decide)]
    · refine ⟨-1, s, s, ?_, ?_, Ask.rf⟩
      · unfold f127
        rw [m51t (by omega), cP_s, if_neg ne10, m50f (by omega), cP_s, if_pos rfl]
      · unfold f249
        rw [m198 hC hM.1 ia, if_pos ha, cP_s, if_neg ne10, m210 hC hM.1 ib, if_neg hb, cP_s, if_pos rfl]
  · refine ⟨-1, s, s, ?_, ?_, Ask.rf⟩
    · unfold f127
      rw [m51f (by omega), cP_s, if_pos rfl]
    · unfold f249
      rw [m198 hC hM.1 ia, if_neg ha, cP_s, if_pos rfl]
