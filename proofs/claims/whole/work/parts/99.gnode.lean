/-! GAME, the class: the whole search -/
theorem pGt_mo {r t f i : Nat} (h : pGt r t f i = false) : pGt r (t + 1) f i = false := by
  have := pGt_f.mp h
  exact pGt_f.mpr ⟨this.1, this.2.1, by omega⟩
theorem pY_gt {r t f i : Nat} (ht : t < 3) (h : pGt r t f i = false) : pY (194 + t) f i = false := by
  have := pGt_f.mp h
  exact pY_f.mpr (by omega)
theorem famT_lt {f g t : Nat} : famT f g t = ((if t % 2 = 0 then f else g : Nat) : Int) := by
  unfold famT
  split <;> rfl
theorem c119 {r : Nat} {C : V2} {code : List Int} {f g n : Nat} (hf : f < 4) (hg : g < 4) (hn : n ≤ 3) : ∀ (d t q : Nat) (z : S2) (Y : V2) (low high : Int), d + t = n → d + 1 ≤ q → GH z r C code f g n → yv z 160 = Y → YB C Y → Y 512 0 + d ≤ 1100 → low < high → -1000000 ≤ low → high ≤ 1000000 → ∃ R z', f119 q t low high z = some (R, z') ∧ AB low high (gV C code f g d t Y) R ∧ Fr (pGt r t) z z' ∧ (t ≠ 0 → z' 1281 0 0 = z 1281 0 0) ∧ (t = 0 → 0 < d → low = -1000000 → high = 1000000 → ∀ p, bst true (avB C Y f) (fun k => gV C code f g (d - 1) 1 (nxY C code Y k)) 61 = some p → z' 1281 0 0 = p.2) := by
  intro d
  induction d with
  | zero =>
    intro t q z Y low high hdt hq hG hy hY hh hl hl1 hl2
    obtain ⟨q, rfl⟩ : ∃ q', q = q' + 1 := ⟨q - 1, by omega⟩
    obtain ⟨h1, h2, h3, h4⟩ := hG
    have hC := h1.2.2.2.2.2
    have a1 := hY.2.2.2.2.2 f hf
    have a2 := hY.2.2.2.2.2 g hg
    refine ⟨Y 518 f - Y 518 g, z, ?_, ?_, Fr.rf, fun _ => rfl, fun _ hd => by omega⟩
    · show f119r (f121r (f119 q)) t low high z = _
      unfold f119r
      simp only [jn, bnd]
      rw [if_neg (by omega), h4, if_pos (by omega), h2, m115 hf, cP_s, h3, m115 hg, cP_s, hy, jsub_e (by omega) (by omega)]
    · show AB low high (Y 518 f - Y 518 g) _
      unfold AB
      omega
  | succ d ih =>
    intro t q z Y low high hdt hq hG hy hY hh hl hl1 hl2
    obtain ⟨q, rfl⟩ : ∃ q', q = q' + 1 := ⟨q - 1, by omega⟩
    have ht : t < 3 := by omega
    have hC := hG.1.2.2.2.2.2
    obtain ⟨z1, a1, a2, a3⟩ := m58 (a := 194 + t) (b := 160) (s := z)
    rw [hy] at a2
    have A3 : Fr (pGt r t) z z1 := a3.mo fun f i q => pY_gt ht q
    have hG1 := hG.fr A3
    have hrf : ∀ mv, RfOK (f121r (f119 q)) r t C Y code f g n d mv := by
      intro mv k z2 low' high' hk hav hG2 hy2 hy3 hl' hl1' hl2'
      obtain ⟨z3, b1, b2, b3⟩ := m121 (rf := f119 q) (low := low') (high := high') hG2.1 hy3 hY (by omega) ht hk hav
      have B3 : Fr (pGt r t) z2 z3 := b3.mo fun f i q => (pGt_f.mp q).1
      obtain ⟨R, z4, c1, c2, c3, c4, -⟩ := ih (t + 1) q z3 (nxY C code Y k) low' high' (by omega) (by omega) (hG2.fr B3) b2 (nxY_YB hC hY (by omega)) (by rw [nxY_h]; omega) hl' hl1' hl2'
      refine ⟨R, z4, ?_, c2, B3.tr (c3.mo fun f i q => pGt_mo q), ?_, ?_⟩
      · rw [b1, c1, cR_s]
      · rw [c3.yv fun f g1 g2 => pGt_f.mpr ⟨pP_y g1 g2 (by omega), by omega, by omega⟩, b3.yv fun f g1 g2 => pP_y g1 g2 (by omega)]
        exact hy2
      · rw [c4 (by omega), b3 _ _ (pP_o (by omega))]
    have hst : ∀ (x mv fo : Int), (x = if t % 2 = 0 then 1 else 0) → (mv = famT f g t) → (fo = if t % 2 = 0 then low else high) → f119 (q + 1) t low high z = cP (itr (fun (x18, x19, s20) => f119_a (f121r (f119 q)) t low high (194 + t) x mv x18 x19 s20) am_fu (fo, -1, z1)) (fun (z36, s37) => some (z36, s37)) := by
      intro x mv fo hx hmv hfo
      show f119r (f121r (f119 q)) t low high z = _
      unfold f119r
      simp only [jn, bnd]
      have e2 : jrem (t : Int) 2 = ((t % 2 : Nat) : Int) := by rw [jrem_e (by omega) (by omega) (by omega) (by omega)]; omega
      rw [if_neg (by omega), hG.2.2.2, if_neg (by omega), if_neg (by omega), ldr_t (by omega) (by omega), Int.toNat_natCast, am_el194, a1, cP_s, e2]
      unfold famT at hmv
      by_cases c : t % 2 = 0
      · rw [if_pos c] at hx hmv hfo
        subst hx hmv hfo
        rw [c, if_neg (by decide)]
        simp only [ne10, if_false]
        rw [hG1.2.1]
      · rw [if_neg c] at hx hmv hfo
        subst hx hmv hfo
        have c1 : t % 2 = 1 := by omega
        rw [c1, if_pos (by decide)]
        simp only [if_true]
        rw [hG1.2.2.1]
    by_cases c : t % 2 = 0
    · have hst' := hst 1 (famT f g t) low (by rw [if_pos c]) rfl (by rw [if_pos c])
      obtain ⟨R, s', r1, r2, r3, r4⟩ := c119_mx (low := low) (high := high) (hrf (famT f g t)) hG1 a2 ht hl hl1 hl2 (fun k => gV_rng hC hf hg (nxY_YB hC hY (by omega)) (by rw [nxY_h]; omega))
      refine ⟨R, s', by rw [hst', r1, cP_s], ?_, A3.tr r3, fun h0 => ?_, fun h0 _ h1 h2 p hp => ?_⟩
      · show AB low high (bV (bst (evT t) _ _ 61)) R
        rw [show evT t = true from decide_eq_true c]
        exact r2
      · rw [r4.1 h0, a3 _ _ (pY_f.mpr (by omega))]
      · subst h0
        exact r4.2 rfl h1 h2 p hp
    · have hst' := hst 0 (famT f g t) high (by rw [if_neg c]) rfl (by rw [if_neg c])
      obtain ⟨R, s', r1, r2, r3, r4⟩ := c119_mn (low := low) (high := high) (hrf (famT f g t)) hG1 a2 ht (by omega) hl hl1 hl2
      refine ⟨R, s', by rw [hst', r1, cP_s], ?_, A3.tr r3, fun h0 => ?_, fun h0 => by omega⟩
      · show AB low high (bV (bst (evT t) _ _ 61)) R
        rw [show evT t = false from decide_eq_false c]
        exact r2
      · rw [r4, a3 _ _ (pY_f.mpr (by omega))]
/-- the value of the game, its first act -/
def gB (C Y : V2) (code : List Int) (f g n : Nat) : Option (Int × Int) := bst true (avB C Y f) (fun k => gV C code f g (n - 1) 1 (nxY C code Y k)) 61
theorem gB_ex {C Y : V2} {code : List Int} {f g n : Nat} : ∃ p, gB C Y code f g n = some p := bst_ex rfl (by omega)
theorem gB_V {C Y : V2} {code : List Int} {f g n : Nat} {p : Int × Int} (h : gB C Y code f g n = some p) (hn : 1 ≤ n) : gV C code f g n 0 Y = p.1 := by
  obtain ⟨n, rfl⟩ : ∃ m, n = m + 1 := ⟨n - 1, by omega⟩
  show bV (bst true (avB C Y f) (fun k => gV C code f g n 1 (nxY C code Y k)) 61) = _
  have : gB C Y code f g (n + 1) = bst true (avB C Y f) (fun k => gV C code f g n 1 (nxY C code Y k)) 61 := rfl
  rw [← this, h]
  rfl
def pGa (r f i : Nat) : Bool := pGt r 0 f i || (Nat.ble 1280 f && Nat.ble f 1290 && Nat.beq i 0)
theorem pGa_f {r f i : Nat} : pGa r f i = false ↔ pGt r 0 f i = false ∧ ¬ (1280 ≤ f ∧ f ≤ 1290 ∧ i = 0) := by
  unfold pGa
  rw [Bool.or_eq_false_iff, ← Bool.not_eq_true (_ && Nat.beq i 0), Bool.and_eq_true, Bool.and_eq_true, Nat.beq_eq, Nat.ble_eq, Nat.ble_eq]
  grind
theorem c118 {s : S2} {r : Nat} {C Y : V2} {code : List Int} {f g n : Nat} {p : Int × Int} (h : Hr s 0 r C code) (hy : yv s 160 = Y) (hY : YB C Y) (h9 : Y 512 0 ≤ 999) (hf : f < 4) (hg : g < 4) (hn : 1 ≤ n ∧ n ≤ 3) (hp : gB C Y code f g n = some p) : ∃ s', f118 f g n s = some s' ∧ s' 1280 0 0 = p.1 ∧ s' 1281 0 0 = p.2 ∧ Fr (pGa r) s s' := by
  have hC := h.2.2.2.2.2
  have em : jmin (n : Int) 3 = (n : Int) := by
    unfold jmin
    split <;> omega
  have T : ∀ k, 1280 ≤ k → k ≤ 1290 → pGa r k 0 = true := fun k h1 h2 => by
    rw [← Bool.not_eq_false, pGa_f]
    omega
  unfold f118
  simp only [bnd, em]
  have F0 : Fr (pGa r) s (st2 (st2 (st2 (st2 s 1288 0 0 f) 1289 0 0 g) 1290 0 0 n) 1281 0 0 (-1)) := (((Fr.rf.st (T _ (by omega) (by omega))).st (T _ (by omega) (by omega))).st (T _ (by omega) (by omega))).st (T _ (by omega) (by omega))
  have q1 : st2 (st2 (st2 (st2 s 1288 0 0 f) 1289 0 0 g) 1290 0 0 n) 1281 0 0 (-1) 1288 0 0 = f := by rw [st2_ne (by omega), st2_ne (by omega), st2_ne (by omega), st2_eq]
  have q2 : st2 (st2 (st2 (st2 s 1288 0 0 f) 1289 0 0 g) 1290 0 0 n) 1281 0 0 (-1) 1289 0 0 = g := by rw [st2_ne (by omega), st2_ne (by omega), st2_eq]
  have q3 : st2 (st2 (st2 (st2 s 1288 0 0 f) 1289 0 0 g) 1290 0 0 n) 1281 0 0 (-1) 1290 0 0 = n := by rw [st2_ne (by omega), st2_eq]
  have hFr : Fr (fun f i => Nat.ble 1280 f && Nat.ble f 1290) s (st2 (st2 (st2 (st2 s 1288 0 0 f) 1289 0 0 g) 1290 0 0 n) 1281 0 0 (-1)) := (((Fr.rf.st rfl).st rfl).st rfl).st rfl
  have hno : ∀ k, ¬ (1280 ≤ k ∧ k ≤ 1290) → (Nat.ble 1280 k && Nat.ble k 1290) = false := fun k hk => by
    rw [← Bool.not_eq_true, Bool.and_eq_true, Nat.ble_eq, Nat.ble_eq]
    exact hk
  generalize st2 (st2 (st2 (st2 s 1288 0 0 f) 1289 0 0 g) 1290 0 0 n) 1281 0 0 (-1) = S at F0 q1 q2 q3 hFr ⊢
  have hS : Hr S 0 r C code := h.fr hFr (hno _ (by omega)) (hno _ (by omega)) (hno _ (by omega)) (hno _ (by omega)) (fun f g1 g2 => hno _ (by omega))
  have yS : yv S 160 = Y := by rw [hFr.yv fun f g1 g2 => hno _ (by omega)]; exact hy
  obtain ⟨R, z, a1, a2, a3, a4, a5⟩ := c119 hf hg hn.2 n 0 5 S Y (-1000000) 1000000 (by omega) (by omega) ⟨hS, q1, q2, q3⟩ yS hY (by omega) (by omega) (by omega) (by omega)
  have hV := gB_V hp hn.1
  have hrg := gV_rng (code := code) (t := 0) hC hf hg hY (show Y 512 0 + n ≤ 1100 by omega)
  have hR : R = p.1 := by
    rw [← hV]
    exact a2.2.2 (by omega) (by omega)
  refine ⟨st2 z 1280 0 0 R, ?_, by rw [st2_eq, hR], ?_, (F0.tr (a3.mo fun f i q => (pGa_f.mp q).1)).st (T _ (by omega) (by omega))⟩
  · have a1' : f119 5 0 (-1000000) 1000000 S = some (R, z) := a1
    rw [a1', cR_s]
  · rw [st2_ne (by omega)]
    exact a5 rfl (by omega) rfl rfl p hp
