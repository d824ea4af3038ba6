/-! A ROW AN INSTRUCTION: how the small machine follows a function -/
def jmax (x y : Int) : Int := if x < y then y else x
def jmin (x y : Int) : Int := if y < x then y else x
def ldr {α : Type} (n : Nat) (x : Int) (id : Nat) (k : Nat → Option α) : Option α := if 0 ≤ x ∧ x < n then k id else none
def ldw {α : Type} (s : S2) (f i n : Nat) (x : Int) (k1 : Option α) (k2 : Nat → Option α) : Option α := if 0 ≤ x ∧ x < n then (if s f i x.toNat = 0 then k1 else k2 (s f i x.toNat).toNat) else none
def cpy {α : Type} (s : S2) (f i n0 : Nat) (sp : Int) (g j n1 : Nat) (dp n : Int) (k : S2 → Option α) : Option α := if 0 ≤ sp ∧ 0 ≤ dp ∧ 0 ≤ n ∧ sp + n ≤ n0 ∧ dp + n ≤ n1 then k (cp2 s f i sp.toNat g j dp.toNat n.toNat) else none
def nww {α : Type} (s : S2) (k : Nat → S2 → Option α) : Option α := if 0 ≤ s 9999 0 0 ∧ s 9999 0 0 < 4 then k (s 9999 0 0 + 1).toNat (nw2 s) else none
def lds {α : Type} (X : X2) (x : Int) (k : Int → Option α) : Option α := if 0 ≤ x ∧ x < X.1 then k (X.2 x.toNat) else none
def ldt {α : Type} (j : Nat) (x : Int) (k : Int → Option α) : Option α := if 0 ≤ x ∧ x < (m2_tb j).length then k (Int.ofNat ((m2_tb j).getD x.toNat 0)) else none
def am_ln (g : Nat) : Nat := (am_fk g).2.2.1
def am_rw (g : Nat) : Prop := am_fk g = (2, 0, am_ln g, 0, 0) ∧ (Nat.beq g 6000 || Nat.beq g 6002) = false
def am_kx {α β : Type} (H : α → Prop) (E : β → Prop) (x : α ⊕ β) : Prop := match x with
  | .inl a => H a
  | .inr b => E b
def am_rok {ρ : Type} (x : Nat) (v : AV ρ) : Bool := match x, v with
  | 0, .inl _ => true
  | 1, .inl z => decide (z = 0 ∨ z = 1)
  | 2, .inr (.inl _) => true
  | 3, .inr (.inr _) => true
  | 4, .inl z => decide (0 ≤ z ∧ z ≤ 127)
  | _, _ => false
def am_pp (cd : List (Nat × am_I × Nat)) : Nat → Nat → am_L R2 → List (AV R2) → Option (Nat × am_L R2 × List (AV R2))
  | 0, pc, L, S => some (pc, L, S)
  | j + 1, pc, L, S => match am_lk pc cd with
    | none => none
    | some ((op, x, y, im, tb), nx) => bif Nat.ble op 19 then (match am_p op x y im tb nx L S with
      | none => none
      | some (pc', L', S') => am_pp cd j pc' L' S') else none
section
variable {α β γ : Type} {X : X2} {d k pc nx : Nat} {cd : List (Nat × am_I × Nat)} {L : am_L R2} {S : List (AV R2)} {s : S2} {o : Option (AV R2) × S2} {K : α → Prop} {G : Prop}
theorem am_run_p2 {op x y : Nat} {im : Int} {tb : List (Int × Nat)} {pc' n : Nat} {L' : am_L R2} {S' : List (AV R2)} (hk : am_cd k = cd) (hl : am_lk pc cd = some ((op, x, y, im, tb), nx)) (ho : Nat.ble op 19 = true) (hp : am_p op x y im tb nx L S = some (pc', L', S')) (h : am_run am_P2 am_nl (m2 X) n d k pc' L' S' s = some o) : am_run am_P2 am_nl (m2 X) (n + 1) d k pc L S s = some o := by
  have hP : am_P2 k pc = some ((op, x, y, im, tb), nx) := by unfold am_P2; rw [hk]; exact hl
  have ho := Nat.le_of_ble_eq_true ho
  unfold am_run
  rw [hP]
  simp only
  split
  · omega
  · omega
  · omega
  · omega
  · rw [hp]; exact h
theorem g_pp1 (hk : am_cd k = cd) : ∀ (j : Nat) (pc pc' : Nat) (L L' : am_L R2) (S S' : List (AV R2)), am_pp cd j pc L S = some (pc', L', S') → Go X d k pc' L' S' s o → Go X d k pc L S s o
  | 0, _, _, _, _, _, _, h, hG => by cases h; exact hG
  | j + 1, pc, pc', L, L', S, S', h, hG => by
    unfold am_pp at h
    split at h
    · cases h
    · rename_i hl
      cases ho : Nat.ble _ 19 with
      | false => rw [ho] at h; cases h
      | true =>
        rw [ho] at h
        simp only [cond_true] at h
        split at h
        · cases h
        · rename_i hp
          obtain ⟨n, hn⟩ := g_pp1 hk j _ _ _ _ _ _ h hG
          exact ⟨n + 1, am_run_p2 hk hl ho hp hn⟩
theorem g_p {e : Option α} (hk : am_cd k = cd) (j pc' : Nat) (L' : am_L R2) (S' : List (AV R2)) (h : am_pp cd j pc L S = some (pc', L', S')) (hJ : J e K (Go X d k pc' L' S' s o)) : J e K (Go X d k pc L S s o) := fun x hx hK => g_pp1 hk j _ _ _ _ _ _ h (hJ x hx hK)
theorem g_no : J (none : Option α) K G := fun _ h _ => by cases h
theorem g_end {x : α} (h : K x → G) : J (some x) K G := fun y hy hK => by cases hy; exact h hK
theorem g_wkJ {e : Option α} {L0 : am_L R2} (m : List Bool) (hm : am_mask m L = L0) (h : J e K (Go X d k pc L0 S s o)) : J e K (Go X d k pc L S s o) := fun x hx hK => g_wk m hm (h x hx hK)
theorem g_bnd {a : β} {k' : β → Option α} (G : β → Prop) (h : ∀ v, J (k' v) K (G v)) : J (bnd a k') K (G a) := h a
theorem g_top {a : Int} {k' : Int → Option α} (h : ∀ v, J (k' v) K (Go X d k pc L (vI v :: S) s o)) : J (bnd a k') K (Go X d k pc L (vI a :: S) s o) := h a
theorem g_topl {a : Int} {k' : Int → Option α} (h : ∀ v, J (k' v) K (Go X d k pc L (vL v :: S) s o)) : J (bnd a k') K (Go X d k pc L (vL a :: S) s o) := h a
theorem g_inc {x : Nat} {a im : Int} {k' : Int → Option α} (L' : Int → am_L R2) (hk : am_cd k = cd) (hl : am_lk pc cd = some ((5, x, 0, im, []), nx)) (hL : L[x]? = some (some (vI a))) (hL' : ∀ v, L.set x (some (vI v)) = L' v) (h : ∀ v, J (k' v) K (Go X d k nx (L' v) S s o)) : J (bnd (jadd a im) k') K (Go X d k pc L S s o) := by
  intro z hz hK
  obtain ⟨n, hn⟩ := h _ z hz hK
  rw [← hL'] at hn
  refine ⟨n + 1, am_run_p2 hk hl rfl (pc' := nx) (L' := L.set x (some (vI (jadd a im)))) (S' := S) ?_ hn⟩
  unfold am_p
  simp only
  rw [hL]
theorem g_gd {C : Prop} [Decidable C] {e : Option α} (h : C → J e K G) : J (gd C e) K G := by
  intro x hx hK
  unfold gd at hx
  split at hx
  · rename_i hc; exact h hc x hx hK
  · cases hx
theorem g_if {C : Prop} [Decidable C] {e1 e2 : Option α} (h1 : C → J e1 K G) (h2 : ¬ C → J e2 K G) : J (if C then e1 else e2) K G := by
  split
  · rename_i hc; exact h1 hc
  · rename_i hc; exact h2 hc
theorem g_i2 {C : Prop} [Decidable C] {e1 e2 : Option α} {b t : Nat} {x y im : Int} (hk : am_cd k = cd) (hl : am_lk pc cd = some ((15, b, t, im, []), nx)) (hC : am_cond b x y = C) (h1 : J e1 K (Go X d k t L S s o)) (h2 : J e2 K (Go X d k nx L S s o)) : J (if C then e1 else e2) K (Go X d k pc L (vI y :: vI x :: S) s o) := by
  subst hC
  intro z hz hK
  split at hz
  · rename_i hc
    obtain ⟨n, hn⟩ := h1 z hz hK
    exact ⟨n + 1, am_run_p2 hk hl rfl (by unfold am_p; simp only; rw [if_pos hc]) hn⟩
  · rename_i hc
    obtain ⟨n, hn⟩ := h2 z hz hK
    exact ⟨n + 1, am_run_p2 hk hl rfl (by unfold am_p; simp only; rw [if_neg hc]) hn⟩
theorem g_i1 {C : Prop} [Decidable C] {e1 e2 : Option α} {b t : Nat} {x im : Int} (hk : am_cd k = cd) (hl : am_lk pc cd = some ((16, b, t, im, []), nx)) (hC : am_cond b x 0 = C) (h1 : J e1 K (Go X d k t L S s o)) (h2 : J e2 K (Go X d k nx L S s o)) : J (if C then e1 else e2) K (Go X d k pc L (vI x :: S) s o) := by
  subst hC
  intro z hz hK
  split at hz
  · rename_i hc
    obtain ⟨n, hn⟩ := h1 z hz hK
    exact ⟨n + 1, am_run_p2 hk hl rfl (by unfold am_p; simp only; rw [if_pos hc]) hn⟩
  · rename_i hc
    obtain ⟨n, hn⟩ := h2 z hz hK
    exact ⟨n + 1, am_run_p2 hk hl rfl (by unfold am_p; simp only; rw [if_neg hc]) hn⟩
theorem g_sw {e : Option α} {x0 t : Nat} {x im : Int} {tb : List (Int × Nat)} (hk : am_cd k = cd) (hl : am_lk pc cd = some ((19, x0, t, im, tb), nx)) (hJ : J e K (Go X d k (am_sw tb t x) L S s o)) : J e K (Go X d k pc L (vI x :: S) s o) := by
  intro z hz hK
  obtain ⟨n, hn⟩ := hJ z hz hK
  exact ⟨n + 1, am_run_p2 hk hl rfl rfl hn⟩
theorem g_swc {e1 e2 : Option α} {t dt : Nat} {x c : Int} {tb : List (Int × Nat)} (h1 : J e1 K (Go X d k t L S s o)) (h2 : J e2 K (Go X d k (am_sw tb dt x) L S s o)) : J (if x = c then e1 else e2) K (Go X d k (am_sw ((c, t) :: tb) dt x) L S s o) := by
  unfold am_sw
  split
  · exact h1
  · exact h2
theorem g_swd {e : Option α} {dt : Nat} {x c : Int} {tb : List (Int × Nat)} (h : am_sw tb dt c = dt) (hJ : J e K (Go X d k (am_sw tb dt x) L S s o)) : J e K (Go X d k (am_sw ((c, dt) :: tb) dt x) L S s o) := by
  unfold am_sw
  split
  · rename_i hc
    rw [hc, h] at hJ
    exact hJ
  · exact hJ
theorem g_swe {e : Option α} {dt : Nat} {x : Int} (hJ : J e K (Go X d k dt L S s o)) : J e K (Go X d k (am_sw [] dt x) L S s o) := hJ
theorem g_idiv {e : Option α} {x y : Int} {im : Int} {y0 : Nat} (hk : am_cd k = cd) (hl : am_lk pc cd = some ((6, 9, y0, im, []), nx)) (hJ : J e K (Go X d k nx L (vI (jdiv x y) :: S) s o)) : J (gd (¬ y = 0) e) K (Go X d k pc L (vI y :: vI x :: S) s o) := by
  refine g_gd fun h0 => ?_
  intro z hz hK
  obtain ⟨n, hn⟩ := hJ z hz hK
  exact ⟨n + 1, am_run_p2 hk hl rfl (by unfold am_p; simp only [am_ibin]; rw [if_neg h0]) hn⟩
theorem g_irem {e : Option α} {x y : Int} {im : Int} {y0 : Nat} (hk : am_cd k = cd) (hl : am_lk pc cd = some ((6, 10, y0, im, []), nx)) (hJ : J e K (Go X d k nx L (vI (jrem x y) :: S) s o)) : J (gd (¬ y = 0) e) K (Go X d k pc L (vI y :: vI x :: S) s o) := by
  refine g_gd fun h0 => ?_
  intro z hz hK
  obtain ⟨n, hn⟩ := hJ z hz hK
  exact ⟨n + 1, am_run_p2 hk hl rfl (by unfold am_p; simp only [am_ibin]; rw [if_neg h0]) hn⟩
theorem g_ldiv {e : Option α} {x y : Int} {im : Int} {y0 : Nat} (hk : am_cd k = cd) (hl : am_lk pc cd = some ((10, 5, y0, im, []), nx)) (hJ : J e K (Go X d k nx L (vL (kdiv x y) :: S) s o)) : J (gd (¬ y = 0) e) K (Go X d k pc L (vL y :: vL x :: S) s o) := by
  refine g_gd fun h0 => ?_
  intro z hz hK
  obtain ⟨n, hn⟩ := hJ z hz hK
  exact ⟨n + 1, am_run_p2 hk hl rfl (by unfold am_p; simp only [am_lbin]; rw [if_neg h0]) hn⟩
theorem g_lrem {e : Option α} {x y : Int} {im : Int} {y0 : Nat} (hk : am_cd k = cd) (hl : am_lk pc cd = some ((10, 6, y0, im, []), nx)) (hJ : J e K (Go X d k nx L (vL (krem x y) :: S) s o)) : J (gd (¬ y = 0) e) K (Go X d k pc L (vL y :: vL x :: S) s o) := by
  refine g_gd fun h0 => ?_
  intro z hz hK
  obtain ⟨n, hn⟩ := hJ z hz hK
  exact ⟨n + 1, am_run_p2 hk hl rfl (by unfold am_p; simp only [am_lbin]; rw [if_neg h0]) hn⟩
theorem m2_lenR {g i : Nat} (hg : am_rw g) : m2 X 4 0 [aR g i] s = some (some (vI ((am_ln g : Nat) : Int)), s) := by
  obtain ⟨h1, h2⟩ := hg
  rw [Bool.or_eq_false_iff] at h2
  show m2_len X [aR g i] s = _
  unfold m2_len
  simp only [h2.1, h2.2, cond_false, h1]
theorem am_bl {a b c : Nat} (h : a ≤ b) (hc : Nat.ble c a = true) : Nat.ble c b = true := Nat.ble_eq_true_of_le (Nat.le_trans (Nat.le_of_ble_eq_true hc) h)
/-- a request -/
theorem am_run_m2 {x y f n : Nat} {tb : List (Int × Nat)} {S0 : List (AV R2)} {rv : Option (AV R2)} {s' : S2} (hk : am_cd k = cd) (hl : am_lk pc cd = some ((24, x, y, Int.ofNat f, tb), nx)) (hd : 1 ≤ d) (hc : y ≤ S0.length ∧ am_small (S0.drop y) = true) (hm : m2 X x f (S0.take y).reverse s = some (rv, s')) (h : am_run am_P2 am_nl (m2 X) n d k nx L (rv.toList ++ S0.drop y) s' = some o) : am_run am_P2 am_nl (m2 X) (n + 1) d k pc L S0 s = some o := by
  have hP : am_P2 k pc = some ((24, x, y, Int.ofNat f, tb), nx) := by unfold am_P2; rw [hk]; exact hl
  unfold am_run
  rw [hP]
  match d, hd with
  | d0 + 1, _ =>
    simp only
    rw [if_pos hc]
    have : (Int.ofNat f).toNat = f := rfl
    rw [this, hm]
    exact h
theorem g_m {e : Option α} {x y f : Nat} {tb : List (Int × Nat)} {S0 : List (AV R2)} (rv : Option (AV R2)) (hk : am_cd k = cd) (hl : am_lk pc cd = some ((24, x, y, Int.ofNat f, tb), nx)) (hd : Nat.ble 1 d = true) (hc : (Nat.ble y S0.length && am_small (S0.drop y)) = true) (hm : ∀ s, m2 X x f (S0.take y).reverse s = some (rv, s)) (hS : rv.toList ++ S0.drop y = S) (hJ : J e K (Go X d k nx L S s o)) : J e K (Go X d k pc L S0 s o) := by
  intro z hz hK
  obtain ⟨n, hn⟩ := hJ z hz hK
  rw [Bool.and_eq_true] at hc
  subst hS
  exact ⟨n + 1, am_run_m2 hk hl (Nat.le_of_ble_eq_true hd) ⟨Nat.le_of_ble_eq_true hc.1, hc.2⟩ (hm s) hn⟩
theorem g_get {k' : Int → Option α} {f i c : Nat} {tb : List (Int × Nat)} (hk : am_cd k = cd) (hl : am_lk pc cd = some ((24, 0, 1, Int.ofNat f, tb), nx)) (hd : Nat.ble 1 d = true) (hc : am_small S = true) (hm : ∀ s, m2 X 0 f [oR c i] s = some (some (vI (s f i 0)), s)) (hJ : ∀ v, J (k' v) K (Go X d k nx L (vI v :: S) s o)) : J (bnd (s f i 0) k') K (Go X d k pc L (oR c i :: S) s o) := by
  intro z hz hK
  obtain ⟨n, hn⟩ := hJ _ z hz hK
  exact ⟨n + 1, am_run_m2 (S0 := oR c i :: S) hk hl (Nat.le_of_ble_eq_true hd) ⟨by simp, hc⟩ (hm s) hn⟩
theorem g_dyn {k' : Nat → Option α} {f i c c' : Nat} {tb : List (Int × Nat)} (hk : am_cd k = cd) (hl : am_lk pc cd = some ((24, 0, 1, Int.ofNat f, tb), nx)) (hd : Nat.ble 1 d = true) (hc : am_small S = true) (hm : ∀ s, m2 X 0 f [oR c i] s = some (some (oR c' (s f i 0).toNat), s)) (hJ : ∀ v, J (k' v) K (Go X d k nx L (oR c' v :: S) s o)) : J (bnd (s f i 0).toNat k') K (Go X d k pc L (oR c i :: S) s o) := by
  intro z hz hK
  obtain ⟨n, hn⟩ := hJ _ z hz hK
  exact ⟨n + 1, am_run_m2 (S0 := oR c i :: S) hk hl (Nat.le_of_ble_eq_true hd) ⟨by simp, hc⟩ (hm s) hn⟩
theorem g_put {k' : S2 → Option α} {f i c : Nat} {v : Int} {tb : List (Int × Nat)} (hk : am_cd k = cd) (hl : am_lk pc cd = some ((24, 1, 2, Int.ofNat f, tb), nx)) (hd : Nat.ble 1 d = true) (hc : am_small S = true) (hm : ∀ s, m2 X 1 f [oR c i, vI v] s = some (none, st2 s f i 0 v)) (hJ : ∀ s', J (k' s') K (Go X d k nx L S s' o)) : J (bnd (st2 s f i 0 v) k') K (Go X d k pc L (vI v :: oR c i :: S) s o) := by
  intro z hz hK
  obtain ⟨n, hn⟩ := hJ _ z hz hK
  exact ⟨n + 1, am_run_m2 (S0 := vI v :: oR c i :: S) hk hl (Nat.le_of_ble_eq_true hd) ⟨by simp, hc⟩ (hm s) hn⟩
theorem g_putr {k' : S2 → Option α} {f i c c' j : Nat} {tb : List (Int × Nat)} (hk : am_cd k = cd) (hl : am_lk pc cd = some ((24, 1, 2, Int.ofNat f, tb), nx)) (hd : Nat.ble 1 d = true) (hc : am_small S = true) (hm : ∀ s, m2 X 1 f [oR c i, oR c' j] s = some (none, st2 s f i 0 (j : Int))) (hJ : ∀ s', J (k' s') K (Go X d k nx L S s' o)) : J (bnd (st2 s f i 0 (j : Int)) k') K (Go X d k pc L (oR c' j :: oR c i :: S) s o) := by
  intro z hz hK
  obtain ⟨n, hn⟩ := hJ _ z hz hK
  exact ⟨n + 1, am_run_m2 (S0 := oR c' j :: oR c i :: S) hk hl (Nat.le_of_ble_eq_true hd) ⟨by simp, hc⟩ (hm s) hn⟩
theorem g_putb {k' : S2 → Option α} {f i c : Nat} {v : Int} {tb : List (Int × Nat)} (hk : am_cd k = cd) (hl : am_lk pc cd = some ((24, 1, 2, Int.ofNat f, tb), nx)) (hd : Nat.ble 1 d = true) (hc : am_small S = true) (hm : ∀ s, v = 0 ∨ v = 1 → m2 X 1 f [oR c i, vI v] s = some (none, st2 s f i 0 v)) (hJ : ∀ s', J (k' s') K (Go X d k nx L S s' o)) : J (gd (v = 0 ∨ v = 1) (bnd (st2 s f i 0 v) k')) K (Go X d k pc L (vI v :: oR c i :: S) s o) := by
  refine g_gd fun hv => ?_
  intro z hz hK
  obtain ⟨n, hn⟩ := hJ _ z hz hK
  exact ⟨n + 1, am_run_m2 (S0 := vI v :: oR c i :: S) hk hl (Nat.le_of_ble_eq_true hd) ⟨by simp, hc⟩ (hm s hv) hn⟩
theorem g_ld {k' : Int → Option α} {f i n t t' : Nat} {x : Int} {tb : List (Int × Nat)} (hk : am_cd k = cd) (hl : am_lk pc cd = some ((24, 2, 2, Int.ofNat t, tb), nx)) (hd : Nat.ble 1 d = true) (hc : am_small S = true) (hf : am_fk f = (2, t', n, 0, 0)) (ht : (am_tm t' t && !(Nat.beq t' 3)) = true) (h6 : (Nat.beq f 6000 || Nat.beq f 6002) = false) (hJ : ∀ v, J (k' v) K (Go X d k nx L (vI v :: S) s o)) : J (ld s f i n x k') K (Go X d k pc L (vI x :: aR f i :: S) s o) := by
  intro z hz hK
  unfold ld at hz
  split at hz
  · rename_i hx
    obtain ⟨m, hn⟩ := hJ _ z hz hK
    refine ⟨m + 1, am_run_m2 (S0 := vI x :: aR f i :: S) hk hl (Nat.le_of_ble_eq_true hd) ⟨by simp, hc⟩ (rv := some (vI (s f i x.toNat))) ?_ hn⟩
    rw [Bool.or_eq_false_iff] at h6
    rw [Bool.and_eq_true, Bool.not_eq_true'] at ht
    show m2_ald X t [aR f i, vI x] s = _
    unfold m2_ald
    simp only [h6.1, h6.2, cond_false, hf]
    rw [if_pos hx, ht.1, ht.2]
    rfl
  · cases hz
theorem g_ldl {k' : Int → Option α} {f i n t : Nat} {x : Int} {tb : List (Int × Nat)} (hk : am_cd k = cd) (hl : am_lk pc cd = some ((24, 2, 2, Int.ofNat t, tb), nx)) (hd : Nat.ble 1 d = true) (hc : am_small S = true) (hf : am_fk f = (2, 3, n, 0, 0)) (ht : am_tm 3 t = true) (h6 : (Nat.beq f 6000 || Nat.beq f 6002) = false) (hJ : ∀ v, J (k' v) K (Go X d k nx L (vL v :: S) s o)) : J (ld s f i n x k') K (Go X d k pc L (vI x :: aR f i :: S) s o) := by
  intro z hz hK
  unfold ld at hz
  split at hz
  · rename_i hx
    obtain ⟨m, hn⟩ := hJ _ z hz hK
    refine ⟨m + 1, am_run_m2 (S0 := vI x :: aR f i :: S) hk hl (Nat.le_of_ble_eq_true hd) ⟨by simp, hc⟩ (rv := some (vL (s f i x.toNat))) ?_ hn⟩
    rw [Bool.or_eq_false_iff] at h6
    show m2_ald X t [aR f i, vI x] s = _
    unfold m2_ald
    simp only [h6.1, h6.2, cond_false, hf]
    rw [if_pos hx, ht]
    rfl
  · cases hz
theorem g_ldr {k' : Nat → Option α} {f i n c a b : Nat} {x : Int} {tb : List (Int × Nat)} (hk : am_cd k = cd) (hl : am_lk pc cd = some ((24, 2, 2, 4, tb), nx)) (hd : Nat.ble 1 d = true) (hc : am_small S = true) (hf : am_fk f = (5, c, n, a, b)) (h6 : (Nat.beq f 6000 || Nat.beq f 6002) = false) (hJ : ∀ v, J (k' v) K (Go X d k nx L (oR c v :: S) s o)) : J (ldr n x (am_el a i b x.toNat) k') K (Go X d k pc L (vI x :: aR f i :: S) s o) := by
  intro z hz hK
  unfold ldr at hz
  split at hz
  · rename_i hx
    obtain ⟨m, hn⟩ := hJ _ z hz hK
    refine ⟨m + 1, am_run_m2 (f := 4) (S0 := vI x :: aR f i :: S) hk hl (Nat.le_of_ble_eq_true hd) ⟨by simp, hc⟩ (rv := some (oR c (am_el a i b x.toNat))) ?_ hn⟩
    rw [Bool.or_eq_false_iff] at h6
    show m2_ald X 4 [aR f i, vI x] s = _
    unfold m2_ald
    simp only [h6.1, h6.2, cond_false, hf]
    rw [if_pos hx]
    rfl
  · cases hz
theorem g_ldh {k' : Nat → Option α} {f i n : Nat} {x : Int} {tb : List (Int × Nat)} (hk : am_cd k = cd) (hl : am_lk pc cd = some ((24, 2, 2, 4, tb), nx)) (hd : Nat.ble 1 d = true) (hc : am_small S = true) (hf : am_fk f = (6, 0, n, 0, 0)) (h6 : (Nat.beq f 6000 || Nat.beq f 6002) = false) (hJ : ∀ v, J (k' v) K (Go X d k nx L (aR 3000 v :: S) s o)) : J (ldr n x x.toNat k') K (Go X d k pc L (vI x :: aR f i :: S) s o) := by
  intro z hz hK
  unfold ldr at hz
  split at hz
  · rename_i hx
    obtain ⟨m, hn⟩ := hJ _ z hz hK
    refine ⟨m + 1, am_run_m2 (f := 4) (S0 := vI x :: aR f i :: S) hk hl (Nat.le_of_ble_eq_true hd) ⟨by simp, hc⟩ (rv := some (aR 3000 x.toNat)) ?_ hn⟩
    rw [Bool.or_eq_false_iff] at h6
    show m2_ald X 4 [aR f i, vI x] s = _
    unfold m2_ald
    simp only [h6.1, h6.2, cond_false, hf]
    rw [if_pos hx]
    rfl
  · cases hz
theorem g_ldw {k1 : Option α} {k2 : Nat → Option α} {f i n c : Nat} {x : Int} {tb : List (Int × Nat)} (hk : am_cd k = cd) (hl : am_lk pc cd = some ((24, 2, 2, 4, tb), nx)) (hd : Nat.ble 1 d = true) (hc : am_small S = true) (hf : am_fk f = (7, c, n, 0, 0)) (h6 : (Nat.beq f 6000 || Nat.beq f 6002) = false) (h1 : J k1 K (Go X d k nx L (vN :: S) s o)) (h2 : ∀ v, J (k2 v) K (Go X d k nx L (oR c v :: S) s o)) : J (ldw s f i n x k1 k2) K (Go X d k pc L (vI x :: aR f i :: S) s o) := by
  intro z hz hK
  unfold ldw at hz
  rw [Bool.or_eq_false_iff] at h6
  split at hz
  · rename_i hx
    split at hz
    · rename_i h0
      obtain ⟨m, hn⟩ := h1 z hz hK
      refine ⟨m + 1, am_run_m2 (f := 4) (S0 := vI x :: aR f i :: S) hk hl (Nat.le_of_ble_eq_true hd) ⟨by simp, hc⟩ (rv := some vN) ?_ hn⟩
      show m2_ald X 4 [aR f i, vI x] s = _
      unfold m2_ald
      simp only [h6.1, h6.2, cond_false, hf]
      rw [if_pos hx, if_pos h0]
      rfl
    · rename_i h0
      obtain ⟨m, hn⟩ := h2 _ z hz hK
      refine ⟨m + 1, am_run_m2 (f := 4) (S0 := vI x :: aR f i :: S) hk hl (Nat.le_of_ble_eq_true hd) ⟨by simp, hc⟩ (rv := some (oR c (s f i x.toNat).toNat)) ?_ hn⟩
      show m2_ald X 4 [aR f i, vI x] s = _
      unfold m2_ald
      simp only [h6.1, h6.2, cond_false, hf]
      rw [if_pos hx, if_neg h0]
      rfl
  · cases hz
theorem g_lds {k' : Int → Option α} {x : Int} {tb : List (Int × Nat)} (hk : am_cd k = cd) (hl : am_lk pc cd = some ((24, 2, 2, 0, tb), nx)) (hd : Nat.ble 1 d = true) (hc : am_small S = true) (hJ : ∀ v, J (k' v) K (Go X d k nx L (vI v :: S) s o)) : J (lds X x k') K (Go X d k pc L (vI x :: aR 6000 0 :: S) s o) := by
  intro z hz hK
  unfold lds at hz
  split at hz
  · rename_i hx
    obtain ⟨m, hn⟩ := hJ _ z hz hK
    refine ⟨m + 1, am_run_m2 (f := 0) (S0 := vI x :: aR 6000 0 :: S) hk hl (Nat.le_of_ble_eq_true hd) ⟨by simp, hc⟩ (rv := some (vI (X.2 x.toNat))) ?_ hn⟩
    show (if 0 ≤ x ∧ x < X.1 then (if 0 = 0 ∧ 0 = 0 then some (some (vI (X.2 x.toNat)), s) else none) else none) = _
    rw [if_pos hx, if_pos ⟨rfl, rfl⟩]
  · cases hz
theorem g_ldt {k' : Int → Option α} {j : Nat} {x : Int} {tb : List (Int × Nat)} (hj : j < am_T.length) (hk : am_cd k = cd) (hl : am_lk pc cd = some ((24, 2, 2, 1, tb), nx)) (hd : Nat.ble 1 d = true) (hc : am_small S = true) (hJ : ∀ v, J (k' v) K (Go X d k nx L (vI v :: S) s o)) : J (ldt j x k') K (Go X d k pc L (vI x :: aR 6002 j :: S) s o) := by
  intro z hz hK
  unfold ldt at hz
  split at hz
  · rename_i hx
    obtain ⟨m, hn⟩ := hJ _ z hz hK
    refine ⟨m + 1, am_run_m2 (f := 1) (S0 := vI x :: aR 6002 j :: S) hk hl (Nat.le_of_ble_eq_true hd) ⟨by simp, hc⟩ (rv := some (vI (Int.ofNat ((m2_tb j).getD x.toNat 0)))) ?_ hn⟩
    show (if 0 ≤ x ∧ x < (m2_tb j).length then (if j < am_T.length ∧ 1 = 1 then some (some (vI (Int.ofNat ((m2_tb j).getD x.toNat 0))), s) else none) else none) = _
    rw [if_pos hx, if_pos ⟨hj, rfl⟩]
  · cases hz
theorem g_sto {k' : S2 → Option α} {f i n : Nat} {x v : Int} {tb : List (Int × Nat)} (hk : am_cd k = cd) (hl : am_lk pc cd = some ((24, 3, 3, 0, tb), nx)) (hd : Nat.ble 1 d = true) (hc : am_small S = true) (hf : am_fk f = (2, 0, n, 0, 0)) (hJ : ∀ s', J (k' s') K (Go X d k nx L S s' o)) : J (sto s f i n x v k') K (Go X d k pc L (vI v :: vI x :: aR f i :: S) s o) := by
  intro z hz hK
  unfold sto at hz
  split at hz
  · rename_i hx
    obtain ⟨m, hn⟩ := hJ _ z hz hK
    refine ⟨m + 1, am_run_m2 (f := 0) (S0 := vI v :: vI x :: aR f i :: S) hk hl (Nat.le_of_ble_eq_true hd) ⟨by simp, hc⟩ (rv := none) ?_ hn⟩
    show m2_ast 0 [aR f i, vI x, vI v] s = _
    unfold m2_ast
    simp only [hf]
    rw [if_pos hx]
    rfl
  · cases hz
theorem g_stob {k' : S2 → Option α} {f i n : Nat} {x v : Int} {tb : List (Int × Nat)} (hk : am_cd k = cd) (hl : am_lk pc cd = some ((24, 3, 3, 1, tb), nx)) (hd : Nat.ble 1 d = true) (hc : am_small S = true) (hf : am_fk f = (2, 1, n, 0, 0)) (hJ : ∀ s', J (k' s') K (Go X d k nx L S s' o)) : J (sto s f i n x (ji2b v) k') K (Go X d k pc L (vI v :: vI x :: aR f i :: S) s o) := by
  intro z hz hK
  unfold sto at hz
  split at hz
  · rename_i hx
    obtain ⟨m, hn⟩ := hJ _ z hz hK
    refine ⟨m + 1, am_run_m2 (f := 1) (S0 := vI v :: vI x :: aR f i :: S) hk hl (Nat.le_of_ble_eq_true hd) ⟨by simp, hc⟩ (rv := none) ?_ hn⟩
    show m2_ast 1 [aR f i, vI x, vI v] s = _
    unfold m2_ast
    simp only [hf]
    rw [if_pos hx]
    rfl
  · cases hz
theorem g_stoz {k' : S2 → Option α} {f i n : Nat} {x v : Int} {tb : List (Int × Nat)} (hv : v = 0 ∨ v = 1) (hk : am_cd k = cd) (hl : am_lk pc cd = some ((24, 3, 3, 1, tb), nx)) (hd : Nat.ble 1 d = true) (hc : am_small S = true) (hf : am_fk f = (2, 2, n, 0, 0)) (hJ : ∀ s', J (k' s') K (Go X d k nx L S s' o)) : J (sto s f i n x v k') K (Go X d k pc L (vI v :: vI x :: aR f i :: S) s o) := by
  intro z hz hK
  unfold sto at hz
  split at hz
  · rename_i hx
    obtain ⟨m, hn⟩ := hJ _ z hz hK
    refine ⟨m + 1, am_run_m2 (f := 1) (S0 := vI v :: vI x :: aR f i :: S) hk hl (Nat.le_of_ble_eq_true hd) ⟨by simp, hc⟩ (rv := none) ?_ hn⟩
    show m2_ast 1 [aR f i, vI x, vI v] s = _
    unfold m2_ast
    simp only [hf]
    rw [if_pos hx]
    exact if_pos ⟨trivial, hv⟩
  · cases hz
theorem g_stol {k' : S2 → Option α} {f i n : Nat} {x v : Int} {tb : List (Int × Nat)} (hk : am_cd k = cd) (hl : am_lk pc cd = some ((24, 3, 3, 3, tb), nx)) (hd : Nat.ble 1 d = true) (hc : am_small S = true) (hf : am_fk f = (2, 3, n, 0, 0)) (hJ : ∀ s', J (k' s') K (Go X d k nx L S s' o)) : J (sto s f i n x v k') K (Go X d k pc L (vL v :: vI x :: aR f i :: S) s o) := by
  intro z hz hK
  unfold sto at hz
  split at hz
  · rename_i hx
    obtain ⟨m, hn⟩ := hJ _ z hz hK
    refine ⟨m + 1, am_run_m2 (f := 3) (S0 := vL v :: vI x :: aR f i :: S) hk hl (Nat.le_of_ble_eq_true hd) ⟨by simp, hc⟩ (rv := none) ?_ hn⟩
    show m2_ast 3 [aR f i, vI x, vL v] s = _
    unfold m2_ast
    simp only [hf]
    rw [if_pos hx]
    rfl
  · cases hz
theorem g_stow {k' : S2 → Option α} {f i n c j : Nat} {x : Int} {tb : List (Int × Nat)} (hk : am_cd k = cd) (hl : am_lk pc cd = some ((24, 3, 3, 4, tb), nx)) (hd : Nat.ble 1 d = true) (hc : am_small S = true) (hf : am_fk f = (7, c, n, 0, 0)) (hj : j ≠ 0) (hJ : ∀ s', J (k' s') K (Go X d k nx L S s' o)) : J (sto s f i n x (j : Int) k') K (Go X d k pc L (oR c j :: vI x :: aR f i :: S) s o) := by
  intro z hz hK
  unfold sto at hz
  split at hz
  · rename_i hx
    obtain ⟨m, hn⟩ := hJ _ z hz hK
    refine ⟨m + 1, am_run_m2 (f := 4) (S0 := oR c j :: vI x :: aR f i :: S) hk hl (Nat.le_of_ble_eq_true hd) ⟨by simp, hc⟩ (rv := none) ?_ hn⟩
    show m2_ast 4 [aR f i, vI x, oR c j] s = _
    unfold m2_ast
    simp only [hf]
    rw [if_pos hx]
    have : (Nat.beq 4 4 && Nat.beq c c && !(Nat.beq j 0)) = true := by
      rw [Bool.and_eq_true, Bool.and_eq_true]
      refine ⟨⟨rfl, Nat.beq_refl c⟩, ?_⟩
      cases j with
      | zero => exact absurd rfl hj
      | succ j => rfl
    rw [this]
    rfl
  · cases hz
theorem g_cpy {k' : S2 → Option α} {f i n0 g j n1 : Nat} {sp dp n im : Int} {tb : List (Int × Nat)} (hk : am_cd k = cd) (hl : am_lk pc cd = some ((24, 10, 5, 0, tb), nx)) (hd : Nat.ble 1 d = true) (hc : am_small S = true) (hf : am_fk f = (2, 0, n0, 0, 0)) (hg : am_fk g = (2, 0, n1, 0, 0)) (hJ : ∀ s', J (k' s') K (Go X d k nx L S s' o)) : J (cpy s f i n0 sp g j n1 dp n k') K (Go X d k pc L (vI n :: vI dp :: aR g j :: vI sp :: aR f i :: S) s o) := by
  intro z hz hK
  unfold cpy at hz
  split at hz
  · rename_i hx
    obtain ⟨m, hn⟩ := hJ _ z hz hK
    refine ⟨m + 1, am_run_m2 (f := 0) (S0 := vI n :: vI dp :: aR g j :: vI sp :: aR f i :: S) hk hl (Nat.le_of_ble_eq_true hd) ⟨by simp, hc⟩ (rv := none) ?_ hn⟩
    show m2_cpy [aR f i, vI sp, aR g j, vI dp, vI n] s = _
    unfold m2_cpy
    simp only [hf, hg]
    rw [if_pos hx]
  · cases hz
theorem g_nw {k' : Nat → S2 → Option α} {im : Nat} {tb : List (Int × Nat)} (hk : am_cd k = cd) (hl : am_lk pc cd = some ((24, 30, 0, Int.ofNat im, tb), nx)) (hd : Nat.ble 1 d = true) (hc : am_small S = true) (hJ : ∀ v s', v ≠ 0 → J (k' v s') K (Go X d k nx L (oR 8 v :: S) s' o)) : J (nww s k') K (Go X d k pc L S s o) := by
  intro z hz hK
  unfold nww at hz
  split at hz
  · rename_i hx
    obtain ⟨m, hn⟩ := hJ (s 9999 0 0 + 1).toNat (nw2 s) (by omega) z hz hK
    refine ⟨m + 1, am_run_m2 (f := im) (S0 := S) hk hl (Nat.le_of_ble_eq_true hd) ⟨by simp, hc⟩ (rv := some (oR 8 (s 9999 0 0 + 1).toNat)) (s' := nw2 s) ?_ hn⟩
    show (if 0 ≤ s 9999 0 0 ∧ s 9999 0 0 < 4 then some (some (oR 8 (s 9999 0 0 + 1).toNat), nw2 s) else none) = _
    rw [if_pos hx]
  · cases hz
/-- a call -/
theorem am_run_c2 {m y n D' : Nat} {im : Int} {tb : List (Int × Nat)} {S0 as : List (AV R2)} {rv : Option (AV R2)} {s' : S2} (hk : am_cd k = cd) (hl : am_lk pc cd = some ((21, m, y, im, tb), nx)) (hd : Nat.ble (D' + 1) d = true) (hc : (Nat.ble y S0.length && (am_small (S0.drop y) && Nat.ble ((S0.take y).map am_cat).sum (am_nl m))) = true) (hr : (decide (im = 1) || (m2 X 17 m ((S0.take y).reverse.take 1) s).isSome) = true) (has : (S0.take y).reverse = as) (hf : Go X D' m 0 (am_loc (am_nl m) as) [] s (rv, s')) (h : am_run am_P2 am_nl (m2 X) n d k nx L (rv.toList ++ S0.drop y) s' = some o) : Go X d k pc L S0 s o := by
  have hP : am_P2 k pc = some ((21, m, y, im, tb), nx) := by unfold am_P2; rw [hk]; exact hl
  obtain ⟨n1, hn1⟩ := hf
  have hd := Nat.le_of_ble_eq_true hd
  match d, hd with
  | d0 + 1, hd =>
    have h1 := am_run_mono n1 (max n1 n) D' d0 _ _ _ _ _ _ (Nat.le_max_left _ _) (Nat.le_of_succ_le_succ hd) hn1
    have h2 := am_run_mono n (max n1 n) (d0 + 1) (d0 + 1) _ _ _ _ _ _ (Nat.le_max_right _ _) (Nat.le_refl _) h
    refine ⟨max n1 n + 1, ?_⟩
    rw [Bool.and_eq_true, Bool.and_eq_true] at hc
    rw [Bool.or_eq_true, decide_eq_true_iff] at hr
    unfold am_run
    rw [hP]
    simp only
    rw [if_pos ⟨Nat.le_of_ble_eq_true hc.1, hc.2.1, Nat.le_of_ble_eq_true hc.2.2, hr⟩, has, h1]
    exact h2
theorem g_call {f : Option β} {k' : β → Option α} {enc : β → Option (AV R2) × S2} {m y D' : Nat} {im : Int} {tb : List (Int × Nat)} {S0 as : List (AV R2)} (hk : am_cd k = cd) (hl : am_lk pc cd = some ((21, m, y, im, tb), nx)) (hf : ∀ o, J f (fun r => o = enc r) (Go X D' m 0 (am_loc (am_nl m) as) [] s o)) (hd : Nat.ble (D' + 1) d = true) (hc : (Nat.ble y S0.length && (am_small (S0.drop y) && Nat.ble ((S0.take y).map am_cat).sum (am_nl m))) = true) (hr : (decide (im = 1) || (m2 X 17 m ((S0.take y).reverse.take 1) s).isSome) = true) (has : (S0.take y).reverse = as) (hJ : ∀ r, J (k' r) K (Go X d k nx L ((enc r).1.toList ++ S0.drop y) (enc r).2 o)) : J (cP f k') K (Go X d k pc L S0 s o) := by
  intro z hz hK
  cases hr' : f with
  | none => rw [hr'] at hz; cases hz
  | some r =>
    rw [hr'] at hz
    obtain ⟨n, hn⟩ := hJ r z hz hK
    exact am_run_c2 hk hl hd hc hr has (hf (enc r) r hr' rfl) hn
theorem cR_eq {x : Option (α × S2)} {k' : α → S2 → Option β} : cR x k' = cP x (fun p => k' p.1 p.2) := by
  unfold cR cP
  cases x with
  | none => rfl
  | some p => rfl
theorem g_cPI {f : Option Int} {k' : Int → Option α} {m y D' : Nat} {im : Int} {tb : List (Int × Nat)} {S0 as : List (AV R2)} (hk : am_cd k = cd) (hl : am_lk pc cd = some ((21, m, y, im, tb), nx)) (hf : ∀ o, J f (fun r => o = (some (vI r), s)) (Go X D' m 0 (am_loc (am_nl m) as) [] s o)) (hd : Nat.ble (D' + 1) d = true) (hc : (Nat.ble y S0.length && (am_small (S0.drop y) && Nat.ble ((S0.take y).map am_cat).sum (am_nl m))) = true) (hr : (decide (im = 1) || (m2 X 17 m ((S0.take y).reverse.take 1) s).isSome) = true) (has : (S0.take y).reverse = as) (hS : S0.drop y = S) (hJ : ∀ r, J (k' r) K (Go X d k nx L (vI r :: S) s o)) : J (cP f k') K (Go X d k pc L S0 s o) := g_call (enc := fun r => (some (vI r), s)) hk hl hf hd hc hr has (fun r => by rw [hS]; exact hJ r)
theorem g_cPL {f : Option Int} {k' : Int → Option α} {m y D' : Nat} {im : Int} {tb : List (Int × Nat)} {S0 as : List (AV R2)} (hk : am_cd k = cd) (hl : am_lk pc cd = some ((21, m, y, im, tb), nx)) (hf : ∀ o, J f (fun r => o = (some (vL r), s)) (Go X D' m 0 (am_loc (am_nl m) as) [] s o)) (hd : Nat.ble (D' + 1) d = true) (hc : (Nat.ble y S0.length && (am_small (S0.drop y) && Nat.ble ((S0.take y).map am_cat).sum (am_nl m))) = true) (hr : (decide (im = 1) || (m2 X 17 m ((S0.take y).reverse.take 1) s).isSome) = true) (has : (S0.take y).reverse = as) (hS : S0.drop y = S) (hJ : ∀ r, J (k' r) K (Go X d k nx L (vL r :: S) s o)) : J (cP f k') K (Go X d k pc L S0 s o) := g_call (enc := fun r => (some (vL r), s)) hk hl hf hd hc hr has (fun r => by rw [hS]; exact hJ r)
theorem g_cPN {f : Option Nat} {k' : Nat → Option α} {m y D' c : Nat} {im : Int} {tb : List (Int × Nat)} {S0 as : List (AV R2)} (hk : am_cd k = cd) (hl : am_lk pc cd = some ((21, m, y, im, tb), nx)) (hf : ∀ o, J f (fun r => o = (some (oR c r), s)) (Go X D' m 0 (am_loc (am_nl m) as) [] s o)) (hd : Nat.ble (D' + 1) d = true) (hc : (Nat.ble y S0.length && (am_small (S0.drop y) && Nat.ble ((S0.take y).map am_cat).sum (am_nl m))) = true) (hr : (decide (im = 1) || (m2 X 17 m ((S0.take y).reverse.take 1) s).isSome) = true) (has : (S0.take y).reverse = as) (hS : S0.drop y = S) (hJ : ∀ r, J (k' r) K (Go X d k nx L (oR c r :: S) s o)) : J (cP f k') K (Go X d k pc L S0 s o) := g_call (enc := fun r => (some (oR c r), s)) hk hl hf hd hc hr has (fun r => by rw [hS]; exact hJ r)
theorem g_cPU {f : Option Unit} {k' : Unit → Option α} {m y D' : Nat} {im : Int} {tb : List (Int × Nat)} {S0 as : List (AV R2)} (hk : am_cd k = cd) (hl : am_lk pc cd = some ((21, m, y, im, tb), nx)) (hf : ∀ o, J f (fun _ => o = (none, s)) (Go X D' m 0 (am_loc (am_nl m) as) [] s o)) (hd : Nat.ble (D' + 1) d = true) (hc : (Nat.ble y S0.length && (am_small (S0.drop y) && Nat.ble ((S0.take y).map am_cat).sum (am_nl m))) = true) (hr : (decide (im = 1) || (m2 X 17 m ((S0.take y).reverse.take 1) s).isSome) = true) (has : (S0.take y).reverse = as) (hS : S0.drop y = S) (hJ : ∀ r, J (k' r) K (Go X d k nx L S s o)) : J (cP f k') K (Go X d k pc L S0 s o) := g_call (enc := fun _ => (none, s)) hk hl hf hd hc hr has (fun r => by rw [hS]; exact hJ r)
theorem g_cV {f : Option S2} {k' : S2 → Option α} {m y D' : Nat} {im : Int} {tb : List (Int × Nat)} {S0 as : List (AV R2)} (hk : am_cd k = cd) (hl : am_lk pc cd = some ((21, m, y, im, tb), nx)) (hf : ∀ o, J f (fun r => o = (none, r)) (Go X D' m 0 (am_loc (am_nl m) as) [] s o)) (hd : Nat.ble (D' + 1) d = true) (hc : (Nat.ble y S0.length && (am_small (S0.drop y) && Nat.ble ((S0.take y).map am_cat).sum (am_nl m))) = true) (hr : (decide (im = 1) || (m2 X 17 m ((S0.take y).reverse.take 1) s).isSome) = true) (has : (S0.take y).reverse = as) (hS : S0.drop y = S) (hJ : ∀ s', J (k' s') K (Go X d k nx L S s' o)) : J (cP f k') K (Go X d k pc L S0 s o) := g_call (enc := fun r => (none, r)) hk hl hf hd hc hr has (fun r => by rw [hS]; exact hJ r)
theorem g_cRI {f : Option (Int × S2)} {k' : Int → S2 → Option α} {m y D' : Nat} {im : Int} {tb : List (Int × Nat)} {S0 as : List (AV R2)} (hk : am_cd k = cd) (hl : am_lk pc cd = some ((21, m, y, im, tb), nx)) (hf : ∀ o, J f (fun r => o = (some (vI r.1), r.2)) (Go X D' m 0 (am_loc (am_nl m) as) [] s o)) (hd : Nat.ble (D' + 1) d = true) (hc : (Nat.ble y S0.length && (am_small (S0.drop y) && Nat.ble ((S0.take y).map am_cat).sum (am_nl m))) = true) (hr : (decide (im = 1) || (m2 X 17 m ((S0.take y).reverse.take 1) s).isSome) = true) (has : (S0.take y).reverse = as) (hS : S0.drop y = S) (hJ : ∀ r s', J (k' r s') K (Go X d k nx L (vI r :: S) s' o)) : J (cR f k') K (Go X d k pc L S0 s o) := by
  rw [cR_eq]
  exact g_call (enc := fun r => (some (vI r.1), r.2)) hk hl hf hd hc hr has (fun r => by rw [hS]; exact hJ r.1 r.2)
theorem g_cRL {f : Option (Int × S2)} {k' : Int → S2 → Option α} {m y D' : Nat} {im : Int} {tb : List (Int × Nat)} {S0 as : List (AV R2)} (hk : am_cd k = cd) (hl : am_lk pc cd = some ((21, m, y, im, tb), nx)) (hf : ∀ o, J f (fun r => o = (some (vL r.1), r.2)) (Go X D' m 0 (am_loc (am_nl m) as) [] s o)) (hd : Nat.ble (D' + 1) d = true) (hc : (Nat.ble y S0.length && (am_small (S0.drop y) && Nat.ble ((S0.take y).map am_cat).sum (am_nl m))) = true) (hr : (decide (im = 1) || (m2 X 17 m ((S0.take y).reverse.take 1) s).isSome) = true) (has : (S0.take y).reverse = as) (hS : S0.drop y = S) (hJ : ∀ r s', J (k' r s') K (Go X d k nx L (vL r :: S) s' o)) : J (cR f k') K (Go X d k pc L S0 s o) := by
  rw [cR_eq]
  exact g_call (enc := fun r => (some (vL r.1), r.2)) hk hl hf hd hc hr has (fun r => by rw [hS]; exact hJ r.1 r.2)
/-- ends -/
theorem g_ret {enc : β → Option (AV R2) × S2} {r : β} {x y : Nat} {im : Int} {tb : List (Int × Nat)} {v : AV R2} (hk : am_cd k = cd) (hl : am_lk pc cd = some ((22, x, y, im, tb), nx)) (hv : am_rok x v = true) (he : enc r = (some v, s)) : J (some r) (fun r => o = enc r) (Go X d k pc L [v] s o) := by
  intro z hz hK
  cases hz
  have hP : am_P2 k pc = some ((22, x, y, im, tb), nx) := by unfold am_P2; rw [hk]; exact hl
  refine ⟨1, ?_⟩
  unfold am_run
  rw [hP]
  simp only
  unfold am_rok at hv
  rw [hK, he]
  exact if_pos hv
theorem g_retb {enc : Int → Option (AV R2) × S2} {r : Int} {y : Nat} {im : Int} {tb : List (Int × Nat)} (hk : am_cd k = cd) (hl : am_lk pc cd = some ((22, 1, y, im, tb), nx)) (he : enc r = (some (vI r), s)) : J (gd (r = 0 ∨ r = 1) (some r)) (fun r => o = enc r) (Go X d k pc L [vI r] s o) := g_gd fun hr => g_ret hk hl (by unfold am_rok; exact decide_eq_true hr) he
theorem g_retb2 {enc : Int × S2 → Option (AV R2) × S2} {r : Int} {y : Nat} {im : Int} {tb : List (Int × Nat)} (hk : am_cd k = cd) (hl : am_lk pc cd = some ((22, 1, y, im, tb), nx)) (he : enc (r, s) = (some (vI r), s)) : J (gd (r = 0 ∨ r = 1) (some (r, s))) (fun r => o = enc r) (Go X d k pc L [vI r] s o) := g_gd fun hr => g_ret hk hl (by unfold am_rok; exact decide_eq_true hr) he
theorem g_retc {enc : Int → Option (AV R2) × S2} {r : Int} {y : Nat} {im : Int} {tb : List (Int × Nat)} (hk : am_cd k = cd) (hl : am_lk pc cd = some ((22, 4, y, im, tb), nx)) (he : enc r = (some (vI r), s)) : J (gd (0 ≤ r ∧ r ≤ 127) (some r)) (fun r => o = enc r) (Go X d k pc L [vI r] s o) := g_gd fun hr => g_ret hk hl (by unfold am_rok; exact decide_eq_true hr) he
theorem g_retV {enc : β → Option (AV R2) × S2} {r : β} {x y : Nat} {im : Int} {tb : List (Int × Nat)} (hk : am_cd k = cd) (hl : am_lk pc cd = some ((23, x, y, im, tb), nx)) (he : enc r = (none, s)) : J (some r) (fun r => o = enc r) (Go X d k pc L [] s o) := by
  intro z hz hK
  cases hz
  have hP : am_P2 k pc = some ((23, x, y, im, tb), nx) := by unfold am_P2; rw [hk]; exact hl
  refine ⟨1, ?_⟩
  unfold am_run
  rw [hP]
  simp only
  rw [hK, he]
/-- joins, loops -/
theorem g_jn {r : γ} {b : γ → Option α} (P : γ → Prop) (hr : P r) (hb : ∀ j, P j → J (b j) K G) : J (jn r b) K G := hb r hr
theorem g_itr1 {b : β → Option (β ⊕ γ)} {H : β → Prop} {E : γ → Prop} (hb : ∀ a, J (b a) (am_kx H E) (H a)) : ∀ (n : Nat) (a : β) (r : γ), itr b n a = some r → E r → H a
  | 0, _, _, h, _ => by cases h
  | n + 1, a, r, h, hE => by
    unfold itr at h
    split at h
    · cases h
    · rename_i hx
      exact hb a _ hx (g_itr1 hb n _ r h hE)
    · rename_i hx
      cases h
      exact hb a _ hx hE
theorem g_itr {b : β → Option (β ⊕ γ)} {k' : γ → Option α} {n : Nat} {a : β} (H : β → Prop) (E : γ → Prop) (hb : ∀ a, J (b a) (am_kx H E) (H a)) (hr : ∀ r, J (k' r) K (E r)) : J (cP (itr b n a) k') K (H a) := by
  intro z hz hK
  cases hr' : itr b n a with
  | none => rw [hr'] at hz; cases hz
  | some r =>
    rw [hr'] at hz
    exact g_itr1 hb n a r hr' (hr r z hz hK)
theorem g_se {k1 : β → Option α} {k2 : γ → Option α} {E1 : β → Prop} {E2 : γ → Prop} (h1 : ∀ r, J (k1 r) K (E1 r)) (h2 : ∀ r, J (k2 r) K (E2 r)) : ∀ r, J (se k1 k2 r) K (am_kx E1 E2 r)
  | .inl r => h1 r
  | .inr r => h2 r
end
