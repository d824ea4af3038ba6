/-! NUMBERS, and what the functions are made of -/
theorem jadd_e {x y : Int} (h1 : -2147483648 ≤ x + y) (h2 : x + y < 2147483648) : jadd x y = x + y := by
  unfold jadd
  rw [← Int32.ofInt_add]
  exact Int32.toInt_ofInt_of_le (by omega) (by omega)
theorem jsub_e {x y : Int} (h1 : -2147483648 ≤ x - y) (h2 : x - y < 2147483648) : jsub x y = x - y := by
  unfold jsub
  rw [← Int32.ofInt_sub]
  exact Int32.toInt_ofInt_of_le (by omega) (by omega)
theorem jmul_e {x y : Int} (h1 : -2147483648 ≤ x * y) (h2 : x * y < 2147483648) : jmul x y = x * y := by
  unfold jmul
  rw [← Int32.ofInt_mul]
  exact Int32.toInt_ofInt_of_le (by omega) (by omega)
theorem jneg_e {x : Int} (h1 : -2147483648 < x) (h2 : x < 2147483648) : jneg x = -x := by
  unfold jneg
  rw [← Int32.ofInt_neg]
  exact Int32.toInt_ofInt_of_le (by omega) (by omega)
theorem ji2l_e {x : Int} (h1 : -2147483648 ≤ x) (h2 : x < 2147483648) : ji2l x = x := by
  unfold ji2l
  rw [Int32.toInt_toInt64]
  exact Int32.toInt_ofInt_of_le (by omega) (by omega)
theorem jdiv_e {x y : Int} (h0 : 0 ≤ x) (h1 : x < 2147483648) (h2 : 0 < y) (h3 : y < 2147483648) : jdiv x y = x / y := by
  unfold jdiv
  rw [Int32.toInt_div_of_ne_right, Int32.toInt_ofInt_of_le (by omega) (by omega), Int32.toInt_ofInt_of_le (by omega) (by omega)]
  · exact Int.tdiv_eq_ediv_of_nonneg h0
  · intro h
    have := congrArg Int32.toInt h
    rw [Int32.toInt_ofInt_of_le (by omega) (by omega)] at this
    have h4 : (-1 : Int32).toInt = -1 := by decide
    omega
theorem jrem_e {x y : Int} (h0 : 0 ≤ x) (h1 : x < 2147483648) (h2 : 0 < y) (h3 : y < 2147483648) : jrem x y = x % y := by
  have hd := jdiv_e h0 h1 h2 h3
  have hr : jrem x y = jsub x (jmul (jdiv x y) y) := by
    unfold jrem jsub jmul jdiv
    rw [Int32.ofInt_toInt, Int32.ofInt_toInt]
  have h5 : 0 ≤ x / y := Int.ediv_nonneg h0 (by omega)
  have h6 : x / y * y ≤ x := Int.ediv_mul_le x (by omega)
  have h7 : 0 ≤ x / y * y := Int.mul_nonneg h5 (by omega)
  rw [hr, hd, jmul_e (by omega) (by omega), jsub_e (by omega) (by omega)]
  have := Int.emod_def x y
  rw [Int.mul_comm] at this
  omega
theorem jcmp_lt {x y : Int} : jcmp x y < 0 ↔ x < y := by unfold jcmp; split <;> (try split) <;> omega
theorem jcmp_gt {x y : Int} : 0 < jcmp x y ↔ y < x := by unfold jcmp; split <;> (try split) <;> omega
theorem jcmp_le {x y : Int} : jcmp x y ≤ 0 ↔ x ≤ y := by unfold jcmp; split <;> (try split) <;> omega
theorem jcmp_ge {x y : Int} : 0 ≤ jcmp x y ↔ y ≤ x := by unfold jcmp; split <;> (try split) <;> omega
theorem jcmp_eq {x y : Int} : jcmp x y = 0 ↔ x = y := by unfold jcmp; split <;> (try split) <;> omega
/-! combinators -/
theorem cP_s {α β : Type} {r : α} {k : α → Option β} : cP (some r) k = k r := rfl
theorem cR_s {α β : Type} {r : α} {s : S2} {k : α → S2 → Option β} : cR (some (r, s)) k = k r s := rfl
theorem gd_t {α : Type} {c : Prop} [Decidable c] {e : Option α} (h : c) : gd c e = e := if_pos h
theorem ld_t {α : Type} {s : S2} {f i n : Nat} {x : Int} {k : Int → Option α} (h0 : 0 ≤ x) (h1 : x < n) : ld s f i n x k = k (s f i x.toNat) := if_pos ⟨h0, h1⟩
theorem ldr_t {α : Type} {n : Nat} {x : Int} {i : Nat} {k : Nat → Option α} (h0 : 0 ≤ x) (h1 : x < n) : ldr n x i k = k i := if_pos ⟨h0, h1⟩
theorem sto_t {α : Type} {s : S2} {f i n : Nat} {x v : Int} {k : S2 → Option α} (h0 : 0 ≤ x) (h1 : x < n) : sto s f i n x v k = k (st2 s f i x.toNat v) := if_pos ⟨h0, h1⟩
theorem cpy_t {α : Type} {s : S2} {f i n0 : Nat} {sp : Int} {g j n1 : Nat} {dp n : Int} {k : S2 → Option α} (h : 0 ≤ sp ∧ 0 ≤ dp ∧ 0 ≤ n ∧ sp + n ≤ n0 ∧ dp + n ≤ n1) : cpy s f i n0 sp g j n1 dp n k = k (cp2 s f i sp.toNat g j dp.toNat n.toNat) := if_pos h
/-- a loop along a known row of states -/
theorem itr_seq {α γ : Type} {b : α → Option (α ⊕ γ)} (F : Nat → α) (N : Nat) (r : γ) (hs : ∀ i, i < N → b (F i) = some (.inl (F (i + 1)))) (he : b (F N) = some (.inr r)) (fu : Nat) (hN : N < fu) : itr b fu (F 0) = some r := by
  have H : ∀ (j : Nat) (n : Nat), j ≤ N → N - j < n → itr b n (F j) = some r := by
    intro j
    generalize hm : N - j = m
    induction m generalizing j with
    | zero =>
      intro n hj hn
      have : j = N := by omega
      subst this
      match n, hn with
      | n + 1, _ => unfold itr; rw [he]
    | succ m ih =>
      intro n hj hn
      match n, hn with
      | n + 1, hn =>
        unfold itr
        rw [hs j (by omega)]
        exact ih (j + 1) (by omega) n (by omega) (by omega)
  exact H 0 fu (by omega) (by omega)
/-- a loop with what holds in it -/
theorem itr_inv {α γ : Type} {b : α → Option (α ⊕ γ)} (I : Nat → α → Prop) (Q : γ → Prop) (N : Nat) (hs : ∀ i a, i ≤ N → I i a → (i < N ∧ ∃ a', b a = some (.inl a') ∧ I (i + 1) a') ∨ ∃ r, b a = some (.inr r) ∧ Q r) (fu : Nat) (hN : N < fu) (a : α) (h0 : I 0 a) : ∃ r, itr b fu a = some r ∧ Q r := by
  have H : ∀ (m j n : Nat) (a : α), N - j = m → j ≤ N → m < n → I j a → ∃ r, itr b n a = some r ∧ Q r := by
    intro m
    induction m with
    | zero =>
      intro j n a hm hj hn hI
      match n, hn with
      | n + 1, _ =>
        rcases hs j a hj hI with ⟨hlt, -⟩ | ⟨r, hr, hQ⟩
        · omega
        · exact ⟨r, by unfold itr; rw [hr], hQ⟩
    | succ m ih =>
      intro j n a hm hj hn hI
      match n, hn with
      | n + 1, hn =>
        rcases hs j a hj hI with ⟨hlt, a', ha', hI'⟩ | ⟨r, hr, hQ⟩
        · obtain ⟨r, hr, hQ⟩ := ih (j + 1) n a' (by omega) (by omega) (by omega) hI'
          exact ⟨r, by unfold itr; rw [ha']; exact hr, hQ⟩
        · exact ⟨r, by unfold itr; rw [hr], hQ⟩
  exact H N 0 fu a (by omega) (by omega) (by omega) h0
theorem fu_lt {n : Nat} (h : n < 1000000) : n < am_fu := h
/-- sums -/
def sumI : Nat → (Nat → Int) → Int
  | 0, _ => 0
  | n + 1, f => sumI n f + f n
theorem sumI_congr {f g : Nat → Int} : ∀ {n : Nat}, (∀ i, i < n → f i = g i) → sumI n f = sumI n g
  | 0, _ => rfl
  | n + 1, h => by
    unfold sumI
    rw [sumI_congr (n := n) (fun i hi => h i (by omega)), h n (by omega)]
theorem sumI_bd {f : Nat → Int} {a b : Int} : ∀ {n : Nat}, (∀ i, i < n → a ≤ f i ∧ f i ≤ b) → n * a ≤ sumI n f ∧ sumI n f ≤ n * b
  | 0, _ => by unfold sumI; omega
  | n + 1, h => by
    have h1 := sumI_bd (f := f) (a := a) (b := b) (n := n) (fun i hi => h i (by omega))
    have h2 := h n (by omega)
    unfold sumI
    have e1 : ((n + 1 : Nat) : Int) * a = n * a + a := by rw [Int.natCast_succ, Int.add_mul]; omega
    have e2 : ((n + 1 : Nat) : Int) * b = n * b + b := by rw [Int.natCast_succ, Int.add_mul]; omega
    omega
theorem sumI_zero {f : Nat → Int} : ∀ {n : Nat}, (∀ i, i < n → f i = 0) → sumI n f = 0
  | 0, _ => rfl
  | n + 1, h => by
    unfold sumI
    rw [sumI_zero (n := n) (fun i hi => h i (by omega)), h n (by omega)]; rfl
theorem sumI_cut {f : Nat → Int} {m : Nat} : ∀ {n : Nat}, m ≤ n → (∀ i, m ≤ i → i < n → f i = 0) → sumI n f = sumI m f
  | 0, h, _ => by
    have : m = 0 := by omega
    subst this; rfl
  | n + 1, h, h0 => by
    by_cases e : m = n + 1
    · subst e; rfl
    · show sumI n f + f n = sumI m f
      rw [sumI_cut (n := n) (by omega) (fun i h1 h2 => h0 i h1 (by omega)), h0 n (by omega) (by omega)]
      omega
theorem sumI_add {f g : Nat → Int} : ∀ {n : Nat}, sumI n (fun i => f i + g i) = sumI n f + sumI n g
  | 0 => rfl
  | n + 1 => by
    show sumI n (fun i => f i + g i) + (f n + g n) = (sumI n f + f n) + (sumI n g + g n)
    rw [sumI_add (n := n)]; omega
theorem sumI_s {f : Nat → Int} {n : Nat} : sumI (n + 1) f = sumI n f + f n := rfl
theorem seq_cP {α β γ : Type} {b : α → Option (α ⊕ γ)} {k : γ → Option β} {res : Option β} {a : α} (F : Nat → α) (N : Nat) (r : γ) (h0 : F 0 = a) (hN : N < 1000000) (hs : ∀ i, i < N → b (F i) = some (.inl (F (i + 1)))) (he : b (F N) = some (.inr r)) (hk : k r = res) : cP (itr b am_fu a) k = res := by
  rw [← h0, itr_seq F N r hs he am_fu hN]
  exact hk
theorem inv_cP {α β γ : Type} {b : α → Option (α ⊕ γ)} {k : γ → Option β} {P : Option β → Prop} {a : α} (I : Nat → α → Prop) (Q : γ → Prop) (N : Nat) (hN : N < 1000000) (h0 : I 0 a) (hs : ∀ i a, i ≤ N → I i a → (i < N ∧ ∃ a', b a = some (.inl a') ∧ I (i + 1) a') ∨ ∃ r, b a = some (.inr r) ∧ Q r) (hk : ∀ r, Q r → P (k r)) : P (cP (itr b am_fu a) k) := by
  obtain ⟨r, hr, hQ⟩ := itr_inv I Q N hs am_fu hN a h0
  rw [hr]
  exact hk r hQ
theorem st2_d {s : S2} {f i k f' i' k' : Nat} {v : Int} : st2 s f i k v f' i' k' = if f' = f ∧ i' = i ∧ k' = k then v else s f' i' k' := rfl
/-! loops that write -/
def iterS (g : Nat → S2 → S2) : Nat → S2 → S2
  | 0, s => s
  | n + 1, s => g n (iterS g n s)
theorem fill_cP {β : Type} {b : Int × S2 → Option ((Int × S2) ⊕ S2)} {k : S2 → Option β} (N : Nat) (g : Nat → S2 → S2) (s : S2) (hN : N < 1000000) (hs : ∀ i s, i < N → b ((i : Int), s) = some (.inl (((i + 1 : Nat) : Int), g i s))) (he : ∀ s, b ((N : Int), s) = some (.inr s)) : cP (itr b am_fu (0, s)) k = k (iterS g N s) :=
  seq_cP (fun i => ((i : Int), iterS g i s)) N (iterS g N s) rfl hN (fun i hi => hs i _ hi) (he _) rfl
theorem fill1 {f a : Nat} {v : Nat → Int} {s : S2} : ∀ (n f' i' k' : Nat), iterS (fun i s => st2 s f a i (v i)) n s f' i' k' = if f' = f ∧ i' = a ∧ k' < n then v k' else s f' i' k'
  | 0, f', i', k' => by rw [if_neg (by omega)]; rfl
  | n + 1, f', i', k' => by
    show st2 (iterS _ n s) f a n (v n) f' i' k' = _
    rw [st2_d, fill1 n f' i' k']
    by_cases h : k' = n
    · subst h
      by_cases h2 : f' = f ∧ i' = a
      · rw [if_pos ⟨h2.1, h2.2, rfl⟩, if_pos ⟨h2.1, h2.2, by omega⟩]
      · rw [if_neg (by omega), if_neg (by omega), if_neg (by omega)]
    · rw [if_neg (by omega)]
      by_cases h3 : f' = f ∧ i' = a ∧ k' < n
      · rw [if_pos h3, if_pos (by omega)]
      · rw [if_neg h3, if_neg (by omega)]
theorem fill2 {f g a : Nat} {u v : Nat → Int} {s : S2} (hfg : f ≠ g) : ∀ (n f' i' k' : Nat), iterS (fun i s => st2 (st2 s f a i (u i)) g a i (v i)) n s f' i' k' = if f' = g ∧ i' = a ∧ k' < n then v k' else if f' = f ∧ i' = a ∧ k' < n then u k' else s f' i' k'
  | 0, f', i', k' => by rw [if_neg (by omega), if_neg (by omega)]; rfl
  | n + 1, f', i', k' => by
    show st2 (st2 (iterS _ n s) f a n (u n)) g a n (v n) f' i' k' = _
    rw [st2_d, st2_d, fill2 hfg n f' i' k']
    grind
