/-! GAME: its value, plainly -/
def avB (C Y : V2) (f : Int) (k : Nat) : Bool := decide (k = 0) || (decide (C 395 ((k - 1) % 10) = f) && !decide (mayI C Y (((k - 1) % 10 : Nat) : Int) (((k - 1) / 10 : Nat) : Int) = 0))
def acY (C Y : V2) (k : Nat) : V2 := if k = 0 then Y else putS C Y (((k - 1) % 10 : Nat) : Int) (((k - 1) / 10 : Nat) : Int)
def nxY (C : V2) (code : List Int) (Y : V2) (k : Nat) : V2 := passY C (acY C Y k) (rainI C (acY C Y k) 0) code
def betB (ev : Bool) (v b : Int) : Bool := if ev = true then decide (b < v) else decide (v < b)
def bupd (ev : Bool) (o : Option (Int × Int)) (v a : Int) : Option (Int × Int) := match o with
  | none => some (v, a)
  | some (b, a') => if betB ev v b = true then some (v, a) else some (b, a')
def bst (ev : Bool) (av : Nat → Bool) (val : Nat → Int) : Nat → Option (Int × Int)
  | 0 => none
  | k + 1 => if av k = true then bupd ev (bst ev av val k) (val k) ((k : Int) - 1) else bst ev av val k
theorem bst_t {ev : Bool} {av : Nat → Bool} {val : Nat → Int} {k : Nat} (h : av k = true) : bst ev av val (k + 1) = bupd ev (bst ev av val k) (val k) ((k : Int) - 1) := if_pos h
theorem bst_f {ev : Bool} {av : Nat → Bool} {val : Nat → Int} {k : Nat} (h : av k = false) : bst ev av val (k + 1) = bst ev av val k := if_neg (by rw [h]; decide)
def bV (o : Option (Int × Int)) : Int := match o with
  | some p => p.1
  | none => 0
def evT (t : Nat) : Bool := decide (t % 2 = 0)
def famT (f g : Int) (t : Nat) : Int := if t % 2 = 0 then f else g
def gV (C : V2) (code : List Int) (f g : Nat) : Nat → Nat → V2 → Int
  | 0, _, Y => Y 518 f - Y 518 g
  | d + 1, t, Y => bV (bst (evT t) (avB C Y (famT f g t)) (fun k => gV C code f g d (t + 1) (nxY C code Y k)) 61)
theorem acY_YB {C Y : V2} {k : Nat} (hY : YB C Y) : YB C (acY C Y k) := by
  unfold acY
  split
  · exact hY
  · exact putS_YB hY
theorem acY_h {C Y : V2} {k : Nat} : acY C Y k 512 0 = Y 512 0 := by
  unfold acY
  split
  · rfl
  · exact put_512
theorem nxY_h {C Y : V2} {code : List Int} {k : Nat} : nxY C code Y k 512 0 = Y 512 0 + 1 := by
  have : nxY C code Y k 512 0 = acY C Y k 512 0 + 1 := (nY_t yr512).trans rfl
  rw [this, acY_h]
theorem nxY_YB {C Y : V2} {code : List Int} {k : Nat} (hC : CB C) (hY : YB C Y) (h : Y 512 0 < 5000) : YB C (nxY C code Y k) := passY_YB hC (acY_YB hY) (by rw [acY_h]; exact h)
theorem bupd_some {ev : Bool} {o : Option (Int × Int)} {v a : Int} : ∃ p, bupd ev o v a = some p := by
  cases o with
  | none => exact ⟨_, rfl⟩
  | some p =>
    obtain ⟨b, a'⟩ := p
    by_cases h : betB ev v b = true
    · exact ⟨(v, a), if_pos h⟩
    · exact ⟨(b, a'), if_neg h⟩
theorem bst_ex {ev : Bool} {av : Nat → Bool} {val : Nat → Int} (h0 : av 0 = true) : ∀ {k : Nat}, 1 ≤ k → ∃ p, bst ev av val k = some p
  | 0, h => by omega
  | k + 1, h => by
    by_cases e : k = 0
    · subst e
      exact ⟨(val 0, ((0 : Nat) : Int) - 1), by rw [bst_t h0]; rfl⟩
    · obtain ⟨p, hp⟩ := bst_ex h0 (ev := ev) (val := val) (k := k) (by omega)
      cases ha : av k with
      | true =>
        rw [bst_t ha]
        exact bupd_some
      | false => exact ⟨p, by rw [bst_f ha, hp]⟩
theorem bst_rng {ev : Bool} {av : Nat → Bool} {val : Nat → Int} {lo hi : Int} (h : ∀ k, av k = true → lo ≤ val k ∧ val k ≤ hi) : ∀ {k : Nat} {p : Int × Int}, bst ev av val k = some p → lo ≤ p.1 ∧ p.1 ≤ hi
  | 0, p, e => by cases e
  | k + 1, p, e => by
    cases ha : av k with
    | false =>
      rw [bst_f ha] at e
      exact bst_rng h e
    | true =>
      rw [bst_t ha] at e
      cases hb : bst ev av val k with
      | none =>
        rw [hb] at e
        cases e
        exact h k ha
      | some q =>
        obtain ⟨b, a'⟩ := q
        rw [hb] at e
        have e2 : (if betB ev (val k) b = true then some (val k, (k : Int) - 1) else some (b, a')) = some p := e
        by_cases c : betB ev (val k) b = true
        · rw [if_pos c] at e2
          cases e2
          exact h k ha
        · rw [if_neg c] at e2
          cases e2
          exact bst_rng h hb
theorem bst_cut {ev : Bool} {av : Nat → Bool} {val : Nat → Int} {m : Nat} : ∀ {n : Nat}, m ≤ n → (∀ k, m ≤ k → k < n → av k = false) → bst ev av val n = bst ev av val m
  | 0, h, _ => by
    have : m = 0 := by omega
    subst this; rfl
  | n + 1, h, h0 => by
    by_cases e : m = n + 1
    · subst e; rfl
    · rw [bst_f (h0 n (by omega) (by omega))]
      exact bst_cut (n := n) (by omega) (fun k h1 h2 => h0 k h1 (by omega))
/-- what was found only gets better -/
theorem bst_up {av : Nat → Bool} {val : Nat → Int} {k : Nat} {p : Int × Int} (h : bst true av val k = some p) : ∀ {n : Nat}, k ≤ n → ∃ q, bst true av val n = some q ∧ p.1 ≤ q.1
  | 0, hn => by
    have : k = 0 := by omega
    subst this
    exact ⟨p, h, Int.le_refl _⟩
  | n + 1, hn => by
    by_cases e : k = n + 1
    · subst e
      exact ⟨p, h, Int.le_refl _⟩
    · obtain ⟨q, hq, hle⟩ := bst_up h (n := n) (by omega)
      cases ha : av n with
      | false => exact ⟨q, by rw [bst_f ha]; exact hq, hle⟩
      | true =>
        obtain ⟨b, a'⟩ := q
        rw [bst_t ha, hq]
        show ∃ q, (if betB true (val n) b = true then some (val n, (n : Int) - 1) else some (b, a')) = some q ∧ _
        by_cases c : betB true (val n) b = true
        · rw [if_pos c]
          have : b < val n := of_decide_eq_true c
          exact ⟨_, rfl, by dsimp only at hle ⊢; omega⟩
        · rw [if_neg c]
          exact ⟨_, rfl, hle⟩
theorem bst_dn {av : Nat → Bool} {val : Nat → Int} {k : Nat} {p : Int × Int} (h : bst false av val k = some p) : ∀ {n : Nat}, k ≤ n → ∃ q, bst false av val n = some q ∧ q.1 ≤ p.1
  | 0, hn => by
    have : k = 0 := by omega
    subst this
    exact ⟨p, h, Int.le_refl _⟩
  | n + 1, hn => by
    by_cases e : k = n + 1
    · subst e
      exact ⟨p, h, Int.le_refl _⟩
    · obtain ⟨q, hq, hle⟩ := bst_dn h (n := n) (by omega)
      cases ha : av n with
      | false => exact ⟨q, by rw [bst_f ha]; exact hq, hle⟩
      | true =>
        obtain ⟨b, a'⟩ := q
        rw [bst_t ha, hq]
        show ∃ q, (if betB false (val n) b = true then some (val n, (n : Int) - 1) else some (b, a')) = some q ∧ _
        by_cases c : betB false (val n) b = true
        · rw [if_pos c]
          have : val n < b := of_decide_eq_true c
          exact ⟨_, rfl, by dsimp only at hle ⊢; omega⟩
        · rw [if_neg c]
          exact ⟨_, rfl, hle⟩
theorem gV_rng {C : V2} {code : List Int} {f g : Nat} (hC : CB C) (hf : f < 4) (hg : g < 4) : ∀ {d t : Nat} {Y : V2}, YB C Y → Y 512 0 + d ≤ 1100 → -66000 ≤ gV C code f g d t Y ∧ gV C code f g d t Y ≤ 66000
  | 0, t, Y, hY, h => by
    have h1 := hY.2.2.2.2.2 f hf
    have h2 := hY.2.2.2.2.2 g hg
    show -66000 ≤ Y 518 f - Y 518 g ∧ Y 518 f - Y 518 g ≤ 66000
    omega
  | d + 1, t, Y, hY, h => by
    obtain ⟨p, hp⟩ := bst_ex (ev := evT t) (av := avB C Y (famT f g t)) (val := fun k => gV C code f g d (t + 1) (nxY C code Y k)) rfl (k := 61) (by omega)
    have := bst_rng (lo := -66000) (hi := 66000) (fun k _ => gV_rng hC hf hg (d := d) (t := t + 1) (nxY_YB (code := code) (k := k) hC hY (by omega)) (by rw [nxY_h]; omega)) hp
    show -66000 ≤ bV (bst _ _ _ 61) ∧ bV (bst _ _ _ 61) ≤ 66000
    rw [hp]
    exact this
/-- what a search between low and high must tell of the value -/
def AB (low high V R : Int) : Prop := (V ≤ low → R ≤ low) ∧ (high ≤ V → high ≤ R) ∧ (low < V → V < high → R = V)
def mxI (low high found : Int) (o : Option (Int × Int)) : Prop := low ≤ found ∧ match o with
  | none => found = low
  | some p => (p.1 ≤ low → found = low) ∧ (low < p.1 → p.1 < high → found = p.1) ∧ (high ≤ p.1 → high ≤ found)
def mnI (low high found : Int) (o : Option (Int × Int)) : Prop := found ≤ high ∧ match o with
  | none => found = high
  | some p => (high ≤ p.1 → found = high) ∧ (low < p.1 → p.1 < high → found = p.1) ∧ (p.1 ≤ low → found ≤ low)
theorem mx_step {low high found V R a : Int} {o : Option (Int × Int)} (hl : low < high) (h : mxI low high found o) (hf : found < high) (hA : AB found high V R) : mxI low high (if R ≤ found then found else R) (bupd true o V a) := by
  obtain ⟨h1, h2⟩ := h
  obtain ⟨a1, a2, a3⟩ := hA
  cases o with
  | none =>
    have h2 : found = low := h2
    show low ≤ _ ∧ ((V ≤ low → _ = low) ∧ (low < V → V < high → _ = V) ∧ (high ≤ V → high ≤ _))
    split <;> omega
  | some p =>
    obtain ⟨b, a'⟩ := p
    obtain ⟨c1, c2, c3⟩ := h2
    dsimp only at c1 c2 c3
    have hu : bupd true (some (b, a')) V a = if b < V then some (V, a) else some (b, a') := by
      show (if betB true V b = true then _ else _) = _
      unfold betB
      by_cases c : b < V <;> simp [c]
    rw [hu]
    by_cases c : b < V
    · rw [if_pos c]
      show low ≤ _ ∧ ((V ≤ low → _ = low) ∧ (low < V → V < high → _ = V) ∧ (high ≤ V → high ≤ _))
      split <;> omega
    · rw [if_neg c]
      show low ≤ _ ∧ ((b ≤ low → _ = low) ∧ (low < b → b < high → _ = b) ∧ (high ≤ b → high ≤ _))
      split <;> omega
theorem mn_step {low high found V R a : Int} {o : Option (Int × Int)} (hl : low < high) (h : mnI low high found o) (hf : low < found) (hA : AB low found V R) : mnI low high (if found ≤ R then found else R) (bupd false o V a) := by
  obtain ⟨h1, h2⟩ := h
  obtain ⟨a1, a2, a3⟩ := hA
  cases o with
  | none =>
    have h2 : found = high := h2
    show _ ≤ high ∧ ((high ≤ V → _ = high) ∧ (low < V → V < high → _ = V) ∧ (V ≤ low → _ ≤ low))
    split <;> omega
  | some p =>
    obtain ⟨b, a'⟩ := p
    obtain ⟨c1, c2, c3⟩ := h2
    dsimp only at c1 c2 c3
    have hu : bupd false (some (b, a')) V a = if V < b then some (V, a) else some (b, a') := by
      show (if betB false V b = true then _ else _) = _
      unfold betB
      by_cases c : V < b <;> simp [c]
    rw [hu]
    by_cases c : V < b
    · rw [if_pos c]
      show _ ≤ high ∧ ((high ≤ V → _ = high) ∧ (low < V → V < high → _ = V) ∧ (V ≤ low → _ ≤ low))
      split <;> omega
    · rw [if_neg c]
      show _ ≤ high ∧ ((high ≤ b → _ = high) ∧ (low < b → b < high → _ = b) ∧ (b ≤ low → _ ≤ low))
      split <;> omega
theorem mx_end {low high found : Int} {av : Nat → Bool} {val : Nat → Int} {k : Nat} {p : Int × Int} (hl : low < high) (hk : k ≤ 61) (hb : bst true av val 61 = some p) (h : mxI low high found (bst true av val k)) (he : k = 61 ∨ high ≤ found) : AB low high p.1 found := by
  obtain ⟨h1, h2⟩ := h
  rcases he with rfl | he
  · rw [hb] at h2
    obtain ⟨c1, c2, c3⟩ := h2
    unfold AB
    omega
  · cases ho : bst true av val k with
    | none =>
      rw [ho] at h2
      have h2 : found = low := h2
      omega
    | some q =>
      rw [ho] at h2
      obtain ⟨c1, c2, c3⟩ := h2
      obtain ⟨q', hq', hle⟩ := bst_up ho hk
      rw [hb] at hq'
      cases hq'
      unfold AB
      omega
theorem mn_end {low high found : Int} {av : Nat → Bool} {val : Nat → Int} {k : Nat} {p : Int × Int} (hl : low < high) (hk : k ≤ 61) (hb : bst false av val 61 = some p) (h : mnI low high found (bst false av val k)) (he : k = 61 ∨ found ≤ low) : AB low high p.1 found := by
  obtain ⟨h1, h2⟩ := h
  rcases he with rfl | he
  · rw [hb] at h2
    obtain ⟨c1, c2, c3⟩ := h2
    unfold AB
    omega
  · cases ho : bst false av val k with
    | none =>
      rw [ho] at h2
      have h2 : found = high := h2
      omega
    | some q =>
      rw [ho] at h2
      obtain ⟨c1, c2, c3⟩ := h2
      obtain ⟨q', hq', hle⟩ := bst_dn ho hk
      rw [hb] at hq'
      cases hq'
      unfold AB
      omega
