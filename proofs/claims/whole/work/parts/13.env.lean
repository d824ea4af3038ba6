/-! WHAT STANDS ROUND THE CELLS: the tables' words that a call can't carry, the script, the texts -/
def am_tys (dA : Nat → ClassId) : List (ClassId × FieldType) := [(dA 0, .int), (dA 1, .byte), (dA 2, .boolean), (dA 3, .long), (dA 104, .object "WashingLines$Yard"), (dA 106, .object "WashingLines$Law"), (dA 108, .object "WashingLines$World"), (dA 99, .array .int)]
def am_ao : List String := ["WashingLines$Yard", "WashingLines$Law", "WashingLines$World"]
def am_nw : List Cond := (am_mlT.filter (fun e => Nat.beq e.2.2.1 3)).map fun e => .methodLinkNest (am_nm e.1) e.2.1 (am_y e.2.2.2.1) "WashingLines"
def am_txo (j : Nat) : String := am_nm (am_txT.getD j (0, 0, 0)).1
def am_txi (j : Nat) : Nat := (am_txT.getD j (0, 0, 0)).2.1
def am_txl : List Nat := am_T.map List.length
def am_txb : List (List Int32) := am_T.map fun t => t.map fun b => Int32.ofNat b
def am_E (D : va_G) (dA : Nat → ClassId) (B : Nat → Nat) (sl : Nat) (xs : Nat → Int32) (Af : Nat → Prop) (U : State) (H : Heap) : Prop :=
  (va_K D am_cl (am_tys dA) U ∧ (∀ w ∈ am_nw, va_Nw w U) ∧ (∀ C ∈ am_ao, va_AO C U) ∧ va_AOA .int U ∧ ∀ j, j < 23 → vk_R (am_txo j) (am_txi j) (am_tx.getD j "") (B (j + 1)) U) ∧
  (va_X (B 0) sl xs U H ∧ B 0 < H.size ∧ ¬ Af (B 0)) ∧ vk_S 23 am_txl am_txb (fun j => B (j + 1)) (fun j => B (1001 + j)) Af U H ∧ va_Z "java/lang/String" "COMPACT_STRINGS" "Z" (.int 1) Af U H ∧ ((xs 1000000 = 0 ∧ va_Z "jdk/internal/util/Preconditions" "SIOOBE_FORMATTER" "Ljava/util/function/BiFunction;" .null Af U H) ∨ (¬ xs 1000000 = 0 ∧ va_Z "jdk/internal/util/Preconditions" "SIOOBE_FORMATTER" "Ljava/util/function/BiFunction;" (.ref (B 5000)) Af U H))
theorem am_nw_nest : ∀ w ∈ am_nw, ∃ a i b h, w = .methodLinkNest a i b h := by
  intro w hw
  obtain ⟨e, -, rfl⟩ := List.mem_map.mp hw
  exact ⟨_, _, _, _, rfl⟩
theorem am_E.kept {D : va_G} {dA : Nat → ClassId} {B : Nat → Nat} {sl : Nat} {xs : Nat → Int32} {Af : Nat → Prop} {U : State} {H0 H : Heap} {locs : List Loc} (h : am_E D dA B sl xs Af U H0) (hS : va_S Af H0 H locs) : am_E D dA B sl xs Af U H := by
  obtain ⟨h1, ⟨h2, h3, h4⟩, h5, h6, h7⟩ := h
  exact ⟨h1, ⟨h2.kept (hS.2.1 _ h3 h4), Nat.lt_of_lt_of_le h3 hS.1, h4⟩, h5.kept fun a q1 q2 => hS.2.1 a q1 q2, h6.kept fun a q1 q2 => hS.2.1 a q1 q2, h7.imp (fun z => ⟨z.1, z.2.kept fun a q1 q2 => hS.2.1 a q1 q2⟩) (fun z => ⟨z.1, z.2.kept fun a q1 q2 => hS.2.1 a q1 q2⟩)⟩
theorem am_E.moved {D : va_G} {dA : Nat → ClassId} {B : Nat → Nat} {sl : Nat} {xs : Nat → Int32} {Af : Nat → Prop} {s U : State} {H : Heap} (hW : s.WarmedH U.vm) (h : am_E D dA B sl xs Af s H) : am_E D dA B sl xs Af U H := by
  obtain ⟨⟨k1, k2, k3, k4, k5⟩, ⟨h2, h3, h4⟩, h5, h6, h7⟩ := h
  refine ⟨⟨va_K.moved hW.alike k1, fun w hw => ?_, fun C hC => (k3 C hC).moved hW.alike, k4.moved hW.alike, fun j hj => (k5 j hj).warm hW⟩, ⟨h2.moved hW.alike, h3, h4⟩, h5.moved hW.alike, h6.moved hW.alike, h7.imp (fun z => ⟨z.1, z.2.moved hW.alike⟩) (fun z => ⟨z.1, z.2.moved hW.alike⟩)⟩
  obtain ⟨a, i, b, h, rfl⟩ := am_nw_nest w hw
  exact va_Nw.warmM hW (k2 _ hw)
theorem am_E.same {D : va_G} {dA : Nat → ClassId} {B : Nat → Nat} {sl : Nat} {xs : Nat → Int32} {Af : Nat → Prop} {s U : State} {H : Heap} (hv : U.vm = s.vm) (h : am_E D dA B sl xs Af s H) : am_E D dA B sl xs Af U H := by
  obtain ⟨⟨k1, k2, k3, k4, k5⟩, ⟨h2, h3, h4⟩, h5, h6, h7⟩ := h
  have hal : s.vm.Alike U.vm := by rw [hv]; exact Vm.Alike.refl _
  refine ⟨⟨va_K.moved hal k1, fun w hw => ?_, fun C hC => (k3 C hC).moved hal, k4.moved hal, fun j hj => (k5 j hj).same hv⟩, ⟨h2.moved hal, h3, h4⟩, h5.moved hal, h6.moved hal, h7.imp (fun z => ⟨z.1, z.2.moved hal⟩) (fun z => ⟨z.1, z.2.moved hal⟩)⟩
  obtain ⟨a, i, b, h, rfl⟩ := am_nw_nest w hw
  exact va_Nw.same rfl hv.symm (k2 _ hw)
theorem am_E.narrow {D : va_G} {dA : Nat → ClassId} {B : Nat → Nat} {sl : Nat} {xs : Nat → Int32} {Af Ag : Nat → Prop} {U : State} {H : Heap} (h : am_E D dA B sl xs Af U H) (hA : ∀ q, Ag q → Af q) : am_E D dA B sl xs Ag U H := by
  obtain ⟨h1, ⟨h2, h3, h4⟩, h5, h6, h7⟩ := h
  exact ⟨h1, ⟨h2, h3, fun q => h4 (hA _ q)⟩, h5.narrow hA, h6.narrow hA, h7.imp (fun z => ⟨z.1, z.2.narrow hA⟩) (fun z => ⟨z.1, z.2.narrow hA⟩)⟩
