/-! THE SMALL MACHINE FOLLOWS THE FUNCTIONS, written by a program (gen_fn.py) -/
theorem q63 : am_cd 63 = am_c63 := rfl
def H63_a (X : X2) (o : Option (AV R2) × S2) (a : Int × Int × S2) : Prop := Go X 2 63 4 [some (oR 5 0), some (oR 1 0), some (vI (a.1)), some (vI (a.2.1)), none, none] [] (a.2.2) o
def E63_a (X : X2) (o : Option (AV R2) × S2) : (Int × Int × S2) ⊕ ((S2) ⊕ (S2)) → Prop := (am_kx (fun (r : Int × Int × S2) => Go X 2 63 45 [none, some (oR 1 0), none, none, some (vI (r.1)), some (vI (r.2.1))] [] (r.2.2) o) (am_kx (fun (r : S2) => Go X 2 63 144 [none, none, none, none, none, none] [] r o) (fun (r : S2) => Go X 2 63 155 [none, none, none, none, none, none] [] r o)))
theorem g63_a (X : X2) (x1 : Int) (x2 : Int) (s3 : S2) (o : Option (AV R2) × S2) : J (f63_a x1 x2 s3) (am_kx (H63_a X o) (E63_a X o)) (Go X 2 63 4 [some (oR 5 0), some (oR 1 0), some (vI x1), some (vI x2), none, none] [] s3 o) := by
  unfold f63_a
  refine g_p q63 2 7 [some (oR 5 0), some (oR 1 0), some (vI x1), some (vI x2), none, none] [vI 60, vI x2] rfl ?_
  refine g_i2 q63 rfl rfl ?_ ?_
  ·
    exact g_end (fun h => g_wk [false, false, false, false, false, false] rfl h)
  ·
    refine g_p q63 1 11 [some (oR 5 0), some (oR 1 0), some (vI x1), some (vI x2), none, none] [oR 1 0] rfl ?_
    refine g_cPI q63 rfl (g32 X s3) rfl rfl rfl rfl rfl (fun r4 => ?_)
    refine g_p q63 2 17 [some (oR 5 0), some (oR 1 0), some (vI x1), some (vI x2), some (vI r4), none] [oR 1 0] rfl ?_
    refine g_cPI q63 rfl (g40 X s3) rfl rfl rfl rfl rfl (fun r5 => ?_)
    refine g_p q63 2 24 [some (oR 5 0), some (oR 1 0), some (vI x1), some (vI x2), some (vI r4), some (vI r5)] [vI r4] rfl ?_
    refine g_cPI q63 rfl (g64 X r4 s3) rfl rfl rfl rfl rfl (fun r6 => ?_)
    refine g_i1 q63 rfl rfl ?_ ?_
    ·
      exact g_end (fun h => g_wk [false, true, false, false, true, true] rfl h)
    ·
      refine g_p q63 2 33 [some (oR 5 0), some (oR 1 0), some (vI x1), some (vI x2), some (vI r4), some (vI r5)] [vI (-1), vI r5] rfl ?_
      refine g_i2 q63 rfl rfl ?_ ?_
      ·
        exact g_end (fun h => g_wk [false, true, false, false, true, true] rfl h)
      ·
        refine g_p q63 1 37 [some (oR 5 0), some (oR 1 0), some (vI x1), some (vI x2), some (vI r4), some (vI r5)] [oR 5 0] rfl ?_
        refine g_get q63 rfl rfl rfl (fun _ => rfl) (fun v7 => ?_)
        refine g_p q63 1 42 [some (oR 5 0), some (oR 1 0), some (vI x1), some (vI x2), some (vI r4), some (vI r5)] [vI 60, vI v7] rfl ?_
        refine g_i2 q63 rfl rfl ?_ ?_
        ·
          refine g_p q63 2 75 [some (oR 5 0), some (oR 1 0), some (vI x1), some (vI x2), some (vI r4), some (vI r5)] [oR 5 0, oR 5 0] rfl ?_
          refine g_get q63 rfl rfl rfl (fun _ => rfl) (fun v8 => ?_)
          refine g_p q63 2 80 [some (oR 5 0), some (oR 1 0), some (vI x1), some (vI x2), some (vI r4), some (vI r5)] [vI (jadd v8 1), oR 5 0] rfl ?_
          refine g_put q63 rfl rfl rfl (fun _ => rfl) (fun s9 => ?_)
          refine g_p q63 1 84 [some (oR 5 0), some (oR 1 0), some (vI x1), some (vI x2), some (vI r4), some (vI r5)] [oR 5 0] rfl ?_
          refine g_m (S := [oR 6 7]) (some (oR 6 7)) q63 rfl rfl rfl (fun _ => rfl) rfl ?_
          refine g_p q63 2 90 [some (oR 5 0), some (oR 1 0), some (vI x1), some (vI x2), some (vI r4), some (vI r5)] [vI 2, vI r4, oR 6 7] rfl ?_
          refine g_jn (fun j101 => ∀ (x10 : Int), J (j101 x10) (am_kx (H63_a X o) (E63_a X o)) (Go X 2 63 101 [some (oR 5 0), some (oR 1 0), some (vI x1), some (vI x2), none, none] [vI x10, oR 6 7] s9 o)) ?_ (fun j101 hj101 => ?_)
          ·
            intro x10
            refine g_cV q63 rfl (g9 X 7 x10 s9) rfl rfl rfl rfl rfl (fun s11 => ?_)
            refine g_p q63 1 105 [some (oR 5 0), some (oR 1 0), some (vI x1), some (vI x2), none, none] [vI x1] rfl ?_
            refine g_jn (fun j117 => ∀ (s12 : S2), J (j117 s12) (am_kx (H63_a X o) (E63_a X o)) (Go X 2 63 117 [some (oR 5 0), some (oR 1 0), none, some (vI x2), none, none] [] s12 o)) ?_ (fun j117 hj117 => ?_)
            ·
              intro s12
              refine g_p q63 1 118 [some (oR 5 0), some (oR 1 0), none, some (vI x2), none, none] [oR 1 0] rfl ?_
              refine g_cV q63 rfl (g36 X s12) rfl rfl rfl rfl rfl (fun s13 => ?_)
              refine g_p q63 1 122 [some (oR 5 0), some (oR 1 0), none, some (vI x2), none, none] [oR 1 0] rfl ?_
              refine g_cPI q63 rfl (g32 X s13) rfl rfl rfl rfl rfl (fun r14 => ?_)
              refine g_p q63 3 129 [some (oR 5 0), some (oR 1 0), some (vI r14), some (vI x2), none, none] [vI 42, vI r14] rfl ?_
              refine g_jn (fun j145 => ∀ (_ : Unit), J (j145 ()) (am_kx (H63_a X o) (E63_a X o)) (Go X 2 63 145 [some (oR 5 0), some (oR 1 0), some (vI r14), some (vI x2), none, none] [] s13 o)) ?_ (fun j145 hj145 => ?_)
              ·
                intro _
                refine g_p q63 1 146 [some (oR 5 0), some (oR 1 0), some (vI r14), some (vI x2), none, none] [oR 1 0] rfl ?_
                refine g_cV q63 rfl (g36 X s13) rfl rfl rfl rfl rfl (fun s15 => ?_)
                refine g_inc (fun v16 => [some (oR 5 0), some (oR 1 0), some (vI r14), some (vI v16), none, none]) q63 rfl rfl (fun _ => rfl) (fun v16 => ?_)
                refine g_p q63 1 4 [some (oR 5 0), some (oR 1 0), some (vI r14), some (vI v16), none, none] [] rfl ?_
                exact g_end (fun h => g_wk [true, true, true, true, false, false] rfl h)
              ·
                refine g_i2 q63 rfl rfl ?_ ?_
                ·
                  exact g_wkJ [true, true, true, true, false, false] rfl (hj145 ())
                ·
                  refine g_p q63 2 135 [some (oR 5 0), some (oR 1 0), some (vI r14), some (vI x2), none, none] [vI 47, vI r14] rfl ?_
                  refine g_i2 q63 rfl rfl ?_ ?_
                  ·
                    exact g_wkJ [true, true, true, true, false, false] rfl (hj145 ())
                  ·
                    refine g_p q63 2 141 [some (oR 5 0), some (oR 1 0), some (vI r14), some (vI x2), none, none] [vI 37, vI r14] rfl ?_
                    refine g_i2 q63 rfl rfl ?_ ?_
                    ·
                      exact g_wkJ [true, true, true, true, false, false] rfl (hj145 ())
                    ·
                      exact g_end (fun h => g_wk [false, false, false, false, false, false] rfl h)
            ·
              refine g_i1 q63 rfl rfl ?_ ?_
              ·
                exact g_wkJ [true, true, false, true, false, false] rfl (hj117 s11)
              ·
                refine g_p q63 1 109 [some (oR 5 0), some (oR 1 0), some (vI x1), some (vI x2), none, none] [oR 5 0] rfl ?_
                refine g_m (S := [oR 6 7]) (some (oR 6 7)) q63 rfl rfl rfl (fun _ => rfl) rfl ?_
                refine g_p q63 2 114 [some (oR 5 0), some (oR 1 0), some (vI x1), some (vI x2), none, none] [vI (jneg x1), oR 6 7] rfl ?_
                refine g_cV q63 rfl (g9 X 7 (jneg x1) s11) rfl rfl rfl rfl rfl (fun s17 => ?_)
                exact g_wkJ [true, true, false, true, false, false] rfl (hj117 s17)
          ·
            refine g_i2 q63 rfl rfl ?_ ?_
            ·
              refine g_p q63 2 101 [some (oR 5 0), some (oR 1 0), some (vI x1), some (vI x2), some (vI r4), some (vI r5)] [vI (jneg r4), oR 6 7] rfl ?_
              exact g_wkJ [true, true, true, true, false, false] rfl (hj101 (jneg r4))
            ·
              refine g_p q63 2 101 [some (oR 5 0), some (oR 1 0), some (vI x1), some (vI x2), some (vI r4), some (vI r5)] [vI r5, oR 6 7] rfl ?_
              exact g_wkJ [true, true, true, true, false, false] rfl (hj101 r5)
        ·
          exact g_end (fun h => g_wk [false, true, false, false, true, true] rfl h)
theorem g63 (X : X2) (s : S2) (o : Option (AV R2) × S2) : J (f63 s) (fun (r : S2) => o = (none, r)) (Go X 2 63 0 (am_loc (am_nl 63) [oR 5 0, oR 1 0]) [] s o) := by
  show J _ _ (Go X 2 63 0 [some (oR 5 0), some (oR 1 0), none, none, none, none] [] s o)
  unfold f63
  refine g_p q63 4 4 [some (oR 5 0), some (oR 1 0), some (vI 0), some (vI 0), none, none] [] rfl ?_
  refine g_wkJ [true, true, true, true, false, false] (L0 := [some (oR 5 0), some (oR 1 0), some (vI 0), some (vI 0), none, none]) rfl ?_
  refine g_itr (H63_a X o) (E63_a X o) (fun | (x1, x2, s3) => g63_a X x1 x2 s3 o) ?_
  refine g_se ?_ ?_
  ·
    rintro ⟨z18, z19, s20⟩
    show J _ _ (Go X 2 63 45 [none, some (oR 1 0), none, none, some (vI z18), some (vI z19)] [] s20 o)
    refine g_p q63 2 48 [none, some (oR 1 0), none, none, some (vI z18), some (vI z19)] [vI z18, oR 1 0] rfl ?_
    refine g_cPI q63 rfl (g64 X z18 s20) rfl rfl rfl rfl rfl (fun r23 => ?_)
    refine g_jn (fun j69 => ∀ (x24 : Int), J (j69 x24) (fun (r : S2) => o = (none, r)) (Go X 2 63 69 [none, none, none, none, none, none] [vI x24, oR 1 0] s20 o)) ?_ (fun j69 hj69 => ?_)
    ·
      intro x24
      refine g_cV q63 rfl (g34 X x24 s20) rfl rfl rfl rfl rfl (fun s25 => ?_)
      exact g_retV q63 rfl rfl
    ·
      refine g_i1 q63 rfl rfl ?_ ?_
      ·
        refine g_p q63 2 61 [none, some (oR 1 0), none, none, some (vI z18), some (vI z19)] [vI (-1), vI z19, oR 1 0] rfl ?_
        refine g_i2 q63 rfl rfl ?_ ?_
        ·
          refine g_p q63 1 69 [none, some (oR 1 0), none, none, some (vI z18), some (vI z19)] [vI 3, oR 1 0] rfl ?_
          exact g_wkJ [false, false, false, false, false, false] rfl (hj69 3)
        ·
          refine g_p q63 2 69 [none, some (oR 1 0), none, none, some (vI z18), some (vI z19)] [vI 1, oR 1 0] rfl ?_
          exact g_wkJ [false, false, false, false, false, false] rfl (hj69 1)
      ·
        refine g_p q63 2 69 [none, some (oR 1 0), none, none, some (vI z18), some (vI z19)] [vI 0, oR 1 0] rfl ?_
        exact g_wkJ [false, false, false, false, false, false] rfl (hj69 0)
  ·
    refine g_se ?_ ?_
    ·
      intro s21
      show J _ _ (Go X 2 63 144 [none, none, none, none, none, none] [] s21 o)
      exact g_retV q63 rfl rfl
    ·
      intro s22
      show J _ _ (Go X 2 63 155 [none, none, none, none, none, none] [] s22 o)
      exact g_retV q63 rfl rfl
theorem q62 : am_cd 62 = am_c62 := rfl
def H62_a (X : X2) (o : Option (AV R2) × S2) (a : Int × S2) : Prop := Go X 3 62 7 [some (oR 5 0), some (oR 1 0), some (vI (a.1)), none] [] (a.2) o
def E62_a (X : X2) (o : Option (AV R2) × S2) : (S2) → Prop := (fun (r : S2) => Go X 3 62 60 [none, none, none, none] [] r o)
theorem g62_a (X : X2) (x2 : Int) (s3 : S2) (o : Option (AV R2) × S2) : J (f62_a x2 s3) (am_kx (H62_a X o) (E62_a X o)) (Go X 3 62 7 [some (oR 5 0), some (oR 1 0), some (vI x2), none] [] s3 o) := by
  unfold f62_a
  refine g_p q62 2 10 [some (oR 5 0), some (oR 1 0), some (vI x2), none] [vI 60, vI x2] rfl ?_
  refine g_i2 q62 rfl rfl ?_ ?_
  ·
    exact g_end (fun h => g_wk [false, false, false, false] rfl h)
  ·
    refine g_p q62 1 14 [some (oR 5 0), some (oR 1 0), some (vI x2), none] [oR 1 0] rfl ?_
    refine g_cPI q62 rfl (g32 X s3) rfl rfl rfl rfl rfl (fun r4 => ?_)
    refine g_p q62 1 19 [some (oR 5 0), some (oR 1 0), some (vI x2), none] [vI 43, vI r4] rfl ?_
    refine g_jn (fun j31 => ∀ (_ : Unit), J (j31 ()) (am_kx (H62_a X o) (E62_a X o)) (Go X 3 62 31 [some (oR 5 0), some (oR 1 0), some (vI x2), none] [] s3 o)) ?_ (fun j31 hj31 => ?_)
    ·
      intro _
      refine g_p q62 1 32 [some (oR 5 0), some (oR 1 0), some (vI x2), none] [oR 1 0] rfl ?_
      refine g_cPI q62 rfl (g32 X s3) rfl rfl rfl rfl rfl (fun r5 => ?_)
      refine g_p q62 2 37 [some (oR 5 0), some (oR 1 0), some (vI x2), some (vI r5)] [oR 1 0] rfl ?_
      refine g_cV q62 rfl (g36 X s3) rfl rfl rfl rfl rfl (fun s6 => ?_)
      refine g_p q62 2 42 [some (oR 5 0), some (oR 1 0), some (vI x2), some (vI r5)] [oR 1 0, oR 5 0] rfl ?_
      refine g_cV q62 rfl (g63 X s6) rfl rfl rfl rfl rfl (fun s7 => ?_)
      refine g_p q62 1 46 [some (oR 5 0), some (oR 1 0), some (vI x2), some (vI r5)] [oR 5 0] rfl ?_
      refine g_m (S := [oR 6 7]) (some (oR 6 7)) q62 rfl rfl rfl (fun _ => rfl) rfl ?_
      refine g_p q62 2 51 [some (oR 5 0), some (oR 1 0), some (vI x2), some (vI r5)] [vI (jneg r5), oR 6 7] rfl ?_
      refine g_cV q62 rfl (g9 X 7 (jneg r5) s7) rfl rfl rfl rfl rfl (fun s8 => ?_)
      refine g_inc (fun v9 => [some (oR 5 0), some (oR 1 0), some (vI v9), some (vI r5)]) q62 rfl rfl (fun _ => rfl) (fun v9 => ?_)
      refine g_p q62 1 7 [some (oR 5 0), some (oR 1 0), some (vI v9), some (vI r5)] [] rfl ?_
      exact g_end (fun h => g_wk [true, true, true, false] rfl h)
    ·
      refine g_i2 q62 rfl rfl ?_ ?_
      ·
        exact g_wkJ [true, true, true, false] rfl (hj31 ())
      ·
        refine g_p q62 1 23 [some (oR 5 0), some (oR 1 0), some (vI x2), none] [oR 1 0] rfl ?_
        refine g_cPI q62 rfl (g32 X s3) rfl rfl rfl rfl rfl (fun r10 => ?_)
        refine g_p q62 1 28 [some (oR 5 0), some (oR 1 0), some (vI x2), none] [vI 45, vI r10] rfl ?_
        refine g_i2 q62 rfl rfl ?_ ?_
        ·
          exact g_end (fun h => g_wk [false, false, false, false] rfl h)
        ·
          exact g_wkJ [true, true, true, false] rfl (hj31 ())
theorem g62 (X : X2) (s : S2) (o : Option (AV R2) × S2) : J (f62 s) (fun (r : S2) => o = (none, r)) (Go X 3 62 0 (am_loc (am_nl 62) [oR 5 0, oR 1 0]) [] s o) := by
  show J _ _ (Go X 3 62 0 [some (oR 5 0), some (oR 1 0), none, none] [] s o)
  unfold f62
  refine g_p q62 2 2 [some (oR 5 0), some (oR 1 0), none, none] [oR 1 0, oR 5 0] rfl ?_
  refine g_cV q62 rfl (g63 X s) rfl rfl rfl rfl rfl (fun s1 => ?_)
  refine g_p q62 2 7 [some (oR 5 0), some (oR 1 0), some (vI 0), none] [] rfl ?_
  refine g_wkJ [true, true, true, false] (L0 := [some (oR 5 0), some (oR 1 0), some (vI 0), none]) rfl ?_
  refine g_itr (H62_a X o) (E62_a X o) (fun | (x2, s3) => g62_a X x2 s3 o) ?_
  intro s11
  show J _ _ (Go X 3 62 60 [none, none, none, none] [] s11 o)
  exact g_retV q62 rfl rfl
theorem q68 : am_cd 68 = am_c68 := rfl
theorem g68 (X : X2) (a0 : Int) (s : S2) (o : Option (AV R2) × S2) : J (f68 a0) (fun (r : Int) => o = (some (vI r), s)) (Go X 1 68 0 (am_loc (am_nl 68) [vI a0]) [] s o) := by
  show J _ _ (Go X 1 68 0 [some (vI a0)] [] s o)
  unfold f68
  refine g_p q68 2 3 [some (vI a0)] [vI 60, vI a0] rfl ?_
  refine g_i2 q68 rfl rfl ?_ ?_
  ·
    refine g_p q68 2 33 [some (vI a0)] [vI 1] rfl ?_
    exact g_ret q68 rfl rfl rfl
  ·
    refine g_p q68 2 8 [some (vI a0)] [vI 3, vI a0] rfl ?_
    refine g_i2 q68 rfl rfl ?_ ?_
    ·
      refine g_p q68 2 33 [some (vI a0)] [vI 1] rfl ?_
      exact g_ret q68 rfl rfl rfl
    ·
      refine g_p q68 2 14 [some (vI a0)] [vI 61, vI a0] rfl ?_
      refine g_i2 q68 rfl rfl ?_ ?_
      ·
        refine g_p q68 2 33 [some (vI a0)] [vI 1] rfl ?_
        exact g_ret q68 rfl rfl rfl
      ·
        refine g_p q68 2 19 [some (vI a0)] [vI 4, vI a0] rfl ?_
        refine g_i2 q68 rfl rfl ?_ ?_
        ·
          refine g_p q68 2 33 [some (vI a0)] [vI 1] rfl ?_
          exact g_ret q68 rfl rfl rfl
        ·
          refine g_p q68 2 25 [some (vI a0)] [vI 62, vI a0] rfl ?_
          refine g_i2 q68 rfl rfl ?_ ?_
          ·
            refine g_p q68 1 33 [some (vI a0)] [vI 0] rfl ?_
            exact g_ret q68 rfl rfl rfl
          ·
            refine g_p q68 2 33 [some (vI a0)] [vI 1] rfl ?_
            exact g_ret q68 rfl rfl rfl
theorem q67 : am_cd 67 = am_c67 := rfl
theorem g67 (X : X2) (s : S2) (o : Option (AV R2) × S2) : J (f67 s) (fun (r : S2) => o = (none, r)) (Go X 4 67 0 (am_loc (am_nl 67) [oR 5 0, oR 1 0]) [] s o) := by
  show J _ _ (Go X 4 67 0 [some (oR 5 0), some (oR 1 0), none] [] s o)
  unfold f67
  refine g_p q67 2 2 [some (oR 5 0), some (oR 1 0), none] [oR 1 0, oR 5 0] rfl ?_
  refine g_cV q67 rfl (g62 X s) rfl rfl rfl rfl rfl (fun s1 => ?_)
  refine g_p q67 1 6 [some (oR 5 0), some (oR 1 0), none] [oR 1 0] rfl ?_
  refine g_cPI q67 rfl (g32 X s1) rfl rfl rfl rfl rfl (fun r2 => ?_)
  refine g_p q67 2 11 [some (oR 5 0), some (oR 1 0), some (vI r2)] [vI r2] rfl ?_
  refine g_cPI q67 rfl (g68 X r2 s1) rfl rfl rfl rfl rfl (fun r3 => ?_)
  refine g_i1 q67 rfl rfl ?_ ?_
  ·
    refine g_p q67 1 24 [some (oR 5 0), some (oR 1 0), some (vI r2)] [oR 5 0] rfl ?_
    refine g_get q67 rfl rfl rfl (fun _ => rfl) (fun v4 => ?_)
    refine g_p q67 1 29 [some (oR 5 0), some (oR 1 0), some (vI r2)] [vI 60, vI v4] rfl ?_
    refine g_i2 q67 rfl rfl ?_ ?_
    ·
      refine g_p q67 2 40 [some (oR 5 0), some (oR 1 0), some (vI r2)] [oR 5 0, oR 5 0] rfl ?_
      refine g_get q67 rfl rfl rfl (fun _ => rfl) (fun v5 => ?_)
      refine g_p q67 2 45 [some (oR 5 0), some (oR 1 0), some (vI r2)] [vI (jadd v5 1), oR 5 0] rfl ?_
      refine g_put q67 rfl rfl rfl (fun _ => rfl) (fun s6 => ?_)
      refine g_p q67 1 49 [some (oR 5 0), some (oR 1 0), some (vI r2)] [oR 1 0] rfl ?_
      refine g_cV q67 rfl (g36 X s6) rfl rfl rfl rfl rfl (fun s7 => ?_)
      refine g_p q67 2 54 [some (oR 5 0), some (oR 1 0), some (vI r2)] [oR 1 0, oR 5 0] rfl ?_
      refine g_cV q67 rfl (g62 X s7) rfl rfl rfl rfl rfl (fun s8 => ?_)
      refine g_p q67 1 58 [some (oR 5 0), some (oR 1 0), some (vI r2)] [oR 5 0] rfl ?_
      refine g_m (S := [oR 6 7]) (some (oR 6 7)) q67 rfl rfl rfl (fun _ => rfl) rfl ?_
      refine g_p q67 2 63 [some (oR 5 0), some (oR 1 0), some (vI r2)] [vI (jneg r2), oR 6 7] rfl ?_
      refine g_cV q67 rfl (g9 X 7 (jneg r2) s8) rfl rfl rfl rfl rfl (fun s9 => ?_)
      exact g_retV q67 rfl rfl
    ·
      refine g_p q67 2 34 [some (oR 5 0), some (oR 1 0), some (vI r2)] [vI 3, oR 1 0] rfl ?_
      refine g_cV q67 rfl (g34 X 3 s1) rfl rfl rfl rfl rfl (fun s10 => ?_)
      exact g_retV q67 rfl rfl
  ·
    refine g_p q67 2 19 [some (oR 5 0), some (oR 1 0), some (vI r2)] [vI 0, oR 1 0] rfl ?_
    refine g_cV q67 rfl (g34 X 0 s1) rfl rfl rfl rfl rfl (fun s11 => ?_)
    exact g_retV q67 rfl rfl
theorem q66 : am_cd 66 = am_c66 := rfl
def H66_a (X : X2) (D : Nat) (y1 : Int) (o : Option (AV R2) × S2) (a : Int × S2) : Prop := Go X D 66 2 [some (oR 5 0), some (oR 1 0), some (vI y1), some (vI (a.1)), none, none] [] (a.2) o
def E66_a (X : X2) (D : Nat) (y1 : Int) (o : Option (AV R2) × S2) : (Int × S2) → Prop := (fun (r : Int × S2) => Go X D 66 30 [some (oR 5 0), some (oR 1 0), some (vI y1), some (vI (r.1)), none, none] [] (r.2) o)
theorem g66_a (X : X2) (rf : Int → S2 → Option S2) (D1 D : Nat) (hrf : ∀ (d : Int) (s : S2) (o : Option (AV R2) × S2), J (rf d s) (fun r => o = (none, r)) (Go X D1 65 0 (am_loc (am_nl 65) [oR 5 0, oR 1 0, vI d]) [] s o)) (hD : 5 ≤ D) (hD1 : Nat.ble (D1 + 1) D = true) (y1 : Int) (x2 : Int) (s3 : S2) (o : Option (AV R2) × S2) : J (f66_a y1 x2 s3) (am_kx (H66_a X D y1 o) (E66_a X D y1 o)) (Go X D 66 2 [some (oR 5 0), some (oR 1 0), some (vI y1), some (vI x2), none, none] [] s3 o) := by
  unfold f66_a
  refine g_p q66 1 3 [some (oR 5 0), some (oR 1 0), some (vI y1), some (vI x2), none, none] [oR 1 0] rfl ?_
  refine g_cPI q66 rfl (g32 X s3) (am_bl hD rfl) rfl rfl rfl rfl (fun r4 => ?_)
  refine g_p q66 1 9 [some (oR 5 0), some (oR 1 0), some (vI y1), some (vI x2), none, none] [vI 273, vI r4] rfl ?_
  refine g_i2 q66 rfl rfl ?_ ?_
  ·
    exact g_end (fun h => g_wk [true, true, true, true, false, false] rfl h)
  ·
    refine g_p q66 4 17 [some (oR 5 0), some (oR 1 0), some (vI y1), some (vI x2), none, none] [vI 10, vI (jadd y1 x2)] rfl ?_
    refine g_i2 q66 rfl rfl ?_ ?_
    ·
      exact g_end (fun h => g_wk [true, true, true, true, false, false] rfl h)
    ·
      refine g_p q66 1 21 [some (oR 5 0), some (oR 1 0), some (vI y1), some (vI x2), none, none] [oR 1 0] rfl ?_
      refine g_cV q66 rfl (g36 X s3) (am_bl hD rfl) rfl rfl rfl rfl (fun s5 => ?_)
      refine g_inc (fun v6 => [some (oR 5 0), some (oR 1 0), some (vI y1), some (vI v6), none, none]) q66 rfl rfl (fun _ => rfl) (fun v6 => ?_)
      refine g_p q66 1 2 [some (oR 5 0), some (oR 1 0), some (vI y1), some (vI v6), none, none] [] rfl ?_
      exact g_end (fun h => g_wk [true, true, true, true, false, false] rfl h)
def H66_b (X : X2) (D : Nat) (y11 : Int) (o : Option (AV R2) × S2) (a : Int × S2) : Prop := Go X D 66 105 [some (oR 5 0), none, none, some (vI y11), none, some (vI (a.1))] [] (a.2) o
def E66_b (X : X2) (D : Nat) (y11 : Int) (o : Option (AV R2) × S2) : (S2) → Prop := (fun (r : S2) => Go X D 66 127 [none, none, none, none, none, none] [] r o)
theorem g66_b (X : X2) (rf : Int → S2 → Option S2) (D1 D : Nat) (hrf : ∀ (d : Int) (s : S2) (o : Option (AV R2) × S2), J (rf d s) (fun r => o = (none, r)) (Go X D1 65 0 (am_loc (am_nl 65) [oR 5 0, oR 1 0, vI d]) [] s o)) (hD : 5 ≤ D) (hD1 : Nat.ble (D1 + 1) D = true) (y11 : Int) (x12 : Int) (s13 : S2) (o : Option (AV R2) × S2) : J (f66_b y11 x12 s13) (am_kx (H66_b X D y11 o) (E66_b X D y11 o)) (Go X D 66 105 [some (oR 5 0), none, none, some (vI y11), none, some (vI x12)] [] s13 o) := by
  unfold f66_b
  refine g_p q66 2 108 [some (oR 5 0), none, none, some (vI y11), none, some (vI x12)] [vI y11, vI x12] rfl ?_
  refine g_i2 q66 rfl rfl ?_ ?_
  ·
    exact g_end (fun h => g_wk [false, false, false, false, false, false] rfl h)
  ·
    refine g_p q66 1 112 [some (oR 5 0), none, none, some (vI y11), none, some (vI x12)] [oR 5 0] rfl ?_
    refine g_m (S := [oR 6 7]) (some (oR 6 7)) q66 rfl (am_bl hD rfl) rfl (fun _ => rfl) rfl ?_
    refine g_p q66 1 118 [some (oR 5 0), none, none, some (vI y11), none, some (vI x12)] [vI (-273), oR 6 7] rfl ?_
    refine g_cV q66 rfl (g9 X 7 (-273) s13) (am_bl hD rfl) rfl rfl rfl rfl (fun s14 => ?_)
    refine g_inc (fun v15 => [some (oR 5 0), none, none, some (vI y11), none, some (vI v15)]) q66 rfl rfl (fun _ => rfl) (fun v15 => ?_)
    refine g_p q66 1 105 [some (oR 5 0), none, none, some (vI y11), none, some (vI v15)] [] rfl ?_
    exact g_end (fun h => g_wk [true, false, false, true, false, true] rfl h)
theorem g66r (X : X2) (rf : Int → S2 → Option S2) (D1 D : Nat) (hrf : ∀ (d : Int) (s : S2) (o : Option (AV R2) × S2), J (rf d s) (fun r => o = (none, r)) (Go X D1 65 0 (am_loc (am_nl 65) [oR 5 0, oR 1 0, vI d]) [] s o)) (hD : 5 ≤ D) (hD1 : Nat.ble (D1 + 1) D = true) (a2 : Int) (s : S2) (o : Option (AV R2) × S2) : J (f66r rf a2 s) (fun (r : S2) => o = (none, r)) (Go X D 66 0 (am_loc (am_nl 66) [oR 5 0, oR 1 0, vI a2]) [] s o) := by
  show J _ _ (Go X D 66 0 [some (oR 5 0), some (oR 1 0), some (vI a2), none, none, none] [] s o)
  unfold f66r
  refine g_p q66 2 2 [some (oR 5 0), some (oR 1 0), some (vI a2), some (vI 0), none, none] [] rfl ?_
  refine g_wkJ [true, true, true, true, false, false] (L0 := [some (oR 5 0), some (oR 1 0), some (vI a2), some (vI 0), none, none]) rfl ?_
  refine g_itr (H66_a X D a2 o) (E66_a X D a2 o) (fun | (x2, s3) => g66_a X rf D1 D hrf hD hD1 a2 x2 s3 o) ?_
  rintro ⟨z7, s8⟩
  show J _ _ (Go X D 66 30 [some (oR 5 0), some (oR 1 0), some (vI a2), some (vI z7), none, none] [] s8 o)
  refine g_p q66 1 31 [some (oR 5 0), some (oR 1 0), some (vI a2), some (vI z7), none, none] [oR 1 0] rfl ?_
  refine g_cPI q66 rfl (g32 X s8) (am_bl hD rfl) rfl rfl rfl rfl (fun r9 => ?_)
  refine g_p q66 3 41 [some (oR 5 0), some (oR 1 0), some (vI a2), some (vI z7), some (vI r9), none] [vI 273, vI r9] rfl ?_
  refine g_jn (fun j102 => ∀ (s10 : S2), J (j102 s10) (fun (r : S2) => o = (none, r)) (Go X D 66 102 [some (oR 5 0), none, none, some (vI z7), none, none] [] s10 o)) ?_ (fun j102 hj102 => ?_)
  ·
    intro s10
    refine g_p q66 2 105 [some (oR 5 0), none, none, some (vI z7), none, some (vI 0)] [] rfl ?_
    refine g_wkJ [true, false, false, true, false, true] (L0 := [some (oR 5 0), none, none, some (vI z7), none, some (vI 0)]) rfl ?_
    refine g_itr (H66_b X D z7 o) (E66_b X D z7 o) (fun | (x12, s13) => g66_b X rf D1 D hrf hD hD1 z7 x12 s13 o) ?_
    intro s16
    show J _ _ (Go X D 66 127 [none, none, none, none, none, none] [] s16 o)
    exact g_retV q66 rfl rfl
  ·
    refine g_jn (fun j59 => ∀ (_ : Unit), J (j59 ()) (fun (r : S2) => o = (none, r)) (Go X D 66 59 [some (oR 5 0), some (oR 1 0), none, some (vI z7), none, none] [] s8 o)) ?_ (fun j59 hj59 => ?_)
    ·
      intro _
      refine g_p q66 2 61 [some (oR 5 0), some (oR 1 0), none, some (vI z7), none, none] [vI 2, oR 1 0] rfl ?_
      refine g_cV q66 rfl (g34 X 2 s8) (am_bl hD rfl) rfl rfl rfl rfl (fun s17 => ?_)
      refine g_p q66 1 102 [some (oR 5 0), some (oR 1 0), none, some (vI z7), none, none] [] rfl ?_
      exact g_wkJ [true, false, false, true, false, false] rfl (hj102 s17)
    ·
      refine g_i2 q66 rfl rfl ?_ ?_
      ·
        exact g_wkJ [true, true, false, true, false, false] rfl (hj59 ())
      ·
        refine g_p q66 2 48 [some (oR 5 0), some (oR 1 0), some (vI a2), some (vI z7), some (vI r9), none] [vI 91, vI r9] rfl ?_
        refine g_jn (fun j67 => ∀ (_ : Unit), J (j67 ()) (fun (r : S2) => o = (none, r)) (Go X D 66 67 [some (oR 5 0), some (oR 1 0), some (vI a2), some (vI z7), some (vI r9), none] [] s8 o)) ?_ (fun j67 hj67 => ?_)
        ·
          intro _
          refine g_p q66 2 71 [some (oR 5 0), some (oR 1 0), some (vI a2), some (vI z7), some (vI r9), none] [vI 91, vI r9] rfl ?_
          refine g_i2 q66 rfl rfl ?_ ?_
          ·
            refine g_p q66 2 99 [some (oR 5 0), some (oR 1 0), some (vI a2), some (vI z7), some (vI r9), none] [oR 1 0, oR 5 0] rfl ?_
            refine g_cV q66 rfl (g67 X s8) (am_bl hD rfl) rfl rfl rfl rfl (fun s18 => ?_)
            exact g_wkJ [true, false, false, true, false, false] rfl (hj102 s18)
          ·
            refine g_p q66 1 75 [some (oR 5 0), some (oR 1 0), some (vI a2), some (vI z7), some (vI r9), none] [oR 1 0] rfl ?_
            refine g_cV q66 rfl (g36 X s8) (am_bl hD rfl) rfl rfl rfl rfl (fun s19 => ?_)
            refine g_p q66 7 85 [some (oR 5 0), some (oR 1 0), some (vI a2), some (vI z7), some (vI r9), none] [vI (jadd (jadd a2 z7) 1), oR 1 0, oR 5 0] rfl ?_
            refine g_cV q66 rfl (hrf (jadd (jadd a2 z7) 1) s19) hD1 rfl rfl rfl rfl (fun s20 => ?_)
            refine g_p q66 2 91 [some (oR 5 0), some (oR 1 0), some (vI a2), some (vI z7), some (vI r9), none] [vI 93, oR 1 0] rfl ?_
            refine g_cV q66 rfl (g55 X 93 s20) (am_bl hD rfl) rfl rfl rfl rfl (fun s21 => ?_)
            refine g_p q66 1 102 [some (oR 5 0), some (oR 1 0), some (vI a2), some (vI z7), some (vI r9), none] [] rfl ?_
            exact g_wkJ [true, false, false, true, false, false] rfl (hj102 s21)
        ·
          refine g_i2 q66 rfl rfl ?_ ?_
          ·
            exact g_wkJ [true, true, true, true, true, false] rfl (hj67 ())
          ·
            refine g_p q66 4 56 [some (oR 5 0), some (oR 1 0), some (vI a2), some (vI z7), some (vI r9), none] [vI 10, vI (jadd a2 z7)] rfl ?_
            refine g_i2 q66 rfl rfl ?_ ?_
            ·
              exact g_wkJ [true, true, true, true, true, false] rfl (hj67 ())
            ·
              exact g_wkJ [true, true, false, true, false, false] rfl (hj59 ())
theorem q65 : am_cd 65 = am_c65 := rfl
def H65_a (X : X2) (D : Nat) (y2 : Int) (o : Option (AV R2) × S2) (a : Int × Int × S2) : Prop := Go X D 65 11 [some (oR 5 0), some (oR 1 0), some (vI y2), some (vI (a.1)), some (vI (a.2.1)), none] [] (a.2.2) o
def E65_a (X : X2) (D : Nat) (y2 : Int) (o : Option (AV R2) × S2) : (Int × S2) → Prop := (fun (r : Int × S2) => Go X D 65 110 [some (oR 5 0), none, none, some (vI (r.1)), none, none] [] (r.2) o)
theorem g65_a (X : X2) (rf : Int → S2 → Option S2) (D1 D : Nat) (hrf : ∀ (d : Int) (s : S2) (o : Option (AV R2) × S2), J (rf d s) (fun r => o = (none, r)) (Go X D1 66 0 (am_loc (am_nl 66) [oR 5 0, oR 1 0, vI d]) [] s o)) (hD : 2 ≤ D) (hD1 : Nat.ble (D1 + 1) D = true) (y2 : Int) (x3 : Int) (x4 : Int) (s5 : S2) (o : Option (AV R2) × S2) : J (f65_a rf y2 x3 x4 s5) (am_kx (H65_a X D y2 o) (E65_a X D y2 o)) (Go X D 65 11 [some (oR 5 0), some (oR 1 0), some (vI y2), some (vI x3), some (vI x4), none] [] s5 o) := by
  unfold f65_a
  refine g_p q65 2 15 [some (oR 5 0), some (oR 1 0), some (vI y2), some (vI x3), some (vI x4), none] [vI 60, vI x4] rfl ?_
  refine g_i2 q65 rfl rfl ?_ ?_
  ·
    exact g_end (fun h => g_wk [true, false, false, true, false, false] rfl h)
  ·
    refine g_p q65 1 19 [some (oR 5 0), some (oR 1 0), some (vI y2), some (vI x3), some (vI x4), none] [oR 1 0] rfl ?_
    refine g_cPI q65 rfl (g32 X s5) (am_bl hD rfl) rfl rfl rfl rfl (fun r6 => ?_)
    refine g_p q65 1 25 [some (oR 5 0), some (oR 1 0), some (vI y2), some (vI x3), some (vI x4), none] [vI 271, vI r6] rfl ?_
    refine g_jn (fun j38 => ∀ (_ : Unit), J (j38 ()) (am_kx (H65_a X D y2 o) (E65_a X D y2 o)) (Go X D 65 38 [some (oR 5 0), some (oR 1 0), some (vI y2), some (vI x3), some (vI x4), none] [] s5 o)) ?_ (fun j38 hj38 => ?_)
    ·
      intro _
      refine g_p q65 1 39 [some (oR 5 0), some (oR 1 0), some (vI y2), some (vI x3), some (vI x4), none] [oR 1 0] rfl ?_
      refine g_cPI q65 rfl (g32 X s5) (am_bl hD rfl) rfl rfl rfl rfl (fun r7 => ?_)
      refine g_p q65 1 45 [some (oR 5 0), some (oR 1 0), some (vI y2), some (vI x3), some (vI x4), none] [vI 271, vI r7] rfl ?_
      refine g_jn (fun j53 => ∀ (x8 : Int), J (j53 x8) (am_kx (H65_a X D y2 o) (E65_a X D y2 o)) (Go X D 65 53 [some (oR 5 0), some (oR 1 0), some (vI y2), some (vI x3), some (vI x4), none] [vI x8] s5 o)) ?_ (fun j53 hj53 => ?_)
      ·
        intro x8
        refine g_p q65 2 57 [some (oR 5 0), some (oR 1 0), some (vI y2), some (vI x3), some (vI x4), some (vI x8)] [vI x8] rfl ?_
        refine g_jn (fun j74 => ∀ (s9 : S2), J (j74 s9) (am_kx (H65_a X D y2 o) (E65_a X D y2 o)) (Go X D 65 74 [some (oR 5 0), some (oR 1 0), some (vI y2), some (vI x3), some (vI x4), some (vI x8)] [] s9 o)) ?_ (fun j74 hj74 => ?_)
        ·
          intro s9
          refine g_p q65 1 75 [some (oR 5 0), some (oR 1 0), some (vI y2), some (vI x3), some (vI x4), some (vI x8)] [oR 1 0] rfl ?_
          refine g_cV q65 rfl (g36 X s9) (am_bl hD rfl) rfl rfl rfl rfl (fun s10 => ?_)
          refine g_p q65 3 81 [some (oR 5 0), some (oR 1 0), some (vI y2), some (vI x3), some (vI x4), some (vI x8)] [vI y2, oR 1 0, oR 5 0] rfl ?_
          refine g_cV q65 rfl (hrf y2 s10) hD1 rfl rfl rfl rfl (fun s11 => ?_)
          refine g_p q65 1 86 [some (oR 5 0), some (oR 1 0), some (vI y2), some (vI x3), some (vI x4), some (vI x8)] [vI x8] rfl ?_
          refine g_i1 q65 rfl rfl ?_ ?_
          ·
            refine g_p q65 2 104 [some (oR 5 0), some (oR 1 0), some (vI y2), some (vI 1), some (vI x4), some (vI x8)] [] rfl ?_
            refine g_inc (fun v12 => [some (oR 5 0), some (oR 1 0), some (vI y2), some (vI 1), some (vI v12), some (vI x8)]) q65 rfl rfl (fun _ => rfl) (fun v12 => ?_)
            refine g_p q65 1 11 [some (oR 5 0), some (oR 1 0), some (vI y2), some (vI 1), some (vI v12), some (vI x8)] [] rfl ?_
            exact g_end (fun h => g_wk [true, true, true, true, true, false] rfl h)
          ·
            refine g_p q65 1 90 [some (oR 5 0), some (oR 1 0), some (vI y2), some (vI x3), some (vI x4), some (vI x8)] [oR 5 0] rfl ?_
            refine g_m (S := [oR 6 7]) (some (oR 6 7)) q65 rfl (am_bl hD rfl) rfl (fun _ => rfl) rfl ?_
            refine g_p q65 1 96 [some (oR 5 0), some (oR 1 0), some (vI y2), some (vI x3), some (vI x4), some (vI x8)] [vI (-271), oR 6 7] rfl ?_
            refine g_cV q65 rfl (g9 X 7 (-271) s11) (am_bl hD rfl) rfl rfl rfl rfl (fun s13 => ?_)
            refine g_p q65 1 104 [some (oR 5 0), some (oR 1 0), some (vI y2), some (vI x3), some (vI x4), some (vI x8)] [] rfl ?_
            refine g_inc (fun v14 => [some (oR 5 0), some (oR 1 0), some (vI y2), some (vI x3), some (vI v14), some (vI x8)]) q65 rfl rfl (fun _ => rfl) (fun v14 => ?_)
            refine g_p q65 1 11 [some (oR 5 0), some (oR 1 0), some (vI y2), some (vI x3), some (vI v14), some (vI x8)] [] rfl ?_
            exact g_end (fun h => g_wk [true, true, true, true, true, false] rfl h)
        ·
          refine g_i1 q65 rfl rfl ?_ ?_
          ·
            exact g_wkJ [true, true, true, true, true, true] rfl (hj74 s5)
          ·
            refine g_p q65 1 61 [some (oR 5 0), some (oR 1 0), some (vI y2), some (vI x3), some (vI x4), some (vI x8)] [vI x3] rfl ?_
            refine g_i1 q65 rfl rfl ?_ ?_
            ·
              exact g_wkJ [true, true, true, true, true, true] rfl (hj74 s5)
            ·
              refine g_p q65 1 65 [some (oR 5 0), some (oR 1 0), some (vI y2), some (vI x3), some (vI x4), some (vI x8)] [oR 5 0] rfl ?_
              refine g_m (S := [oR 6 7]) (some (oR 6 7)) q65 rfl (am_bl hD rfl) rfl (fun _ => rfl) rfl ?_
              refine g_p q65 1 71 [some (oR 5 0), some (oR 1 0), some (vI y2), some (vI x3), some (vI x4), some (vI x8)] [vI (-272), oR 6 7] rfl ?_
              refine g_cV q65 rfl (g9 X 7 (-272) s5) (am_bl hD rfl) rfl rfl rfl rfl (fun s15 => ?_)
              exact g_wkJ [true, true, true, true, true, true] rfl (hj74 s15)
      ·
        refine g_i2 q65 rfl rfl ?_ ?_
        ·
          refine g_p q65 1 53 [some (oR 5 0), some (oR 1 0), some (vI y2), some (vI x3), some (vI x4), none] [vI 0] rfl ?_
          exact g_wkJ [true, true, true, true, true, false] rfl (hj53 0)
        ·
          refine g_p q65 2 53 [some (oR 5 0), some (oR 1 0), some (vI y2), some (vI x3), some (vI x4), none] [vI 1] rfl ?_
          exact g_wkJ [true, true, true, true, true, false] rfl (hj53 1)
    ·
      refine g_i2 q65 rfl rfl ?_ ?_
      ·
        exact g_wkJ [true, true, true, true, true, false] rfl (hj38 ())
      ·
        refine g_p q65 1 29 [some (oR 5 0), some (oR 1 0), some (vI y2), some (vI x3), some (vI x4), none] [oR 1 0] rfl ?_
        refine g_cPI q65 rfl (g32 X s5) (am_bl hD rfl) rfl rfl rfl rfl (fun r16 => ?_)
        refine g_p q65 1 35 [some (oR 5 0), some (oR 1 0), some (vI y2), some (vI x3), some (vI x4), none] [vI 272, vI r16] rfl ?_
        refine g_i2 q65 rfl rfl ?_ ?_
        ·
          exact g_end (fun h => g_wk [true, false, false, true, false, false] rfl h)
        ·
          exact g_wkJ [true, true, true, true, true, false] rfl (hj38 ())
theorem g65r (X : X2) (rf : Int → S2 → Option S2) (D1 D : Nat) (hrf : ∀ (d : Int) (s : S2) (o : Option (AV R2) × S2), J (rf d s) (fun r => o = (none, r)) (Go X D1 66 0 (am_loc (am_nl 66) [oR 5 0, oR 1 0, vI d]) [] s o)) (hD : 2 ≤ D) (hD1 : Nat.ble (D1 + 1) D = true) (a2 : Int) (s : S2) (o : Option (AV R2) × S2) : J (f65r rf a2 s) (fun (r : S2) => o = (none, r)) (Go X D 65 0 (am_loc (am_nl 65) [oR 5 0, oR 1 0, vI a2]) [] s o) := by
  show J _ _ (Go X D 65 0 [some (oR 5 0), some (oR 1 0), some (vI a2), none, none, none] [] s o)
  unfold f65r
  refine g_p q65 5 5 [some (oR 5 0), some (oR 1 0), some (vI a2), some (vI 0), none, none] [vI a2, oR 1 0, oR 5 0] rfl ?_
  refine g_cV q65 rfl (hrf a2 s) hD1 rfl rfl rfl rfl (fun s1 => ?_)
  refine g_p q65 2 11 [some (oR 5 0), some (oR 1 0), some (vI a2), some (vI 0), some (vI 0), none] [] rfl ?_
  refine g_wkJ [true, true, true, true, true, false] (L0 := [some (oR 5 0), some (oR 1 0), some (vI a2), some (vI 0), some (vI 0), none]) rfl ?_
  refine g_itr (H65_a X D a2 o) (E65_a X D a2 o) (fun | (x3, x4, s5) => g65_a X rf D1 D hrf hD hD1 a2 x3 x4 s5 o) ?_
  rintro ⟨z17, s18⟩
  show J _ _ (Go X D 65 110 [some (oR 5 0), none, none, some (vI z17), none, none] [] s18 o)
  refine g_p q65 1 111 [some (oR 5 0), none, none, some (vI z17), none, none] [vI z17] rfl ?_
  refine g_i1 q65 rfl rfl ?_ ?_
  ·
    exact g_retV q65 rfl rfl
  ·
    refine g_p q65 1 115 [some (oR 5 0), none, none, some (vI z17), none, none] [oR 5 0] rfl ?_
    refine g_m (S := [oR 6 7]) (some (oR 6 7)) q65 rfl (am_bl hD rfl) rfl (fun _ => rfl) rfl ?_
    refine g_p q65 1 121 [some (oR 5 0), none, none, some (vI z17), none, none] [vI (-272), oR 6 7] rfl ?_
    refine g_cV q65 rfl (g9 X 7 (-272) s18) (am_bl hD rfl) rfl rfl rfl rfl (fun s19 => ?_)
    exact g_retV q65 rfl rfl
theorem g65 (X : X2) : ∀ (q D : Nat), 7 + 2 * q ≤ D → ∀ (a : Int) (s : S2) (o : Option (AV R2) × S2), J (f65 q a s) (fun r => o = (none, r)) (Go X D 65 0 (am_loc (am_nl 65) [oR 5 0, oR 1 0, vI a]) [] s o)
  | 0, _, _, _, _, _ => g_no
  | q + 1, D, hD, a, s, o => g65r X (f66r (f65 q)) (D - 1) D (fun a s o => g66r X (f65 q) (D - 2) (D - 1) (fun a s o => g65 X q (D - 2) (by omega) a s o) (by omega) (Nat.ble_eq_true_of_le (by omega)) a s o) (by omega) (Nat.ble_eq_true_of_le (by omega)) a s o
theorem q61 : am_cd 61 = am_c61 := rfl
def H61_a (X : X2) (o : Option (AV R2) × S2) (a : Int × S2) : Prop := Go X 200 61 19 [some (oR 5 0), some (oR 1 0), some (vI (a.1))] [] (a.2) o
def E61_a (X : X2) (o : Option (AV R2) × S2) : (S2) ⊕ (S2) → Prop := (am_kx (fun (r : S2) => Go X 200 61 121 [none, none, none] [] r o) (fun (r : S2) => Go X 200 61 135 [none, some (oR 1 0), none] [] r o))
theorem g61_a (X : X2) (x4 : Int) (s5 : S2) (o : Option (AV R2) × S2) : J (f61_a x4 s5) (am_kx (H61_a X o) (E61_a X o)) (Go X 200 61 19 [some (oR 5 0), some (oR 1 0), some (vI x4)] [] s5 o) := by
  unfold f61_a
  refine g_p q61 2 22 [some (oR 5 0), some (oR 1 0), some (vI x4)] [vI 12, vI x4] rfl ?_
  refine g_i2 q61 rfl rfl ?_ ?_
  ·
    exact g_end (fun h => g_wk [false, true, false] rfl h)
  ·
    refine g_p q61 1 26 [some (oR 5 0), some (oR 1 0), some (vI x4)] [oR 1 0] rfl ?_
    refine g_get q61 rfl rfl rfl (fun _ => rfl) (fun v6 => ?_)
    refine g_i1 q61 rfl rfl ?_ ?_
    ·
      exact g_end (fun h => g_wk [false, true, false] rfl h)
    ·
      refine g_p q61 2 35 [some (oR 5 0), some (oR 1 0), some (vI x4)] [vI 12, vI x4] rfl ?_
      refine g_jn (fun j53 => ∀ (s7 : S2), J (j53 s7) (am_kx (H61_a X o) (E61_a X o)) (Go X 200 61 53 [some (oR 5 0), some (oR 1 0), some (vI x4)] [] s7 o)) ?_ (fun j53 hj53 => ?_)
      ·
        intro s7
        refine g_p q61 2 57 [some (oR 5 0), some (oR 1 0), some (vI x4)] [vI 269, oR 1 0] rfl ?_
        refine g_cV q61 rfl (g55 X 269 s7) rfl rfl rfl rfl rfl (fun s8 => ?_)
        refine g_p q61 2 62 [some (oR 5 0), some (oR 1 0), some (vI x4)] [oR 1 0, oR 5 0] rfl ?_
        refine g_cV q61 rfl (g62 X s8) rfl rfl rfl rfl rfl (fun s9 => ?_)
        refine g_p q61 1 66 [some (oR 5 0), some (oR 1 0), some (vI x4)] [oR 1 0] rfl ?_
        refine g_cPI q61 rfl (g32 X s9) rfl rfl rfl rfl rfl (fun r10 => ?_)
        refine g_p q61 1 72 [some (oR 5 0), some (oR 1 0), some (vI x4)] [vI 270, vI r10] rfl ?_
        refine g_jn (fun j107 => ∀ (s11 : S2), J (j107 s11) (am_kx (H61_a X o) (E61_a X o)) (Go X 200 61 107 [some (oR 5 0), some (oR 1 0), some (vI x4)] [] s11 o)) ?_ (fun j107 hj107 => ?_)
        ·
          intro s11
          refine g_p q61 1 108 [some (oR 5 0), some (oR 1 0), some (vI x4)] [oR 1 0] rfl ?_
          refine g_get q61 rfl rfl rfl (fun _ => rfl) (fun v12 => ?_)
          refine g_jn (fun j123 => ∀ (_ : Unit), J (j123 ()) (am_kx (H61_a X o) (E61_a X o)) (Go X 200 61 123 [some (oR 5 0), some (oR 1 0), some (vI x4)] [] s11 o)) ?_ (fun j123 hj123 => ?_)
          ·
            intro _
            refine g_p q61 2 126 [some (oR 5 0), some (oR 1 0), some (vI x4)] [vI 59, oR 1 0] rfl ?_
            refine g_cV q61 rfl (g55 X 59 s11) rfl rfl rfl rfl rfl (fun s13 => ?_)
            refine g_inc (fun v14 => [some (oR 5 0), some (oR 1 0), some (vI v14)]) q61 rfl rfl (fun _ => rfl) (fun v14 => ?_)
            refine g_p q61 1 19 [some (oR 5 0), some (oR 1 0), some (vI v14)] [] rfl ?_
            exact g_end (fun h => g_wk [true, true, true] rfl h)
          ·
            refine g_i1 q61 rfl rfl ?_ ?_
            ·
              exact g_wkJ [true, true, true] rfl (hj123 ())
            ·
              refine g_p q61 1 115 [some (oR 5 0), some (oR 1 0), some (vI x4)] [oR 1 0] rfl ?_
              refine g_cPI q61 rfl (g32 X s11) rfl rfl rfl rfl rfl (fun r15 => ?_)
              refine g_i1 q61 rfl rfl ?_ ?_
              ·
                exact g_wkJ [true, true, true] rfl (hj123 ())
              ·
                exact g_end (fun h => g_wk [false, false, false] rfl h)
        ·
          refine g_i2 q61 rfl rfl ?_ ?_
          ·
            refine g_p q61 1 99 [some (oR 5 0), some (oR 1 0), some (vI x4)] [oR 5 0] rfl ?_
            refine g_m (S := [oR 6 7]) (some (oR 6 7)) q61 rfl rfl rfl (fun _ => rfl) rfl ?_
            refine g_p q61 1 104 [some (oR 5 0), some (oR 1 0), some (vI x4)] [vI (-59), oR 6 7] rfl ?_
            refine g_cV q61 rfl (g9 X 7 (-59) s9) rfl rfl rfl rfl rfl (fun s16 => ?_)
            exact g_wkJ [true, true, true] rfl (hj107 s16)
          ·
            refine g_p q61 1 76 [some (oR 5 0), some (oR 1 0), some (vI x4)] [oR 1 0] rfl ?_
            refine g_cV q61 rfl (g36 X s9) rfl rfl rfl rfl rfl (fun s17 => ?_)
            refine g_p q61 3 82 [some (oR 5 0), some (oR 1 0), some (vI x4)] [vI 0, oR 1 0, oR 5 0] rfl ?_
            refine g_cV q61 rfl (g65 X 12 150 (Nat.le_of_ble_eq_true rfl) 0 s17) rfl rfl rfl rfl rfl (fun s18 => ?_)
            refine g_p q61 1 86 [some (oR 5 0), some (oR 1 0), some (vI x4)] [oR 5 0] rfl ?_
            refine g_m (S := [oR 6 7]) (some (oR 6 7)) q61 rfl rfl rfl (fun _ => rfl) rfl ?_
            refine g_p q61 1 92 [some (oR 5 0), some (oR 1 0), some (vI x4)] [vI (-270), oR 6 7] rfl ?_
            refine g_cV q61 rfl (g9 X 7 (-270) s18) rfl rfl rfl rfl rfl (fun s19 => ?_)
            refine g_p q61 1 107 [some (oR 5 0), some (oR 1 0), some (vI x4)] [] rfl ?_
            exact g_wkJ [true, true, true] rfl (hj107 s19)
      ·
        refine g_i2 q61 rfl rfl ?_ ?_
        ·
          exact g_wkJ [true, true, true] rfl (hj53 s5)
        ·
          refine g_p q61 1 39 [some (oR 5 0), some (oR 1 0), some (vI x4)] [oR 1 0] rfl ?_
          refine g_cPI q61 rfl (g32 X s5) rfl rfl rfl rfl rfl (fun r20 => ?_)
          refine g_p q61 1 45 [some (oR 5 0), some (oR 1 0), some (vI x4)] [vI 269, vI r20] rfl ?_
          refine g_i2 q61 rfl rfl ?_ ?_
          ·
            exact g_wkJ [true, true, true] rfl (hj53 s5)
          ·
            refine g_p q61 2 50 [some (oR 5 0), some (oR 1 0), some (vI x4)] [vI 4, oR 1 0] rfl ?_
            refine g_cV q61 rfl (g34 X 4 s5) rfl rfl rfl rfl rfl (fun s21 => ?_)
            exact g_wkJ [true, true, true] rfl (hj53 s21)
theorem g61 (X : X2) (s : S2) (o : Option (AV R2) × S2) : J (f61 s) (fun (r : Int × S2) => o = (some (vI r.1), r.2)) (Go X 200 61 0 (am_loc (am_nl 61) [oR 5 0, oR 1 0]) [] s o) := by
  show J _ _ (Go X 200 61 0 [some (oR 5 0), some (oR 1 0), none] [] s o)
  unfold f61
  refine g_p q61 1 1 [some (oR 5 0), some (oR 1 0), none] [oR 5 0] rfl ?_
  refine g_m (S := [oR 6 7]) (some (oR 6 7)) q61 rfl rfl rfl (fun _ => rfl) rfl ?_
  refine g_p q61 1 5 [some (oR 5 0), some (oR 1 0), none] [vI 0, oR 6 7] rfl ?_
  refine g_put q61 rfl rfl rfl (fun _ => rfl) (fun s1 => ?_)
  refine g_p q61 2 10 [some (oR 5 0), some (oR 1 0), none] [vI 0, oR 5 0] rfl ?_
  refine g_put q61 rfl rfl rfl (fun _ => rfl) (fun s2 => ?_)
  refine g_p q61 1 14 [some (oR 5 0), some (oR 1 0), none] [oR 1 0] rfl ?_
  refine g_cV q61 rfl (g21 X s2) rfl rfl rfl rfl rfl (fun s3 => ?_)
  refine g_p q61 2 19 [some (oR 5 0), some (oR 1 0), some (vI 0)] [] rfl ?_
  refine g_wkJ [true, true, true] (L0 := [some (oR 5 0), some (oR 1 0), some (vI 0)]) rfl ?_
  refine g_itr (H61_a X o) (E61_a X o) (fun | (x4, s5) => g61_a X x4 s5 o) ?_
  refine g_se ?_ ?_
  ·
    intro s22
    show J _ _ (Go X 200 61 121 [none, none, none] [] s22 o)
    refine g_p q61 1 122 [none, none, none] [vI 0] rfl ?_
    exact g_ret q61 rfl rfl rfl
  ·
    intro s23
    show J _ _ (Go X 200 61 135 [none, some (oR 1 0), none] [] s23 o)
    refine g_p q61 1 136 [none, some (oR 1 0), none] [oR 1 0] rfl ?_
    refine g_get q61 rfl rfl rfl (fun _ => rfl) (fun v24 => ?_)
    exact g_ret q61 rfl rfl rfl
theorem q70 : am_cd 70 = am_c70 := rfl
theorem g70 (X : X2) (a0 : Nat) (a1 : Nat) (s : S2) (o : Option (AV R2) × S2) : J (f70 a0 a1 s) (fun (r : S2) => o = (none, r)) (Go X 1 70 0 (am_loc (am_nl 70) [oR 6 a0, oR 6 a1]) [] s o) := by
  show J _ _ (Go X 1 70 0 [some (oR 6 a0), some (oR 6 a1)] [] s o)
  unfold f70
  refine g_p q70 2 2 [some (oR 6 a0), some (oR 6 a1)] [oR 6 a1, oR 6 a0] rfl ?_
  refine g_get q70 rfl rfl rfl (fun _ => rfl) (fun v1 => ?_)
  refine g_put q70 rfl rfl rfl (fun _ => rfl) (fun s2 => ?_)
  refine g_p q70 1 9 [some (oR 6 a0), some (oR 6 a1)] [oR 6 a1] rfl ?_
  refine g_m (S := [aR 768 a1]) (some (aR 768 a1)) q70 rfl rfl rfl (fun _ => rfl) rfl ?_
  refine g_p q70 2 14 [some (oR 6 a0), some (oR 6 a1)] [oR 6 a0, vI 0, aR 768 a1] rfl ?_
  refine g_m (S := [aR 768 a0, vI 0, aR 768 a1]) (some (aR 768 a0)) q70 rfl rfl rfl (fun _ => rfl) rfl ?_
  refine g_p q70 2 21 [some (oR 6 a0), some (oR 6 a1)] [vI 400, vI 0, aR 768 a0, vI 0, aR 768 a1] rfl ?_
  refine g_cpy (im := 0) q70 rfl rfl rfl rfl rfl (fun s3 => ?_)
  exact g_retV q70 rfl rfl
theorem q69 : am_cd 69 = am_c69 := rfl
theorem g69 (X : X2) (a1 : Nat) (s : S2) (o : Option (AV R2) × S2) : J (f69 a1 s) (fun (r : Int × S2) => o = (some (vI r.1), r.2)) (Go X 2 69 0 (am_loc (am_nl 69) [oR 7 0, oR 6 a1]) [] s o) := by
  show J _ _ (Go X 2 69 0 [some (oR 7 0), some (oR 6 a1), none] [] s o)
  unfold f69
  refine g_p q69 1 1 [some (oR 7 0), some (oR 6 a1), none] [oR 7 0] rfl ?_
  refine g_get q69 rfl rfl rfl (fun _ => rfl) (fun v1 => ?_)
  refine g_jn (fun j28 => ∀ (_ : Unit), J (j28 ()) (fun (r : Int × S2) => o = (some (vI r.1), r.2)) (Go X 2 69 28 [some (oR 7 0), some (oR 6 a1), none] [] s o)) ?_ (fun j28 hj28 => ?_)
  ·
    intro _
    refine g_p q69 3 31 [some (oR 7 0), some (oR 6 a1), some (vN)] [vN] rfl ?_
    refine g_p q69 2 35 [some (oR 7 0), some (oR 6 a1), some (vN)] [vI (-1)] rfl ?_
    exact g_ret q69 rfl rfl rfl
  ·
    refine g_i1 q69 rfl rfl ?_ ?_
    ·
      exact g_wkJ [true, true, false] rfl (hj28 ())
    ·
      refine g_p q69 1 8 [some (oR 7 0), some (oR 6 a1), none] [oR 7 0] rfl ?_
      refine g_get q69 rfl rfl rfl (fun _ => rfl) (fun v2 => ?_)
      refine g_p q69 1 13 [some (oR 7 0), some (oR 6 a1), none] [vI 6, vI v2] rfl ?_
      refine g_i2 q69 rfl rfl ?_ ?_
      ·
        exact g_wkJ [true, true, false] rfl (hj28 ())
      ·
        refine g_p q69 1 17 [some (oR 7 0), some (oR 6 a1), none] [oR 7 0] rfl ?_
        refine g_m (S := [aR 896 0]) (some (aR 896 0)) q69 rfl rfl rfl (fun _ => rfl) rfl ?_
        refine g_p q69 1 21 [some (oR 7 0), some (oR 6 a1), none] [oR 7 0, aR 896 0] rfl ?_
        refine g_get q69 rfl rfl rfl (fun _ => rfl) (fun v3 => ?_)
        refine g_ldr q69 rfl rfl rfl rfl rfl (fun i5 => ?_)
        refine g_p q69 3 31 [some (oR 7 0), some (oR 6 a1), some (oR 6 i5)] [oR 6 i5] rfl ?_
        refine g_p q69 3 38 [some (oR 7 0), some (oR 6 a1), some (oR 6 i5)] [oR 6 a1, oR 6 i5] rfl ?_
        refine g_cV q69 rfl (g70 X i5 a1 s) rfl rfl rfl rfl rfl (fun s6 => ?_)
        refine g_p q69 2 43 [some (oR 7 0), some (oR 6 a1), some (oR 6 i5)] [oR 7 0, oR 7 0] rfl ?_
        refine g_get q69 rfl rfl rfl (fun _ => rfl) (fun v7 => ?_)
        refine g_p q69 2 48 [some (oR 7 0), some (oR 6 a1), some (oR 6 i5)] [vI (jadd v7 1), oR 7 0] rfl ?_
        refine g_put q69 rfl rfl rfl (fun _ => rfl) (fun s8 => ?_)
        refine g_p q69 1 52 [some (oR 7 0), some (oR 6 a1), some (oR 6 i5)] [oR 7 0] rfl ?_
        refine g_get q69 rfl rfl rfl (fun _ => rfl) (fun v9 => ?_)
        refine g_p q69 2 57 [some (oR 7 0), some (oR 6 a1), some (oR 6 i5)] [vI (jsub v9 1)] rfl ?_
        refine g_top (fun v10 => ?_)
        exact g_ret q69 rfl rfl rfl
theorem q59 : am_cd 59 = am_c59 := rfl
theorem g59 (X : X2) (s : S2) (o : Option (AV R2) × S2) : J (f59 s) (fun (r : Int × S2) => o = (some (vI r.1), r.2)) (Go X 201 59 0 (am_loc (am_nl 59) [oR 0 0]) [] s o) := by
  show J _ _ (Go X 201 59 0 [some (oR 0 0), none] [] s o)
  unfold f59
  refine g_p q59 1 1 [some (oR 0 0), none] [oR 0 0] rfl ?_
  refine g_m (S := [oR 7 0]) (some (oR 7 0)) q59 rfl rfl rfl (fun _ => rfl) rfl ?_
  refine g_cPI q59 rfl (g60 X s) rfl rfl rfl rfl rfl (fun r1 => ?_)
  refine g_i1 q59 rfl rfl ?_ ?_
  ·
    refine g_p q59 1 13 [some (oR 0 0), none] [oR 0 0] rfl ?_
    refine g_m (S := [oR 5 0]) (some (oR 5 0)) q59 rfl rfl rfl (fun _ => rfl) rfl ?_
    refine g_p q59 1 17 [some (oR 0 0), none] [oR 0 0, oR 5 0] rfl ?_
    refine g_m (S := [oR 1 0, oR 5 0]) (some (oR 1 0)) q59 rfl rfl rfl (fun _ => rfl) rfl ?_
    refine g_cRI q59 rfl (g61 X s) rfl rfl rfl rfl rfl (fun r2 s3 => ?_)
    refine g_p q59 2 25 [some (oR 0 0), some (vI r2)] [oR 0 0] rfl ?_
    refine g_m (S := [oR 1 0]) (some (oR 1 0)) q59 rfl rfl rfl (fun _ => rfl) rfl ?_
    refine g_p q59 1 29 [some (oR 0 0), some (vI r2)] [vI 0, oR 1 0] rfl ?_
    refine g_put q59 rfl rfl rfl (fun _ => rfl) (fun s4 => ?_)
    refine g_p q59 1 33 [some (oR 0 0), some (vI r2)] [vI r2] rfl ?_
    refine g_i1 q59 rfl rfl ?_ ?_
    ·
      refine g_p q59 1 44 [some (oR 0 0), some (vI r2)] [oR 0 0] rfl ?_
      refine g_m (S := [oR 7 0]) (some (oR 7 0)) q59 rfl rfl rfl (fun _ => rfl) rfl ?_
      refine g_p q59 1 48 [some (oR 0 0), some (vI r2)] [oR 0 0, oR 7 0] rfl ?_
      refine g_m (S := [oR 5 0, oR 7 0]) (some (oR 5 0)) q59 rfl rfl rfl (fun _ => rfl) rfl ?_
      refine g_m (S := [oR 6 7, oR 7 0]) (some (oR 6 7)) q59 rfl rfl rfl (fun _ => rfl) rfl ?_
      refine g_cRI q59 rfl (g69 X 7 s4) rfl rfl rfl rfl rfl (fun r5 s6 => ?_)
      exact g_ret q59 rfl rfl rfl
    ·
      refine g_p q59 4 57 [some (oR 0 0), some (vI r2)] [vI (jsub (-2) r2)] rfl ?_
      refine g_top (fun v7 => ?_)
      exact g_ret q59 rfl rfl rfl
  ·
    refine g_p q59 1 11 [some (oR 0 0), none] [vI (-1)] rfl ?_
    exact g_ret q59 rfl rfl rfl
theorem q72 : am_cd 72 = am_c72 := rfl
theorem g72 (X : X2) (a1 : Int) (s : S2) (o : Option (AV R2) × S2) : J (f72 a1 s) (fun (r : Int) => o = (some (vI r), s)) (Go X 1 72 0 (am_loc (am_nl 72) [oR 7 0, vI a1]) [] s o) := by
  show J _ _ (Go X 1 72 0 [some (oR 7 0), some (vI a1)] [] s o)
  unfold f72
  refine g_p q72 1 1 [some (oR 7 0), some (vI a1)] [vI a1] rfl ?_
  refine g_i1 q72 rfl rfl ?_ ?_
  ·
    refine g_p q72 1 23 [some (oR 7 0), some (vI a1)] [vI 0] rfl ?_
    exact g_ret q72 rfl rfl rfl
  ·
    refine g_p q72 2 6 [some (oR 7 0), some (vI a1)] [oR 7 0, vI a1] rfl ?_
    refine g_get q72 rfl rfl rfl (fun _ => rfl) (fun v1 => ?_)
    refine g_i2 q72 rfl rfl ?_ ?_
    ·
      refine g_p q72 1 23 [some (oR 7 0), some (vI a1)] [vI 0] rfl ?_
      exact g_ret q72 rfl rfl rfl
    ·
      refine g_p q72 2 15 [some (oR 7 0), some (vI a1)] [vI 6, vI a1] rfl ?_
      refine g_i2 q72 rfl rfl ?_ ?_
      ·
        refine g_p q72 1 23 [some (oR 7 0), some (vI a1)] [vI 0] rfl ?_
        exact g_ret q72 rfl rfl rfl
      ·
        refine g_p q72 2 23 [some (oR 7 0), some (vI a1)] [vI 1] rfl ?_
        exact g_ret q72 rfl rfl rfl
theorem q71 : am_cd 71 = am_c71 := rfl
theorem g71 (X : X2) (a1 : Int) (s : S2) (o : Option (AV R2) × S2) : J (f71 a1 s) (fun (r : Int × S2) => o = (some (vI r.1), r.2)) (Go X 2 71 0 (am_loc (am_nl 71) [oR 0 0, vI a1]) [] s o) := by
  show J _ _ (Go X 2 71 0 [some (oR 0 0), some (vI a1), none] [] s o)
  unfold f71
  refine g_p q71 2 2 [some (oR 0 0), some (vI a1), none] [vI (-1), vI a1] rfl ?_
  refine g_jn (fun j19 => ∀ (_ : Unit), J (j19 ()) (fun (r : Int × S2) => o = (some (vI r.1), r.2)) (Go X 2 71 19 [some (oR 0 0), some (vI a1), none] [] s o)) ?_ (fun j19 hj19 => ?_)
  ·
    intro _
    refine g_p q71 1 20 [some (oR 0 0), some (vI a1), none] [oR 0 0] rfl ?_
    refine g_m (S := [oR 8 0]) (some (oR 8 0)) q71 rfl rfl rfl (fun _ => rfl) rfl ?_
    refine g_get q71 rfl rfl rfl (fun _ => rfl) (fun v1 => ?_)
    refine g_p q71 2 28 [some (oR 0 0), some (vI a1), some (vI v1)] [oR 0 0] rfl ?_
    refine g_m (S := [oR 8 0]) (some (oR 8 0)) q71 rfl rfl rfl (fun _ => rfl) rfl ?_
    refine g_p q71 1 32 [some (oR 0 0), some (vI a1), some (vI v1)] [vI a1, oR 8 0] rfl ?_
    refine g_put q71 rfl rfl rfl (fun _ => rfl) (fun s2 => ?_)
    refine g_p q71 1 36 [some (oR 0 0), some (vI a1), some (vI v1)] [vI v1] rfl ?_
    exact g_ret q71 rfl rfl rfl
  ·
    refine g_i2 q71 rfl rfl ?_ ?_
    ·
      exact g_wkJ [true, true, false] rfl (hj19 ())
    ·
      refine g_p q71 1 6 [some (oR 0 0), some (vI a1), none] [oR 0 0] rfl ?_
      refine g_m (S := [oR 7 0]) (some (oR 7 0)) q71 rfl rfl rfl (fun _ => rfl) rfl ?_
      refine g_p q71 1 10 [some (oR 0 0), some (vI a1), none] [vI a1, oR 7 0] rfl ?_
      refine g_cPI q71 rfl (g72 X a1 s) rfl rfl rfl rfl rfl (fun r3 => ?_)
      refine g_i1 q71 rfl rfl ?_ ?_
      ·
        exact g_wkJ [true, true, false] rfl (hj19 ())
      ·
        refine g_p q71 1 18 [some (oR 0 0), some (vI a1), none] [vI (-2)] rfl ?_
        exact g_ret q71 rfl rfl rfl
theorem q76 : am_cd 76 = am_c76 := rfl
theorem g76 (X : X2) (a1 : Int) (s : S2) (o : Option (AV R2) × S2) : J (f76 a1 s) (fun (r : Nat) => o = (some (oR 6 r), s)) (Go X 2 76 0 (am_loc (am_nl 76) [oR 7 0, vI a1]) [] s o) := by
  show J _ _ (Go X 2 76 0 [some (oR 7 0), some (vI a1), none] [] s o)
  unfold f76
  refine g_p q76 2 2 [some (oR 7 0), some (vI a1), none] [vI a1, oR 7 0] rfl ?_
  refine g_cPI q76 rfl (g72 X a1 s) rfl rfl rfl rfl rfl (fun r1 => ?_)
  refine g_jn (fun j21 => ∀ (x2 : Nat), J (j21 x2) (fun (r : Nat) => o = (some (oR 6 r), s)) (Go X 2 76 21 [some (oR 7 0), none, none] [oR 6 x2] s o)) ?_ (fun j21 hj21 => ?_)
  ·
    intro x2
    refine g_p q76 2 23 [some (oR 7 0), none, some (oR 6 x2)] [oR 6 x2] rfl ?_
    refine g_p q76 2 34 [some (oR 7 0), none, some (oR 6 x2)] [oR 6 x2] rfl ?_
    exact g_ret q76 rfl rfl rfl
  ·
    refine g_i1 q76 rfl rfl ?_ ?_
    ·
      refine g_p q76 1 18 [some (oR 7 0), some (vI a1), none] [oR 7 0] rfl ?_
      refine g_m (S := [oR 6 6]) (some (oR 6 6)) q76 rfl rfl rfl (fun _ => rfl) rfl ?_
      exact g_wkJ [true, false, false] rfl (hj21 6)
    ·
      refine g_p q76 1 9 [some (oR 7 0), some (vI a1), none] [oR 7 0] rfl ?_
      refine g_m (S := [aR 896 0]) (some (aR 896 0)) q76 rfl rfl rfl (fun _ => rfl) rfl ?_
      refine g_p q76 1 13 [some (oR 7 0), some (vI a1), none] [vI a1, aR 896 0] rfl ?_
      refine g_ldr q76 rfl rfl rfl rfl rfl (fun i4 => ?_)
      refine g_p q76 1 21 [some (oR 7 0), some (vI a1), none] [oR 6 i4] rfl ?_
      exact g_wkJ [true, false, false] rfl (hj21 i4)
theorem q77 : am_cd 77 = am_c77 := rfl
theorem g77 (X : X2) (a1 : Nat) (a2 : Nat) (a3 : Nat) (s : S2) (o : Option (AV R2) × S2) : J (f77 a1 a2 a3 s) (fun (r : S2) => o = (none, r)) (Go X 2 77 0 (am_loc (am_nl 77) [oR 9 0, oR 3 a1, oR 6 a2, oR 4 a3]) [] s o) := by
  show J _ _ (Go X 2 77 0 [some (oR 9 0), some (oR 3 a1), some (oR 6 a2), some (oR 4 a3)] [] s o)
  unfold f77
  refine g_p q77 2 2 [some (oR 9 0), some (oR 3 a1), some (oR 6 a2), some (oR 4 a3)] [oR 3 a1, oR 9 0] rfl ?_
  refine g_putr q77 rfl rfl rfl (fun _ => rfl) (fun s1 => ?_)
  refine g_p q77 2 7 [some (oR 9 0), some (oR 3 a1), some (oR 6 a2), some (oR 4 a3)] [oR 6 a2, oR 9 0] rfl ?_
  refine g_putr q77 rfl rfl rfl (fun _ => rfl) (fun s2 => ?_)
  refine g_p q77 1 11 [some (oR 9 0), some (oR 3 a1), some (oR 6 a2), some (oR 4 a3)] [oR 9 0] rfl ?_
  refine g_m (S := [oR 4 160]) (some (oR 4 160)) q77 rfl rfl rfl (fun _ => rfl) rfl ?_
  refine g_p q77 1 15 [some (oR 9 0), some (oR 3 a1), some (oR 6 a2), some (oR 4 a3)] [oR 4 a3, oR 4 160] rfl ?_
  refine g_cV q77 rfl (g58 X 160 a3 s2) rfl rfl rfl rfl rfl (fun s3 => ?_)
  exact g_retV q77 rfl rfl
theorem q75 : am_cd 75 = am_c75 := rfl
theorem g75 (X : X2) (s : S2) (o : Option (AV R2) × S2) : J (f75 s) (fun (r : S2) => o = (none, r)) (Go X 3 75 0 (am_loc (am_nl 75) [oR 0 0]) [] s o) := by
  show J _ _ (Go X 3 75 0 [some (oR 0 0)] [] s o)
  unfold f75
  refine g_p q75 1 1 [some (oR 0 0)] [oR 0 0] rfl ?_
  refine g_m (S := [oR 9 0]) (some (oR 9 0)) q75 rfl rfl rfl (fun _ => rfl) rfl ?_
  refine g_p q75 1 5 [some (oR 0 0)] [oR 0 0, oR 9 0] rfl ?_
  refine g_m (S := [oR 8 0, oR 9 0]) (some (oR 8 0)) q75 rfl rfl rfl (fun _ => rfl) rfl ?_
  refine g_m (S := [oR 3 0, oR 9 0]) (some (oR 3 0)) q75 rfl rfl rfl (fun _ => rfl) rfl ?_
  refine g_p q75 1 12 [some (oR 0 0)] [oR 0 0, oR 3 0, oR 9 0] rfl ?_
  refine g_m (S := [oR 7 0, oR 3 0, oR 9 0]) (some (oR 7 0)) q75 rfl rfl rfl (fun _ => rfl) rfl ?_
  refine g_p q75 1 16 [some (oR 0 0)] [oR 0 0, oR 7 0, oR 3 0, oR 9 0] rfl ?_
  refine g_m (S := [oR 8 0, oR 7 0, oR 3 0, oR 9 0]) (some (oR 8 0)) q75 rfl rfl rfl (fun _ => rfl) rfl ?_
  refine g_get q75 rfl rfl rfl (fun _ => rfl) (fun v1 => ?_)
  refine g_cPN q75 rfl (g76 X v1 s) rfl rfl rfl rfl rfl (fun r2 => ?_)
  refine g_p q75 1 26 [some (oR 0 0)] [oR 0 0, oR 6 r2, oR 3 0, oR 9 0] rfl ?_
  refine g_m (S := [oR 8 0, oR 6 r2, oR 3 0, oR 9 0]) (some (oR 8 0)) q75 rfl rfl rfl (fun _ => rfl) rfl ?_
  refine g_m (S := [oR 4 0, oR 6 r2, oR 3 0, oR 9 0]) (some (oR 4 0)) q75 rfl rfl rfl (fun _ => rfl) rfl ?_
  refine g_cV q75 rfl (g77 X 0 r2 0 s) rfl rfl rfl rfl rfl (fun s3 => ?_)
  exact g_retV q75 rfl rfl
theorem q79 : am_cd 79 = am_c79 := rfl
def H79_a (X : X2) (y1 : Nat) (y2 : Int) (s4 : S2) (o : Option (AV R2) × S2) (a : Int) : Prop := Go X 1 79 2 [some (oR 3 y1), some (vI y2), some (vI a)] [] s4 o
def E79_a (X : X2) (y1 : Nat) (y2 : Int) (s4 : S2) (o : Option (AV R2) × S2) : (Unit) ⊕ (Unit) → Prop := (am_kx (fun (r : Unit) => Go X 1 79 35 [none, none, none] [] s4 o) (fun (r : Unit) => Go X 1 79 43 [none, none, none] [] s4 o))
theorem g79_a (X : X2) (y1 : Nat) (y2 : Int) (x3 : Int) (s4 : S2) (o : Option (AV R2) × S2) : J (f79_a y1 y2 x3 s4) (am_kx (H79_a X y1 y2 s4 o) (E79_a X y1 y2 s4 o)) (Go X 1 79 2 [some (oR 3 y1), some (vI y2), some (vI x3)] [] s4 o) := by
  unfold f79_a
  refine g_p q79 2 4 [some (oR 3 y1), some (vI y2), some (vI x3)] [vI 3, vI x3] rfl ?_
  refine g_i2 q79 rfl rfl ?_ ?_
  ·
    exact g_end (fun h => g_wk [false, false, false] rfl h)
  ·
    refine g_p q79 2 9 [some (oR 3 y1), some (vI y2), some (vI x3)] [oR 3 y1, vI x3] rfl ?_
    refine g_get q79 rfl rfl rfl (fun _ => rfl) (fun v5 => ?_)
    refine g_i2 q79 rfl rfl ?_ ?_
    ·
      refine g_inc (fun v6 => [some (oR 3 y1), some (vI y2), some (vI v6)]) q79 rfl rfl (fun _ => rfl) (fun v6 => ?_)
      refine g_p q79 1 2 [some (oR 3 y1), some (vI y2), some (vI v6)] [] rfl ?_
      exact g_end (fun h => g_wk [true, true, true] rfl h)
    ·
      refine g_p q79 2 17 [some (oR 3 y1), some (vI y2), some (vI x3)] [oR 3 y1, vI y2] rfl ?_
      refine g_m (S := [aR 398 y1, vI y2]) (some (aR 398 y1)) q79 rfl rfl rfl (fun _ => rfl) rfl ?_
      refine g_p q79 1 21 [some (oR 3 y1), some (vI y2), some (vI x3)] [vI x3, aR 398 y1, vI y2] rfl ?_
      refine g_ld q79 rfl rfl rfl rfl rfl rfl (fun v7 => ?_)
      refine g_i2 q79 rfl rfl ?_ ?_
      ·
        refine g_inc (fun v8 => [some (oR 3 y1), some (vI y2), some (vI v8)]) q79 rfl rfl (fun _ => rfl) (fun v8 => ?_)
        refine g_p q79 1 2 [some (oR 3 y1), some (vI y2), some (vI v8)] [] rfl ?_
        exact g_end (fun h => g_wk [true, true, true] rfl h)
      ·
        refine g_p q79 2 27 [some (oR 3 y1), some (vI y2), some (vI x3)] [oR 3 y1, vI y2] rfl ?_
        refine g_m (S := [aR 399 y1, vI y2]) (some (aR 399 y1)) q79 rfl rfl rfl (fun _ => rfl) rfl ?_
        refine g_p q79 1 31 [some (oR 3 y1), some (vI y2), some (vI x3)] [vI x3, aR 399 y1, vI y2] rfl ?_
        refine g_ld q79 rfl rfl rfl rfl rfl rfl (fun v9 => ?_)
        refine g_i2 q79 rfl rfl ?_ ?_
        ·
          refine g_inc (fun v10 => [some (oR 3 y1), some (vI y2), some (vI v10)]) q79 rfl rfl (fun _ => rfl) (fun v10 => ?_)
          refine g_p q79 1 2 [some (oR 3 y1), some (vI y2), some (vI v10)] [] rfl ?_
          exact g_end (fun h => g_wk [true, true, true] rfl h)
        ·
          exact g_end (fun h => g_wk [false, false, false] rfl h)
theorem g79 (X : X2) (a0 : Nat) (a1 : Int) (s : S2) (o : Option (AV R2) × S2) : J (f79 a0 a1 s) (fun (r : Int) => o = (some (vI r), s)) (Go X 1 79 0 (am_loc (am_nl 79) [oR 3 a0, vI a1]) [] s o) := by
  show J _ _ (Go X 1 79 0 [some (oR 3 a0), some (vI a1), none] [] s o)
  unfold f79
  refine g_p q79 2 2 [some (oR 3 a0), some (vI a1), some (vI 0)] [] rfl ?_
  refine g_wkJ [true, true, true] (L0 := [some (oR 3 a0), some (vI a1), some (vI 0)]) rfl ?_
  refine g_itr (H79_a X a0 a1 s o) (E79_a X a0 a1 s o) (fun x3 => g79_a X a0 a1 x3 s o) ?_
  refine g_se ?_ ?_
  ·
    intro _
    show J _ _ (Go X 1 79 35 [none, none, none] [] s o)
    refine g_p q79 1 36 [none, none, none] [vI 1] rfl ?_
    exact g_ret q79 rfl rfl rfl
  ·
    intro _
    show J _ _ (Go X 1 79 43 [none, none, none] [] s o)
    refine g_p q79 1 44 [none, none, none] [vI 0] rfl ?_
    exact g_ret q79 rfl rfl rfl
theorem q80 : am_cd 80 = am_c80 := rfl
theorem g80 (X : X2) (a1 : Int) (a2 : Int) (a3 : Int) (s : S2) (o : Option (AV R2) × S2) : J (f80 a1 a2 a3 s) (fun (r : S2) => o = (none, r)) (Go X 1 80 0 (am_loc (am_nl 80) [oR 9 0, vI a1, vI a2, vI a3]) [] s o) := by
  show J _ _ (Go X 1 80 0 [some (oR 9 0), some (vI a1), some (vI a2), some (vI a3)] [] s o)
  unfold f80
  refine g_p q80 1 1 [some (oR 9 0), some (vI a1), some (vI a2), some (vI a3)] [vI a1] rfl ?_
  refine g_i1 q80 rfl rfl ?_ ?_
  ·
    exact g_retV q80 rfl rfl
  ·
    refine g_p q80 2 7 [some (oR 9 0), some (vI a1), some (vI a2), some (vI a3)] [vI 24, vI a1] rfl ?_
    refine g_i2 q80 rfl rfl ?_ ?_
    ·
      exact g_retV q80 rfl rfl
    ·
      refine g_p q80 1 11 [some (oR 9 0), some (vI a1), some (vI a2), some (vI a3)] [oR 9 0] rfl ?_
      refine g_m (S := [aR 1156 0]) (some (aR 1156 0)) q80 rfl rfl rfl (fun _ => rfl) rfl ?_
      refine g_p q80 2 16 [some (oR 9 0), some (vI a1), some (vI a2), some (vI a3)] [vI a1, aR 1156 0, vI a1, aR 1156 0] rfl ?_
      refine g_ld q80 rfl rfl rfl rfl rfl rfl (fun v1 => ?_)
      refine g_p q80 2 19 [some (oR 9 0), some (vI a1), some (vI a2), some (vI a3)] [vI (jadd v1 a2), vI a1, aR 1156 0] rfl ?_
      refine g_sto q80 rfl rfl rfl rfl (fun s2 => ?_)
      refine g_p q80 1 21 [some (oR 9 0), some (vI a1), some (vI a2), some (vI a3)] [oR 9 0] rfl ?_
      refine g_m (S := [aR 1157 0]) (some (aR 1157 0)) q80 rfl rfl rfl (fun _ => rfl) rfl ?_
      refine g_p q80 2 26 [some (oR 9 0), some (vI a1), some (vI a2), some (vI a3)] [vI a1, aR 1157 0, vI a1, aR 1157 0] rfl ?_
      refine g_ld q80 rfl rfl rfl rfl rfl rfl (fun v3 => ?_)
      refine g_p q80 1 28 [some (oR 9 0), some (vI a1), some (vI a2), some (vI a3)] [vI a3, vI v3, vI a1, aR 1157 0] rfl ?_
      refine g_jn (fun j36 => ∀ (x4 : Int), J (j36 x4) (fun (r : S2) => o = (none, r)) (Go X 1 80 36 [some (oR 9 0), some (vI a1), none, some (vI a3)] [vI x4, vI v3, vI a1, aR 1157 0] s2 o)) ?_ (fun j36 hj36 => ?_)
      ·
        intro x4
        refine g_p q80 1 37 [some (oR 9 0), some (vI a1), none, some (vI a3)] [vI (jadd v3 x4), vI a1, aR 1157 0] rfl ?_
        refine g_sto q80 rfl rfl rfl rfl (fun s5 => ?_)
        refine g_p q80 1 39 [some (oR 9 0), some (vI a1), none, some (vI a3)] [oR 9 0] rfl ?_
        refine g_m (S := [aR 1158 0]) (some (aR 1158 0)) q80 rfl rfl rfl (fun _ => rfl) rfl ?_
        refine g_p q80 2 44 [some (oR 9 0), some (vI a1), none, some (vI a3)] [oR 9 0, vI a1, aR 1158 0] rfl ?_
        refine g_m (S := [aR 1158 0, vI a1, aR 1158 0]) (some (aR 1158 0)) q80 rfl rfl rfl (fun _ => rfl) rfl ?_
        refine g_p q80 1 48 [some (oR 9 0), some (vI a1), none, some (vI a3)] [vI a1, aR 1158 0, vI a1, aR 1158 0] rfl ?_
        refine g_ld q80 rfl rfl rfl rfl rfl rfl (fun v6 => ?_)
        refine g_p q80 1 50 [some (oR 9 0), some (vI a1), none, some (vI a3)] [vI a3, vI v6, vI a1, aR 1158 0] rfl ?_
        refine g_m (S := [vI (jmax v6 a3), vI a1, aR 1158 0]) (some (vI (jmax v6 a3))) q80 rfl rfl rfl (fun _ => rfl) rfl ?_
        refine g_sto q80 rfl rfl rfl rfl (fun s7 => ?_)
        refine g_p q80 1 55 [some (oR 9 0), some (vI a1), none, some (vI a3)] [oR 9 0] rfl ?_
        refine g_m (S := [aR 1159 0]) (some (aR 1159 0)) q80 rfl rfl rfl (fun _ => rfl) rfl ?_
        refine g_p q80 2 60 [some (oR 9 0), some (vI a1), none, some (vI a3)] [vI a1, aR 1159 0, vI a1, aR 1159 0] rfl ?_
        refine g_ld q80 rfl rfl rfl rfl rfl rfl (fun v8 => ?_)
        refine g_p q80 2 63 [some (oR 9 0), some (vI a1), none, some (vI a3)] [vI (jadd v8 a3), vI a1, aR 1159 0] rfl ?_
        refine g_sto q80 rfl rfl rfl rfl (fun s9 => ?_)
        exact g_retV q80 rfl rfl
      ·
        refine g_i1 q80 rfl rfl ?_ ?_
        ·
          refine g_p q80 1 36 [some (oR 9 0), some (vI a1), some (vI a2), some (vI a3)] [vI 0, vI v3, vI a1, aR 1157 0] rfl ?_
          exact g_wkJ [true, true, false, true] rfl (hj36 0)
        ·
          refine g_p q80 2 36 [some (oR 9 0), some (vI a1), some (vI a2), some (vI a3)] [vI a2, vI v3, vI a1, aR 1157 0] rfl ?_
          exact g_wkJ [true, true, false, true] rfl (hj36 a2)
theorem q78 : am_cd 78 = am_c78 := rfl
def H78_a (X : X2) (o : Option (AV R2) × S2) (a : Int × S2) : Prop := Go X 2 78 32 [some (oR 9 0), none, some (vI (a.1)), none, none] [] (a.2) o
def E78_a (X : X2) (o : Option (AV R2) × S2) : (S2) → Prop := (fun (r : S2) => Go X 2 78 72 [some (oR 9 0), none, none, none, none] [] r o)
set_option maxRecDepth 20000 in
theorem g78_a (X : X2) (x3 : Int) (s4 : S2) (o : Option (AV R2) × S2) : J (f78_a x3 s4) (am_kx (H78_a X o) (E78_a X o)) (Go X 2 78 32 [some (oR 9 0), none, some (vI x3), none, none] [] s4 o) := by
  unfold f78_a
  refine g_p q78 2 35 [some (oR 9 0), none, some (vI x3), none, none] [vI 24, vI x3] rfl ?_
  refine g_i2 q78 rfl rfl ?_ ?_
  ·
    exact g_end (fun h => g_wk [true, false, false, false, false] rfl h)
  ·
    refine g_p q78 1 39 [some (oR 9 0), none, some (vI x3), none, none] [oR 9 0] rfl ?_
    refine g_m (S := [aR 1156 0]) (some (aR 1156 0)) q78 rfl rfl rfl (fun _ => rfl) rfl ?_
    refine g_p q78 2 44 [some (oR 9 0), none, some (vI x3), none, none] [vI 0, vI x3, aR 1156 0] rfl ?_
    refine g_sto q78 rfl rfl rfl rfl (fun s5 => ?_)
    refine g_p q78 1 46 [some (oR 9 0), none, some (vI x3), none, none] [oR 9 0] rfl ?_
    refine g_m (S := [aR 1157 0]) (some (aR 1157 0)) q78 rfl rfl rfl (fun _ => rfl) rfl ?_
    refine g_p q78 2 51 [some (oR 9 0), none, some (vI x3), none, none] [vI 0, vI x3, aR 1157 0] rfl ?_
    refine g_sto q78 rfl rfl rfl rfl (fun s6 => ?_)
    refine g_p q78 1 53 [some (oR 9 0), none, some (vI x3), none, none] [oR 9 0] rfl ?_
    refine g_m (S := [aR 1158 0]) (some (aR 1158 0)) q78 rfl rfl rfl (fun _ => rfl) rfl ?_
    refine g_p q78 2 58 [some (oR 9 0), none, some (vI x3), none, none] [vI 0, vI x3, aR 1158 0] rfl ?_
    refine g_sto q78 rfl rfl rfl rfl (fun s7 => ?_)
    refine g_p q78 1 60 [some (oR 9 0), none, some (vI x3), none, none] [oR 9 0] rfl ?_
    refine g_m (S := [aR 1159 0]) (some (aR 1159 0)) q78 rfl rfl rfl (fun _ => rfl) rfl ?_
    refine g_p q78 2 65 [some (oR 9 0), none, some (vI x3), none, none] [vI 0, vI x3, aR 1159 0] rfl ?_
    refine g_sto q78 rfl rfl rfl rfl (fun s8 => ?_)
    refine g_inc (fun v9 => [some (oR 9 0), none, some (vI v9), none, none]) q78 rfl rfl (fun _ => rfl) (fun v9 => ?_)
    refine g_p q78 1 32 [some (oR 9 0), none, some (vI v9), none, none] [] rfl ?_
    exact g_end (fun h => g_wk [true, false, true, false, false] rfl h)
def H78_b (X : X2) (o : Option (AV R2) × S2) (a : Int × S2) : Prop := Go X 2 78 74 [some (oR 9 0), none, some (vI (a.1)), none, none] [] (a.2) o
def E78_b (X : X2) (o : Option (AV R2) × S2) : (S2) → Prop := (fun (r : S2) => Go X 2 78 93 [some (oR 9 0), none, none, none, none] [] r o)
set_option maxRecDepth 20000 in
theorem g78_b (X : X2) (x11 : Int) (s12 : S2) (o : Option (AV R2) × S2) : J (f78_b x11 s12) (am_kx (H78_b X o) (E78_b X o)) (Go X 2 78 74 [some (oR 9 0), none, some (vI x11), none, none] [] s12 o) := by
  unfold f78_b
  refine g_p q78 2 77 [some (oR 9 0), none, some (vI x11), none, none] [vI 6, vI x11] rfl ?_
  refine g_i2 q78 rfl rfl ?_ ?_
  ·
    exact g_end (fun h => g_wk [true, false, false, false, false] rfl h)
  ·
    refine g_p q78 1 81 [some (oR 9 0), none, some (vI x11), none, none] [oR 9 0] rfl ?_
    refine g_m (S := [aR 1160 0]) (some (aR 1160 0)) q78 rfl rfl rfl (fun _ => rfl) rfl ?_
    refine g_p q78 2 86 [some (oR 9 0), none, some (vI x11), none, none] [vI 0, vI x11, aR 1160 0] rfl ?_
    refine g_sto q78 rfl rfl rfl rfl (fun s13 => ?_)
    refine g_inc (fun v14 => [some (oR 9 0), none, some (vI v14), none, none]) q78 rfl rfl (fun _ => rfl) (fun v14 => ?_)
    refine g_p q78 1 74 [some (oR 9 0), none, some (vI v14), none, none] [] rfl ?_
    exact g_end (fun h => g_wk [true, false, true, false, false] rfl h)
def H78_c (X : X2) (o : Option (AV R2) × S2) (a : Int × S2) : Prop := Go X 2 78 95 [some (oR 9 0), none, some (vI (a.1)), none, none] [] (a.2) o
def E78_c (X : X2) (o : Option (AV R2) × S2) : (S2) → Prop := (fun (r : S2) => Go X 2 78 198 [none, none, none, none, none] [] r o)
set_option maxRecDepth 20000 in
theorem g78_c (X : X2) (x16 : Int) (s17 : S2) (o : Option (AV R2) × S2) : J (f78_c x16 s17) (am_kx (H78_c X o) (E78_c X o)) (Go X 2 78 95 [some (oR 9 0), none, some (vI x16), none, none] [] s17 o) := by
  unfold f78_c
  refine g_p q78 2 98 [some (oR 9 0), none, some (vI x16), none, none] [vI 10, vI x16] rfl ?_
  refine g_i2 q78 rfl rfl ?_ ?_
  ·
    exact g_end (fun h => g_wk [false, false, false, false, false] rfl h)
  ·
    refine g_p q78 1 102 [some (oR 9 0), none, some (vI x16), none, none] [oR 9 0] rfl ?_
    refine g_m (S := [oR 4 160]) (some (oR 4 160)) q78 rfl rfl rfl (fun _ => rfl) rfl ?_
    refine g_m (S := [aR 515 160]) (some (aR 515 160)) q78 rfl rfl rfl (fun _ => rfl) rfl ?_
    refine g_p q78 1 109 [some (oR 9 0), none, some (vI x16), none, none] [vI x16, aR 515 160] rfl ?_
    refine g_ld q78 rfl rfl rfl rfl rfl rfl (fun v18 => ?_)
    refine g_p q78 2 112 [some (oR 9 0), none, some (vI x16), some (vI v18), none] [oR 9 0] rfl ?_
    refine g_dyn q78 rfl rfl rfl (fun _ => rfl) (fun i19 => ?_)
    refine g_m (S := [aR 395 i19]) (some (aR 395 i19)) q78 rfl rfl rfl (fun _ => rfl) rfl ?_
    refine g_p q78 1 119 [some (oR 9 0), none, some (vI x16), some (vI v18), none] [vI x16, aR 395 i19] rfl ?_
    refine g_ld q78 rfl rfl rfl rfl rfl rfl (fun v20 => ?_)
    refine g_p q78 2 123 [some (oR 9 0), none, some (vI x16), some (vI v18), some (vI v20)] [oR 9 0] rfl ?_
    refine g_dyn q78 rfl rfl rfl (fun _ => rfl) (fun i21 => ?_)
    refine g_p q78 1 127 [some (oR 9 0), none, some (vI x16), some (vI v18), some (vI v20)] [vI v18, oR 3 i21] rfl ?_
    refine g_cPI q78 rfl (g50 X i21 v18 s17) rfl rfl rfl rfl rfl (fun r22 => ?_)
    refine g_i1 q78 rfl rfl ?_ ?_
    ·
      refine g_inc (fun v23 => [some (oR 9 0), none, some (vI v23), some (vI v18), some (vI v20)]) q78 rfl rfl (fun _ => rfl) (fun v23 => ?_)
      refine g_p q78 1 95 [some (oR 9 0), none, some (vI v23), some (vI v18), some (vI v20)] [] rfl ?_
      exact g_end (fun h => g_wk [true, false, true, false, false] rfl h)
    ·
      refine g_p q78 1 134 [some (oR 9 0), none, some (vI x16), some (vI v18), some (vI v20)] [oR 9 0] rfl ?_
      refine g_dyn q78 rfl rfl rfl (fun _ => rfl) (fun i24 => ?_)
      refine g_p q78 1 139 [some (oR 9 0), none, some (vI x16), some (vI v18), some (vI v20)] [vI v20, oR 3 i24] rfl ?_
      refine g_cPI q78 rfl (g51 X i24 v20 s17) rfl rfl rfl rfl rfl (fun r25 => ?_)
      refine g_i1 q78 rfl rfl ?_ ?_
      ·
        refine g_inc (fun v26 => [some (oR 9 0), none, some (vI v26), some (vI v18), some (vI v20)]) q78 rfl rfl (fun _ => rfl) (fun v26 => ?_)
        refine g_p q78 1 95 [some (oR 9 0), none, some (vI v26), some (vI v18), some (vI v20)] [] rfl ?_
        exact g_end (fun h => g_wk [true, false, true, false, false] rfl h)
      ·
        refine g_p q78 7 154 [some (oR 9 0), none, some (vI x16), some (vI v18), some (vI v20)] [oR 9 0, vI (jadd (jmul v20 6) v18), oR 9 0] rfl ?_
        refine g_dyn q78 rfl rfl rfl (fun _ => rfl) (fun i27 => ?_)
        refine g_m (S := [aR 396 i27, vI (jadd (jmul v20 6) v18), oR 9 0]) (some (aR 396 i27)) q78 rfl rfl rfl (fun _ => rfl) rfl ?_
        refine g_p q78 1 161 [some (oR 9 0), none, some (vI x16), some (vI v18), some (vI v20)] [vI x16, aR 396 i27, vI (jadd (jmul v20 6) v18), oR 9 0] rfl ?_
        refine g_ld q78 rfl rfl rfl rfl rfl rfl (fun v28 => ?_)
        refine g_p q78 1 163 [some (oR 9 0), none, some (vI x16), some (vI v18), some (vI v20)] [oR 9 0, vI v28, vI (jadd (jmul v20 6) v18), oR 9 0] rfl ?_
        refine g_m (S := [oR 4 160, vI v28, vI (jadd (jmul v20 6) v18), oR 9 0]) (some (oR 4 160)) q78 rfl rfl rfl (fun _ => rfl) rfl ?_
        refine g_m (S := [aR 516 160, vI v28, vI (jadd (jmul v20 6) v18), oR 9 0]) (some (aR 516 160)) q78 rfl rfl rfl (fun _ => rfl) rfl ?_
        refine g_p q78 1 170 [some (oR 9 0), none, some (vI x16), some (vI v18), some (vI v20)] [vI x16, aR 516 160, vI v28, vI (jadd (jmul v20 6) v18), oR 9 0] rfl ?_
        refine g_ld q78 rfl rfl rfl rfl rfl rfl (fun v29 => ?_)
        refine g_cV q78 rfl (g80 X (jadd (jmul v20 6) v18) v28 v29 s17) rfl rfl rfl rfl rfl (fun s30 => ?_)
        refine g_p q78 1 175 [some (oR 9 0), none, some (vI x16), some (vI v18), some (vI v20)] [oR 9 0] rfl ?_
        refine g_m (S := [aR 1160 0]) (some (aR 1160 0)) q78 rfl rfl rfl (fun _ => rfl) rfl ?_
        refine g_p q78 2 180 [some (oR 9 0), none, some (vI x16), some (vI v18), some (vI v20)] [vI v18, aR 1160 0, vI v18, aR 1160 0] rfl ?_
        refine g_ld q78 rfl rfl rfl rfl rfl rfl (fun v31 => ?_)
        refine g_p q78 1 182 [some (oR 9 0), none, some (vI x16), some (vI v18), some (vI v20)] [oR 9 0, vI v31, vI v18, aR 1160 0] rfl ?_
        refine g_dyn q78 rfl rfl rfl (fun _ => rfl) (fun i32 => ?_)
        refine g_m (S := [aR 396 i32, vI v31, vI v18, aR 1160 0]) (some (aR 396 i32)) q78 rfl rfl rfl (fun _ => rfl) rfl ?_
        refine g_p q78 1 189 [some (oR 9 0), none, some (vI x16), some (vI v18), some (vI v20)] [vI x16, aR 396 i32, vI v31, vI v18, aR 1160 0] rfl ?_
        refine g_ld q78 rfl rfl rfl rfl rfl rfl (fun v33 => ?_)
        refine g_p q78 1 191 [some (oR 9 0), none, some (vI x16), some (vI v18), some (vI v20)] [vI (jadd v31 v33), vI v18, aR 1160 0] rfl ?_
        refine g_sto q78 rfl rfl rfl rfl (fun s34 => ?_)
        refine g_inc (fun v35 => [some (oR 9 0), none, some (vI v35), some (vI v18), some (vI v20)]) q78 rfl rfl (fun _ => rfl) (fun v35 => ?_)
        refine g_p q78 1 95 [some (oR 9 0), none, some (vI v35), some (vI v18), some (vI v20)] [] rfl ?_
        exact g_end (fun h => g_wk [true, false, true, false, false] rfl h)
set_option maxRecDepth 20000 in
theorem g78 (X : X2) (a1 : Int) (s : S2) (o : Option (AV R2) × S2) : J (f78 a1 s) (fun (r : S2) => o = (none, r)) (Go X 2 78 0 (am_loc (am_nl 78) [oR 9 0, vI a1]) [] s o) := by
  show J _ _ (Go X 2 78 0 [some (oR 9 0), some (vI a1), none, none, none] [] s o)
  unfold f78
  refine g_p q78 2 2 [some (oR 9 0), some (vI a1), none, none, none] [vI a1, oR 9 0] rfl ?_
  refine g_jn (fun j27 => ∀ (x1 : Int), J (j27 x1) (fun (r : S2) => o = (none, r)) (Go X 2 78 27 [some (oR 9 0), none, none, none, none] [vI x1, oR 9 0] s o)) ?_ (fun j27 hj27 => ?_)
  ·
    intro x1
    refine g_putb q78 rfl rfl rfl (fun _ h => if_pos h) (fun s2 => ?_)
    refine g_p q78 2 32 [some (oR 9 0), none, some (vI 0), none, none] [] rfl ?_
    refine g_wkJ [true, false, true, false, false] (L0 := [some (oR 9 0), none, some (vI 0), none, none]) rfl ?_
    refine g_itr (H78_a X o) (E78_a X o) (fun | (x3, s4) => g78_a X x3 s4 o) ?_
    intro s10
    show J _ _ (Go X 2 78 72 [some (oR 9 0), none, none, none, none] [] s10 o)
    refine g_p q78 2 74 [some (oR 9 0), none, some (vI 0), none, none] [] rfl ?_
    refine g_wkJ [true, false, true, false, false] (L0 := [some (oR 9 0), none, some (vI 0), none, none]) rfl ?_
    refine g_itr (H78_b X o) (E78_b X o) (fun | (x11, s12) => g78_b X x11 s12 o) ?_
    intro s15
    show J _ _ (Go X 2 78 93 [some (oR 9 0), none, none, none, none] [] s15 o)
    refine g_p q78 2 95 [some (oR 9 0), none, some (vI 0), none, none] [] rfl ?_
    refine g_wkJ [true, false, true, false, false] (L0 := [some (oR 9 0), none, some (vI 0), none, none]) rfl ?_
    refine g_itr (H78_c X o) (E78_c X o) (fun | (x16, s17) => g78_c X x16 s17 o) ?_
    intro s36
    show J _ _ (Go X 2 78 198 [none, none, none, none, none] [] s36 o)
    exact g_retV q78 rfl rfl
  ·
    refine g_jn (fun j22 => ∀ (_ : Unit), J (j22 ()) (fun (r : S2) => o = (none, r)) (Go X 2 78 22 [some (oR 9 0), none, none, none, none] [oR 9 0] s o)) ?_ (fun j22 hj22 => ?_)
    ·
      intro _
      refine g_p q78 2 27 [some (oR 9 0), none, none, none, none] [vI 1, oR 9 0] rfl ?_
      exact g_wkJ [true, false, false, false, false] rfl (hj27 1)
    ·
      refine g_i1 q78 rfl rfl ?_ ?_
      ·
        exact g_wkJ [true, false, false, false, false] rfl (hj22 ())
      ·
        refine g_p q78 1 6 [some (oR 9 0), some (vI a1), none, none, none] [oR 9 0, oR 9 0] rfl ?_
        refine g_dyn q78 rfl rfl rfl (fun _ => rfl) (fun i37 => ?_)
        refine g_p q78 1 10 [some (oR 9 0), some (vI a1), none, none, none] [oR 9 0, oR 3 i37, oR 9 0] rfl ?_
        refine g_m (S := [oR 4 160, oR 3 i37, oR 9 0]) (some (oR 4 160)) q78 rfl rfl rfl (fun _ => rfl) rfl ?_
        refine g_get q78 rfl rfl rfl (fun _ => rfl) (fun v38 => ?_)
        refine g_cPI q78 rfl (g79 X i37 v38 s) rfl rfl rfl rfl rfl (fun r39 => ?_)
        refine g_i1 q78 rfl rfl ?_ ?_
        ·
          refine g_p q78 1 27 [some (oR 9 0), some (vI a1), none, none, none] [vI 0, oR 9 0] rfl ?_
          exact g_wkJ [true, false, false, false, false] rfl (hj27 0)
        ·
          exact g_wkJ [true, false, false, false, false] rfl (hj22 ())
theorem q83 : am_cd 83 = am_c83 := rfl
theorem g83 (X : X2) (a0 : Nat) (a1 : Int) (s : S2) (o : Option (AV R2) × S2) : J (f83 a0 a1 s) (fun (r : S2) => o = (none, r)) (Go X 1 83 0 (am_loc (am_nl 83) [oR 6 a0, vL a1]) [] s o) := by
  show J _ _ (Go X 1 83 0 [some (oR 6 a0), some (vL a1), none] [] s o)
  unfold f83
  refine g_p q83 1 1 [some (oR 6 a0), some (vL a1), none] [oR 6 a0] rfl ?_
  refine g_get q83 rfl rfl rfl (fun _ => rfl) (fun v1 => ?_)
  refine g_i1 q83 rfl rfl ?_ ?_
  ·
    exact g_retV q83 rfl rfl
  ·
    refine g_p q83 1 8 [some (oR 6 a0), some (vL a1), none] [oR 6 a0] rfl ?_
    refine g_get q83 rfl rfl rfl (fun _ => rfl) (fun v2 => ?_)
    refine g_p q83 1 12 [some (oR 6 a0), some (vL a1), none] [oR 6 a0, vI v2] rfl ?_
    refine g_m (S := [aR 770 a0, vI v2]) (some (aR 770 a0)) q83 rfl rfl rfl (fun _ => rfl) rfl ?_
    refine g_m (S := [vI 64, vI v2]) (some (vI 64)) q83 rfl rfl rfl (fun _ => rfl) rfl ?_
    refine g_i2 q83 rfl rfl ?_ ?_
    ·
      exact g_retV q83 rfl rfl
    ·
      refine g_p q83 1 20 [some (oR 6 a0), some (vL a1), none] [oR 6 a0] rfl ?_
      refine g_m (S := [aR 770 a0]) (some (aR 770 a0)) q83 rfl rfl rfl (fun _ => rfl) rfl ?_
      refine g_p q83 1 24 [some (oR 6 a0), some (vL a1), none] [oR 6 a0, aR 770 a0] rfl ?_
      refine g_get q83 rfl rfl rfl (fun _ => rfl) (fun v3 => ?_)
      refine g_p q83 1 28 [some (oR 6 a0), some (vL a1), none] [vL a1, vI v3, aR 770 a0] rfl ?_
      refine g_stol q83 rfl rfl rfl rfl (fun s4 => ?_)
      refine g_p q83 2 31 [some (oR 6 a0), some (vL a1), none] [oR 6 a0, oR 6 a0] rfl ?_
      refine g_get q83 rfl rfl rfl (fun _ => rfl) (fun v5 => ?_)
      refine g_p q83 2 36 [some (oR 6 a0), some (vL a1), none] [vI (jadd v5 1), oR 6 a0] rfl ?_
      refine g_put q83 rfl rfl rfl (fun _ => rfl) (fun s6 => ?_)
      exact g_retV q83 rfl rfl
theorem q84 : am_cd 84 = am_c84 := rfl
theorem g84 (X : X2) (a1 : Int) (a2 : Int) (a3 : Int) (s : S2) (o : Option (AV R2) × S2) : J (f84 a1 a2 a3 s) (fun (r : Int) => o = (some (vL r), s)) (Go X 1 84 0 (am_loc (am_nl 84) [oR 9 0, vI a1, vI a2, vI a3]) [] s o) := by
  show J _ _ (Go X 1 84 0 [some (oR 9 0), some (vI a1), some (vI a2), some (vI a3), none] [] s o)
  unfold f84
  refine g_p q84 1 1 [some (oR 9 0), some (vI a1), some (vI a2), some (vI a3), none] [vI a2] rfl ?_
  refine g_i1 q84 rfl rfl ?_ ?_
  ·
    refine g_p q84 1 20 [some (oR 9 0), some (vI a1), some (vI a2), some (vI a3), none] [vL 0] rfl ?_
    exact g_ret q84 rfl rfl rfl
  ·
    refine g_p q84 2 6 [some (oR 9 0), some (vI a1), some (vI a2), some (vI a3), none] [vI 4, vI a2] rfl ?_
    refine g_i2 q84 rfl rfl ?_ ?_
    ·
      refine g_p q84 1 20 [some (oR 9 0), some (vI a1), some (vI a2), some (vI a3), none] [vL 0] rfl ?_
      exact g_ret q84 rfl rfl rfl
    ·
      refine g_p q84 1 10 [some (oR 9 0), some (vI a1), some (vI a2), some (vI a3), none] [vI a3] rfl ?_
      refine g_i1 q84 rfl rfl ?_ ?_
      ·
        refine g_p q84 1 20 [some (oR 9 0), some (vI a1), some (vI a2), some (vI a3), none] [vL 0] rfl ?_
        exact g_ret q84 rfl rfl rfl
      ·
        refine g_p q84 2 16 [some (oR 9 0), some (vI a1), some (vI a2), some (vI a3), none] [vI 6, vI a3] rfl ?_
        refine g_i2 q84 rfl rfl ?_ ?_
        ·
          refine g_p q84 5 27 [some (oR 9 0), some (vI a1), some (vI a2), some (vI a3), none] [vI (jadd (jmul a2 6) a3)] rfl ?_
          refine g_top (fun v1 => ?_)
          refine g_p q84 2 30 [some (oR 9 0), some (vI a1), some (vI a2), some (vI a3), some (vI v1)] [vI a1] rfl ?_
          refine g_sw q84 rfl ?_
          refine g_swc ?_ ?_
          ·
            refine g_p q84 2 98 [some (oR 9 0), some (vI a1), some (vI a2), some (vI a3), some (vI v1)] [vL (ji2l a2)] rfl ?_
            refine g_topl (fun v2 => ?_)
            exact g_ret q84 rfl rfl rfl
          ·
            refine g_swc ?_ ?_
            ·
              refine g_p q84 2 101 [some (oR 9 0), some (vI a1), some (vI a2), some (vI a3), some (vI v1)] [vL (ji2l a3)] rfl ?_
              refine g_topl (fun v3 => ?_)
              exact g_ret q84 rfl rfl rfl
            ·
              refine g_swc ?_ ?_
              ·
                refine g_p q84 1 103 [some (oR 9 0), some (vI a1), some (vI a2), some (vI a3), some (vI v1)] [oR 9 0] rfl ?_
                refine g_dyn q84 rfl rfl rfl (fun _ => rfl) (fun i4 => ?_)
                refine g_m (S := [aR 393 i4]) (some (aR 393 i4)) q84 rfl rfl rfl (fun _ => rfl) rfl ?_
                refine g_p q84 1 110 [some (oR 9 0), some (vI a1), some (vI a2), some (vI a3), some (vI v1)] [vI a3, aR 393 i4] rfl ?_
                refine g_ld q84 rfl rfl rfl rfl rfl rfl (fun v5 => ?_)
                refine g_p q84 1 112 [some (oR 9 0), some (vI a1), some (vI a2), some (vI a3), some (vI v1)] [vL (ji2l v5)] rfl ?_
                refine g_topl (fun v6 => ?_)
                exact g_ret q84 rfl rfl rfl
              ·
                refine g_swc ?_ ?_
                ·
                  refine g_p q84 1 114 [some (oR 9 0), some (vI a1), some (vI a2), some (vI a3), some (vI v1)] [oR 9 0] rfl ?_
                  refine g_m (S := [aR 1156 0]) (some (aR 1156 0)) q84 rfl rfl rfl (fun _ => rfl) rfl ?_
                  refine g_p q84 1 119 [some (oR 9 0), some (vI a1), some (vI a2), some (vI a3), some (vI v1)] [vI v1, aR 1156 0] rfl ?_
                  refine g_ld q84 rfl rfl rfl rfl rfl rfl (fun v7 => ?_)
                  refine g_p q84 1 121 [some (oR 9 0), some (vI a1), some (vI a2), some (vI a3), some (vI v1)] [vL (ji2l v7)] rfl ?_
                  refine g_topl (fun v8 => ?_)
                  exact g_ret q84 rfl rfl rfl
                ·
                  refine g_swc ?_ ?_
                  ·
                    refine g_p q84 1 123 [some (oR 9 0), some (vI a1), some (vI a2), some (vI a3), some (vI v1)] [oR 9 0] rfl ?_
                    refine g_m (S := [aR 1157 0]) (some (aR 1157 0)) q84 rfl rfl rfl (fun _ => rfl) rfl ?_
                    refine g_p q84 1 128 [some (oR 9 0), some (vI a1), some (vI a2), some (vI a3), some (vI v1)] [vI v1, aR 1157 0] rfl ?_
                    refine g_ld q84 rfl rfl rfl rfl rfl rfl (fun v9 => ?_)
                    refine g_p q84 1 130 [some (oR 9 0), some (vI a1), some (vI a2), some (vI a3), some (vI v1)] [vL (ji2l v9)] rfl ?_
                    refine g_topl (fun v10 => ?_)
                    exact g_ret q84 rfl rfl rfl
                  ·
                    refine g_swc ?_ ?_
                    ·
                      refine g_p q84 1 132 [some (oR 9 0), some (vI a1), some (vI a2), some (vI a3), some (vI v1)] [oR 9 0] rfl ?_
                      refine g_m (S := [aR 1158 0]) (some (aR 1158 0)) q84 rfl rfl rfl (fun _ => rfl) rfl ?_
                      refine g_p q84 1 137 [some (oR 9 0), some (vI a1), some (vI a2), some (vI a3), some (vI v1)] [vI v1, aR 1158 0] rfl ?_
                      refine g_ld q84 rfl rfl rfl rfl rfl rfl (fun v11 => ?_)
                      refine g_p q84 1 139 [some (oR 9 0), some (vI a1), some (vI a2), some (vI a3), some (vI v1)] [vL (ji2l v11)] rfl ?_
                      refine g_topl (fun v12 => ?_)
                      exact g_ret q84 rfl rfl rfl
                    ·
                      refine g_swc ?_ ?_
                      ·
                        refine g_p q84 1 141 [some (oR 9 0), some (vI a1), some (vI a2), some (vI a3), some (vI v1)] [oR 9 0] rfl ?_
                        refine g_m (S := [aR 1159 0]) (some (aR 1159 0)) q84 rfl rfl rfl (fun _ => rfl) rfl ?_
                        refine g_p q84 1 146 [some (oR 9 0), some (vI a1), some (vI a2), some (vI a3), some (vI v1)] [vI v1, aR 1159 0] rfl ?_
                        refine g_ld q84 rfl rfl rfl rfl rfl rfl (fun v13 => ?_)
                        refine g_p q84 1 148 [some (oR 9 0), some (vI a1), some (vI a2), some (vI a3), some (vI v1)] [vL (ji2l v13)] rfl ?_
                        refine g_topl (fun v14 => ?_)
                        exact g_ret q84 rfl rfl rfl
                      ·
                        refine g_swc ?_ ?_
                        ·
                          refine g_p q84 1 150 [some (oR 9 0), some (vI a1), some (vI a2), some (vI a3), some (vI v1)] [oR 9 0] rfl ?_
                          refine g_m (S := [aR 1160 0]) (some (aR 1160 0)) q84 rfl rfl rfl (fun _ => rfl) rfl ?_
                          refine g_p q84 1 154 [some (oR 9 0), some (vI a1), some (vI a2), some (vI a3), some (vI v1)] [vI a3, aR 1160 0] rfl ?_
                          refine g_ld q84 rfl rfl rfl rfl rfl rfl (fun v15 => ?_)
                          refine g_p q84 1 156 [some (oR 9 0), some (vI a1), some (vI a2), some (vI a3), some (vI v1)] [oR 9 0, vI v15] rfl ?_
                          refine g_m (S := [aR 1156 0, vI v15]) (some (aR 1156 0)) q84 rfl rfl rfl (fun _ => rfl) rfl ?_
                          refine g_p q84 1 161 [some (oR 9 0), some (vI a1), some (vI a2), some (vI a3), some (vI v1)] [vI v1, aR 1156 0, vI v15] rfl ?_
                          refine g_ld q84 rfl rfl rfl rfl rfl rfl (fun v16 => ?_)
                          refine g_p q84 2 164 [some (oR 9 0), some (vI a1), some (vI a2), some (vI a3), some (vI v1)] [vL (ji2l (jsub v15 v16))] rfl ?_
                          refine g_topl (fun v17 => ?_)
                          exact g_ret q84 rfl rfl rfl
                        ·
                          refine g_swc ?_ ?_
                          ·
                            refine g_p q84 1 166 [some (oR 9 0), some (vI a1), some (vI a2), some (vI a3), some (vI v1)] [oR 9 0] rfl ?_
                            refine g_m (S := [oR 4 160]) (some (oR 4 160)) q84 rfl rfl rfl (fun _ => rfl) rfl ?_
                            refine g_m (S := [aR 513 160]) (some (aR 513 160)) q84 rfl rfl rfl (fun _ => rfl) rfl ?_
                            refine g_p q84 1 173 [some (oR 9 0), some (vI a1), some (vI a2), some (vI a3), some (vI v1)] [vI a3, aR 513 160] rfl ?_
                            refine g_ld q84 rfl rfl rfl rfl rfl rfl (fun v18 => ?_)
                            refine g_p q84 1 175 [some (oR 9 0), some (vI a1), some (vI a2), some (vI a3), some (vI v1)] [vI a2, vI v18] rfl ?_
                            refine g_i2 q84 rfl rfl ?_ ?_
                            ·
                              refine g_p q84 1 183 [some (oR 9 0), some (vI a1), some (vI a2), some (vI a3), some (vI v1)] [vL 0] rfl ?_
                              exact g_ret q84 rfl rfl rfl
                            ·
                              refine g_p q84 2 183 [some (oR 9 0), some (vI a1), some (vI a2), some (vI a3), some (vI v1)] [vL 1] rfl ?_
                              exact g_ret q84 rfl rfl rfl
                          ·
                            refine g_swc ?_ ?_
                            ·
                              refine g_p q84 1 185 [some (oR 9 0), some (vI a1), some (vI a2), some (vI a3), some (vI v1)] [oR 9 0] rfl ?_
                              refine g_m (S := [oR 4 160]) (some (oR 4 160)) q84 rfl rfl rfl (fun _ => rfl) rfl ?_
                              refine g_m (S := [aR 517 160]) (some (aR 517 160)) q84 rfl rfl rfl (fun _ => rfl) rfl ?_
                              refine g_p q84 1 192 [some (oR 9 0), some (vI a1), some (vI a2), some (vI a3), some (vI v1)] [vI a2, aR 517 160] rfl ?_
                              refine g_ld q84 rfl rfl rfl rfl rfl rfl (fun v19 => ?_)
                              refine g_p q84 1 194 [some (oR 9 0), some (vI a1), some (vI a2), some (vI a3), some (vI v1)] [vL (ji2l v19)] rfl ?_
                              refine g_topl (fun v20 => ?_)
                              exact g_ret q84 rfl rfl rfl
                            ·
                              refine g_swc ?_ ?_
                              ·
                                refine g_p q84 1 196 [some (oR 9 0), some (vI a1), some (vI a2), some (vI a3), some (vI v1)] [oR 9 0] rfl ?_
                                refine g_m (S := [oR 4 160]) (some (oR 4 160)) q84 rfl rfl rfl (fun _ => rfl) rfl ?_
                                refine g_m (S := [aR 518 160]) (some (aR 518 160)) q84 rfl rfl rfl (fun _ => rfl) rfl ?_
                                refine g_p q84 1 203 [some (oR 9 0), some (vI a1), some (vI a2), some (vI a3), some (vI v1)] [vI a2, aR 518 160] rfl ?_
                                refine g_ld q84 rfl rfl rfl rfl rfl rfl (fun v21 => ?_)
                                refine g_p q84 1 205 [some (oR 9 0), some (vI a1), some (vI a2), some (vI a3), some (vI v1)] [vL (ji2l v21)] rfl ?_
                                refine g_topl (fun v22 => ?_)
                                exact g_ret q84 rfl rfl rfl
                              ·
                                refine g_swc ?_ ?_
                                ·
                                  refine g_p q84 1 207 [some (oR 9 0), some (vI a1), some (vI a2), some (vI a3), some (vI v1)] [oR 9 0] rfl ?_
                                  refine g_m (S := [oR 4 160]) (some (oR 4 160)) q84 rfl rfl rfl (fun _ => rfl) rfl ?_
                                  refine g_get q84 rfl rfl rfl (fun _ => rfl) (fun v23 => ?_)
                                  refine g_p q84 1 214 [some (oR 9 0), some (vI a1), some (vI a2), some (vI a3), some (vI v1)] [vL (ji2l v23)] rfl ?_
                                  refine g_topl (fun v24 => ?_)
                                  exact g_ret q84 rfl rfl rfl
                                ·
                                  refine g_swc ?_ ?_
                                  ·
                                    refine g_p q84 1 216 [some (oR 9 0), some (vI a1), some (vI a2), some (vI a3), some (vI v1)] [oR 9 0] rfl ?_
                                    refine g_get q84 rfl rfl rfl (fun _ => rfl) (fun v25 => ?_)
                                    refine g_i1 q84 rfl rfl ?_ ?_
                                    ·
                                      refine g_p q84 1 227 [some (oR 9 0), some (vI a1), some (vI a2), some (vI a3), some (vI v1)] [vL 0] rfl ?_
                                      exact g_ret q84 rfl rfl rfl
                                    ·
                                      refine g_p q84 2 227 [some (oR 9 0), some (vI a1), some (vI a2), some (vI a3), some (vI v1)] [vL 1] rfl ?_
                                      exact g_ret q84 rfl rfl rfl
                                  ·
                                    refine g_swe ?_
                                    refine g_p q84 1 229 [some (oR 9 0), some (vI a1), some (vI a2), some (vI a3), some (vI v1)] [vL 0] rfl ?_
                                    exact g_ret q84 rfl rfl rfl
        ·
          refine g_p q84 1 20 [some (oR 9 0), some (vI a1), some (vI a2), some (vI a3), none] [vL 0] rfl ?_
          exact g_ret q84 rfl rfl rfl
theorem q85 : am_cd 85 = am_c85 := rfl
theorem g85 (X : X2) (a0 : Nat) (s : S2) (o : Option (AV R2) × S2) : J (f85 a0 s) (fun (r : S2) => o = (none, r)) (Go X 1 85 0 (am_loc (am_nl 85) [oR 6 a0]) [] s o) := by
  show J _ _ (Go X 1 85 0 [some (oR 6 a0)] [] s o)
  unfold f85
  refine g_p q85 1 1 [some (oR 6 a0)] [oR 6 a0] rfl ?_
  refine g_get q85 rfl rfl rfl (fun _ => rfl) (fun v1 => ?_)
  refine g_p q85 1 5 [some (oR 6 a0)] [vI 1, vI v1] rfl ?_
  refine g_i2 q85 rfl rfl ?_ ?_
  ·
    exact g_retV q85 rfl rfl
  ·
    refine g_p q85 1 9 [some (oR 6 a0)] [oR 6 a0] rfl ?_
    refine g_get q85 rfl rfl rfl (fun _ => rfl) (fun v2 => ?_)
    refine g_p q85 1 13 [some (oR 6 a0)] [oR 6 a0, vI v2] rfl ?_
    refine g_m (S := [aR 770 a0, vI v2]) (some (aR 770 a0)) q85 rfl rfl rfl (fun _ => rfl) rfl ?_
    refine g_m (S := [vI 64, vI v2]) (some (vI 64)) q85 rfl rfl rfl (fun _ => rfl) rfl ?_
    refine g_i2 q85 rfl rfl ?_ ?_
    ·
      exact g_retV q85 rfl rfl
    ·
      refine g_p q85 1 21 [some (oR 6 a0)] [oR 6 a0] rfl ?_
      refine g_m (S := [aR 770 a0]) (some (aR 770 a0)) q85 rfl rfl rfl (fun _ => rfl) rfl ?_
      refine g_p q85 1 25 [some (oR 6 a0)] [oR 6 a0, aR 770 a0] rfl ?_
      refine g_get q85 rfl rfl rfl (fun _ => rfl) (fun v3 => ?_)
      refine g_p q85 3 31 [some (oR 6 a0)] [oR 6 a0, vI (jsub v3 1), aR 770 a0] rfl ?_
      refine g_m (S := [aR 770 a0, vI (jsub v3 1), aR 770 a0]) (some (aR 770 a0)) q85 rfl rfl rfl (fun _ => rfl) rfl ?_
      refine g_p q85 1 35 [some (oR 6 a0)] [oR 6 a0, aR 770 a0, vI (jsub v3 1), aR 770 a0] rfl ?_
      refine g_get q85 rfl rfl rfl (fun _ => rfl) (fun v4 => ?_)
      refine g_p q85 2 40 [some (oR 6 a0)] [vI (jsub v4 1), aR 770 a0, vI (jsub v3 1), aR 770 a0] rfl ?_
      refine g_ldl q85 rfl rfl rfl rfl rfl rfl (fun v5 => ?_)
      refine g_p q85 2 43 [some (oR 6 a0)] [vI (jcmp v5 0), vI (jsub v3 1), aR 770 a0] rfl ?_
      refine g_jn (fun j51 => ∀ (x6 : Int), J (j51 x6) (fun (r : S2) => o = (none, r)) (Go X 1 85 51 [none] [vL x6, vI (jsub v3 1), aR 770 a0] s o)) ?_ (fun j51 hj51 => ?_)
      ·
        intro x6
        refine g_stol q85 rfl rfl rfl rfl (fun s7 => ?_)
        exact g_retV q85 rfl rfl
      ·
        refine g_i1 q85 rfl rfl ?_ ?_
        ·
          refine g_p q85 1 51 [some (oR 6 a0)] [vL 0, vI (jsub v3 1), aR 770 a0] rfl ?_
          exact g_wkJ [false] rfl (hj51 0)
        ·
          refine g_p q85 2 51 [some (oR 6 a0)] [vL 1, vI (jsub v3 1), aR 770 a0] rfl ?_
          exact g_wkJ [false] rfl (hj51 1)
theorem q86 : am_cd 86 = am_c86 := rfl
theorem g86 (X : X2) (a0 : Int) (a1 : Int) (a2 : Int) (s : S2) (o : Option (AV R2) × S2) : J (f86 a0 a1 a2) (fun (r : Int) => o = (some (vL r), s)) (Go X 1 86 0 (am_loc (am_nl 86) [vI a0, vL a1, vL a2]) [] s o) := by
  show J _ _ (Go X 1 86 0 [some (vI a0), some (vL a1), none, some (vL a2), none] [] s o)
  unfold f86
  refine g_p q86 1 1 [some (vI a0), some (vL a1), none, some (vL a2), none] [vI a0] rfl ?_
  refine g_sw q86 rfl ?_
  refine g_swc ?_ ?_
  ·
    refine g_p q86 3 155 [some (vI a0), some (vL a1), none, some (vL a2), none] [vI (jcmp a1 a2)] rfl ?_
    refine g_i1 q86 rfl rfl ?_ ?_
    ·
      refine g_p q86 1 163 [some (vI a0), some (vL a1), none, some (vL a2), none] [vL 0] rfl ?_
      exact g_ret q86 rfl rfl rfl
    ·
      refine g_p q86 2 163 [some (vI a0), some (vL a1), none, some (vL a2), none] [vL 1] rfl ?_
      exact g_ret q86 rfl rfl rfl
  ·
    refine g_swc ?_ ?_
    ·
      refine g_p q86 3 179 [some (vI a0), some (vL a1), none, some (vL a2), none] [vI (jcmp a1 a2)] rfl ?_
      refine g_i1 q86 rfl rfl ?_ ?_
      ·
        refine g_p q86 1 187 [some (vI a0), some (vL a1), none, some (vL a2), none] [vL 0] rfl ?_
        exact g_ret q86 rfl rfl rfl
      ·
        refine g_p q86 2 187 [some (vI a0), some (vL a1), none, some (vL a2), none] [vL 1] rfl ?_
        exact g_ret q86 rfl rfl rfl
    ·
      refine g_swc ?_ ?_
      ·
        refine g_p q86 3 129 [some (vI a0), some (vL a1), none, some (vL a2), none] [vI (jcmp a2 0)] rfl ?_
        refine g_i1 q86 rfl rfl ?_ ?_
        ·
          refine g_p q86 2 138 [some (vI a0), some (vL a1), none, some (vL a2), none] [vL a2, vL a1] rfl ?_
          refine g_lrem q86 rfl ?_
          refine g_topl (fun v1 => ?_)
          exact g_ret q86 rfl rfl rfl
        ·
          refine g_p q86 2 139 [some (vI a0), some (vL a1), none, some (vL a2), none] [vL 0] rfl ?_
          exact g_ret q86 rfl rfl rfl
      ·
        refine g_swc ?_ ?_
        ·
          refine g_p q86 3 111 [some (vI a0), some (vL a1), none, some (vL a2), none] [vL (kmul a1 a2)] rfl ?_
          refine g_topl (fun v2 => ?_)
          exact g_ret q86 rfl rfl rfl
        ·
          refine g_swc ?_ ?_
          ·
            refine g_p q86 3 103 [some (vI a0), some (vL a1), none, some (vL a2), none] [vL (kadd a1 a2)] rfl ?_
            refine g_topl (fun v3 => ?_)
            exact g_ret q86 rfl rfl rfl
          ·
            refine g_swc ?_ ?_
            ·
              refine g_p q86 3 107 [some (vI a0), some (vL a1), none, some (vL a2), none] [vL (ksub a1 a2)] rfl ?_
              refine g_topl (fun v4 => ?_)
              exact g_ret q86 rfl rfl rfl
            ·
              refine g_swc ?_ ?_
              ·
                refine g_p q86 3 115 [some (vI a0), some (vL a1), none, some (vL a2), none] [vI (jcmp a2 0)] rfl ?_
                refine g_i1 q86 rfl rfl ?_ ?_
                ·
                  refine g_p q86 2 124 [some (vI a0), some (vL a1), none, some (vL a2), none] [vL a2, vL a1] rfl ?_
                  refine g_ldiv q86 rfl ?_
                  refine g_topl (fun v5 => ?_)
                  exact g_ret q86 rfl rfl rfl
                ·
                  refine g_p q86 2 125 [some (vI a0), some (vL a1), none, some (vL a2), none] [vL 0] rfl ?_
                  exact g_ret q86 rfl rfl rfl
              ·
                refine g_swc ?_ ?_
                ·
                  refine g_p q86 3 143 [some (vI a0), some (vL a1), none, some (vL a2), none] [vI (jcmp a1 a2)] rfl ?_
                  refine g_i1 q86 rfl rfl ?_ ?_
                  ·
                    refine g_p q86 1 151 [some (vI a0), some (vL a1), none, some (vL a2), none] [vL 0] rfl ?_
                    exact g_ret q86 rfl rfl rfl
                  ·
                    refine g_p q86 2 151 [some (vI a0), some (vL a1), none, some (vL a2), none] [vL 1] rfl ?_
                    exact g_ret q86 rfl rfl rfl
                ·
                  refine g_swc ?_ ?_
                  ·
                    refine g_p q86 3 167 [some (vI a0), some (vL a1), none, some (vL a2), none] [vI (jcmp a1 a2)] rfl ?_
                    refine g_i1 q86 rfl rfl ?_ ?_
                    ·
                      refine g_p q86 1 175 [some (vI a0), some (vL a1), none, some (vL a2), none] [vL 0] rfl ?_
                      exact g_ret q86 rfl rfl rfl
                    ·
                      refine g_p q86 2 175 [some (vI a0), some (vL a1), none, some (vL a2), none] [vL 1] rfl ?_
                      exact g_ret q86 rfl rfl rfl
                  ·
                    refine g_swc ?_ ?_
                    ·
                      refine g_p q86 3 191 [some (vI a0), some (vL a1), none, some (vL a2), none] [vI (jcmp a1 a2)] rfl ?_
                      refine g_i1 q86 rfl rfl ?_ ?_
                      ·
                        refine g_p q86 1 199 [some (vI a0), some (vL a1), none, some (vL a2), none] [vL 0] rfl ?_
                        exact g_ret q86 rfl rfl rfl
                      ·
                        refine g_p q86 2 199 [some (vI a0), some (vL a1), none, some (vL a2), none] [vL 1] rfl ?_
                        exact g_ret q86 rfl rfl rfl
                    ·
                      refine g_swc ?_ ?_
                      ·
                        refine g_p q86 3 203 [some (vI a0), some (vL a1), none, some (vL a2), none] [vL (kand a1 a2)] rfl ?_
                        refine g_topl (fun v6 => ?_)
                        exact g_ret q86 rfl rfl rfl
                      ·
                        refine g_swe ?_
                        refine g_p q86 3 207 [some (vI a0), some (vL a1), none, some (vL a2), none] [vL (kor a1 a2)] rfl ?_
                        refine g_topl (fun v7 => ?_)
                        exact g_ret q86 rfl rfl rfl
theorem q82 : am_cd 82 = am_c82 := rfl
def H82_a (X : X2) (y2 : Nat) (y3 : Int) (y4 : Int) (o : Option (AV R2) × S2) (a : Int × S2) : Prop := Go X 2 82 8 [some (oR 6 y2), some (oR 9 0), some (vI y3), some (vI y4), some (vI (a.1)), none] [] (a.2) o
def E82_a (X : X2) (y2 : Nat) (y3 : Int) (y4 : Int) (o : Option (AV R2) × S2) : (S2) ⊕ (S2) → Prop := (am_kx (fun (r : S2) => Go X 2 82 124 [some (oR 6 y2), none, none, none, none, none] [] r o) (fun (r : S2) => Go X 2 82 220 [none, none, none, none, none, none] [] r o))
set_option maxRecDepth 20000 in
theorem g82_a (X : X2) (y2 : Nat) (y3 : Int) (y4 : Int) (x5 : Int) (s6 : S2) (o : Option (AV R2) × S2) : J (f82_a y2 y3 y4 x5 s6) (am_kx (H82_a X y2 y3 y4 o) (E82_a X y2 y3 y4 o)) (Go X 2 82 8 [some (oR 6 y2), some (oR 9 0), some (vI y3), some (vI y4), some (vI x5), none] [] s6 o) := by
  unfold f82_a
  refine g_p q82 2 11 [some (oR 6 y2), some (oR 9 0), some (vI y3), some (vI y4), some (vI x5), none] [oR 6 y2, vI x5] rfl ?_
  refine g_get q82 rfl rfl rfl (fun _ => rfl) (fun v7 => ?_)
  refine g_i2 q82 rfl rfl ?_ ?_
  ·
    exact g_end (fun h => g_wk [false, false, false, false, false, false] rfl h)
  ·
    refine g_p q82 2 20 [some (oR 6 y2), some (oR 9 0), some (vI y3), some (vI y4), some (vI x5), none] [oR 6 y2, vI x5] rfl ?_
    refine g_m (S := [aR 768 y2, vI x5]) (some (aR 768 y2)) q82 rfl rfl rfl (fun _ => rfl) rfl ?_
    refine g_m (S := [vI 400, vI x5]) (some (vI 400)) q82 rfl rfl rfl (fun _ => rfl) rfl ?_
    refine g_i2 q82 rfl rfl ?_ ?_
    ·
      exact g_end (fun h => g_wk [false, false, false, false, false, false] rfl h)
    ·
      refine g_p q82 1 28 [some (oR 6 y2), some (oR 9 0), some (vI y3), some (vI y4), some (vI x5), none] [oR 6 y2] rfl ?_
      refine g_m (S := [aR 768 y2]) (some (aR 768 y2)) q82 rfl rfl rfl (fun _ => rfl) rfl ?_
      refine g_p q82 1 33 [some (oR 6 y2), some (oR 9 0), some (vI y3), some (vI y4), some (vI x5), none] [vI x5, aR 768 y2] rfl ?_
      refine g_ld q82 rfl rfl rfl rfl rfl rfl (fun v8 => ?_)
      refine g_p q82 2 38 [some (oR 6 y2), some (oR 9 0), some (vI y3), some (vI y4), some (vI x5), some (vI v8)] [vI v8] rfl ?_
      refine g_i1 q82 rfl rfl ?_ ?_
      ·
        refine g_p q82 2 56 [some (oR 6 y2), some (oR 9 0), some (vI y3), some (vI y4), some (vI x5), some (vI v8)] [vI (-268), vI v8] rfl ?_
        refine g_jn (fun j83 => ∀ (_ : Unit), J (j83 ()) (am_kx (H82_a X y2 y3 y4 o) (E82_a X y2 y3 y4 o)) (Go X 2 82 83 [some (oR 6 y2), some (oR 9 0), some (vI y3), some (vI y4), some (vI x5), some (vI v8)] [] s6 o)) ?_ (fun j83 hj83 => ?_)
        ·
          intro _
          refine g_p q82 2 88 [some (oR 6 y2), some (oR 9 0), some (vI y3), some (vI y4), some (vI x5), some (vI v8)] [vI (-273), vI v8] rfl ?_
          refine g_i2 q82 rfl rfl ?_ ?_
          ·
            refine g_p q82 2 102 [some (oR 6 y2), some (oR 9 0), some (vI y3), some (vI y4), some (vI x5), some (vI v8)] [vI (-59), vI v8] rfl ?_
            refine g_i2 q82 rfl rfl ?_ ?_
            ·
              exact g_end (fun h => g_wk [true, false, false, false, false, false] rfl h)
            ·
              refine g_p q82 2 110 [some (oR 6 y2), some (oR 9 0), some (vI y3), some (vI y4), some (vI x5), some (vI v8)] [vI (-270), vI v8] rfl ?_
              refine g_jn (fun j131 => ∀ (_ : Unit), J (j131 ()) (am_kx (H82_a X y2 y3 y4 o) (E82_a X y2 y3 y4 o)) (Go X 2 82 131 [some (oR 6 y2), some (oR 9 0), some (vI y3), some (vI y4), some (vI x5), some (vI v8)] [] s6 o)) ?_ (fun j131 hj131 => ?_)
              ·
                intro _
                refine g_p q82 2 136 [some (oR 6 y2), some (oR 9 0), some (vI y3), some (vI y4), some (vI x5), some (vI v8)] [vI (-270), vI v8] rfl ?_
                refine g_i2 q82 rfl rfl ?_ ?_
                ·
                  refine g_p q82 1 148 [some (oR 6 y2), some (oR 9 0), some (vI y3), some (vI y4), some (vI x5), some (vI v8)] [oR 6 y2] rfl ?_
                  refine g_get q82 rfl rfl rfl (fun _ => rfl) (fun v9 => ?_)
                  refine g_p q82 1 152 [some (oR 6 y2), some (oR 9 0), some (vI y3), some (vI y4), some (vI x5), some (vI v8)] [vI 2, vI v9] rfl ?_
                  refine g_i2 q82 rfl rfl ?_ ?_
                  ·
                    refine g_inc (fun v10 => [some (oR 6 y2), some (oR 9 0), some (vI y3), some (vI y4), some (vI v10), some (vI v8)]) q82 rfl rfl (fun _ => rfl) (fun v10 => ?_)
                    refine g_p q82 1 8 [some (oR 6 y2), some (oR 9 0), some (vI y3), some (vI y4), some (vI v10), some (vI v8)] [] rfl ?_
                    exact g_end (fun h => g_wk [true, true, true, true, true, false] rfl h)
                  ·
                    refine g_p q82 1 156 [some (oR 6 y2), some (oR 9 0), some (vI y3), some (vI y4), some (vI x5), some (vI v8)] [oR 6 y2] rfl ?_
                    refine g_get q82 rfl rfl rfl (fun _ => rfl) (fun v11 => ?_)
                    refine g_p q82 1 160 [some (oR 6 y2), some (oR 9 0), some (vI y3), some (vI y4), some (vI x5), some (vI v8)] [oR 6 y2, vI v11] rfl ?_
                    refine g_m (S := [aR 770 y2, vI v11]) (some (aR 770 y2)) q82 rfl rfl rfl (fun _ => rfl) rfl ?_
                    refine g_m (S := [vI 64, vI v11]) (some (vI 64)) q82 rfl rfl rfl (fun _ => rfl) rfl ?_
                    refine g_i2 q82 rfl rfl ?_ ?_
                    ·
                      refine g_inc (fun v12 => [some (oR 6 y2), some (oR 9 0), some (vI y3), some (vI y4), some (vI v12), some (vI v8)]) q82 rfl rfl (fun _ => rfl) (fun v12 => ?_)
                      refine g_p q82 1 8 [some (oR 6 y2), some (oR 9 0), some (vI y3), some (vI y4), some (vI v12), some (vI v8)] [] rfl ?_
                      exact g_end (fun h => g_wk [true, true, true, true, true, false] rfl h)
                    ·
                      refine g_p q82 2 169 [some (oR 6 y2), some (oR 9 0), some (vI y3), some (vI y4), some (vI x5), some (vI v8)] [oR 6 y2, oR 6 y2] rfl ?_
                      refine g_get q82 rfl rfl rfl (fun _ => rfl) (fun v13 => ?_)
                      refine g_p q82 2 174 [some (oR 6 y2), some (oR 9 0), some (vI y3), some (vI y4), some (vI x5), some (vI v8)] [vI (jsub v13 1), oR 6 y2] rfl ?_
                      refine g_put q82 rfl rfl rfl (fun _ => rfl) (fun s14 => ?_)
                      refine g_p q82 1 178 [some (oR 6 y2), some (oR 9 0), some (vI y3), some (vI y4), some (vI x5), some (vI v8)] [oR 6 y2] rfl ?_
                      refine g_m (S := [aR 770 y2]) (some (aR 770 y2)) q82 rfl rfl rfl (fun _ => rfl) rfl ?_
                      refine g_p q82 1 182 [some (oR 6 y2), some (oR 9 0), some (vI y3), some (vI y4), some (vI x5), some (vI v8)] [oR 6 y2, aR 770 y2] rfl ?_
                      refine g_get q82 rfl rfl rfl (fun _ => rfl) (fun v15 => ?_)
                      refine g_p q82 5 191 [some (oR 6 y2), some (oR 9 0), some (vI y3), some (vI y4), some (vI x5), some (vI v8)] [oR 6 y2, vI (jneg v8), vI (jsub v15 1), aR 770 y2] rfl ?_
                      refine g_m (S := [aR 770 y2, vI (jneg v8), vI (jsub v15 1), aR 770 y2]) (some (aR 770 y2)) q82 rfl rfl rfl (fun _ => rfl) rfl ?_
                      refine g_p q82 1 195 [some (oR 6 y2), some (oR 9 0), some (vI y3), some (vI y4), some (vI x5), some (vI v8)] [oR 6 y2, aR 770 y2, vI (jneg v8), vI (jsub v15 1), aR 770 y2] rfl ?_
                      refine g_get q82 rfl rfl rfl (fun _ => rfl) (fun v16 => ?_)
                      refine g_p q82 2 200 [some (oR 6 y2), some (oR 9 0), some (vI y3), some (vI y4), some (vI x5), some (vI v8)] [vI (jsub v16 1), aR 770 y2, vI (jneg v8), vI (jsub v15 1), aR 770 y2] rfl ?_
                      refine g_ldl q82 rfl rfl rfl rfl rfl rfl (fun v17 => ?_)
                      refine g_p q82 1 202 [some (oR 6 y2), some (oR 9 0), some (vI y3), some (vI y4), some (vI x5), some (vI v8)] [oR 6 y2, vL v17, vI (jneg v8), vI (jsub v15 1), aR 770 y2] rfl ?_
                      refine g_m (S := [aR 770 y2, vL v17, vI (jneg v8), vI (jsub v15 1), aR 770 y2]) (some (aR 770 y2)) q82 rfl rfl rfl (fun _ => rfl) rfl ?_
                      refine g_p q82 1 206 [some (oR 6 y2), some (oR 9 0), some (vI y3), some (vI y4), some (vI x5), some (vI v8)] [oR 6 y2, aR 770 y2, vL v17, vI (jneg v8), vI (jsub v15 1), aR 770 y2] rfl ?_
                      refine g_get q82 rfl rfl rfl (fun _ => rfl) (fun v18 => ?_)
                      refine g_ldl q82 rfl rfl rfl rfl rfl rfl (fun v19 => ?_)
                      refine g_cPL q82 rfl (g86 X (jneg v8) v17 v19 s14) rfl rfl rfl rfl rfl (fun r20 => ?_)
                      refine g_stol q82 rfl rfl rfl rfl (fun s21 => ?_)
                      refine g_inc (fun v22 => [some (oR 6 y2), some (oR 9 0), some (vI y3), some (vI y4), some (vI v22), some (vI v8)]) q82 rfl rfl (fun _ => rfl) (fun v22 => ?_)
                      refine g_p q82 1 8 [some (oR 6 y2), some (oR 9 0), some (vI y3), some (vI y4), some (vI v22), some (vI v8)] [] rfl ?_
                      exact g_end (fun h => g_wk [true, true, true, true, true, false] rfl h)
                ·
                  refine g_p q82 2 141 [some (oR 6 y2), some (oR 9 0), some (vI y3), some (vI y4), some (vI x5), some (vI v8)] [vI 0, oR 6 y2] rfl ?_
                  refine g_put q82 rfl rfl rfl (fun _ => rfl) (fun s23 => ?_)
                  refine g_p q82 1 214 [some (oR 6 y2), some (oR 9 0), some (vI y3), some (vI y4), some (vI x5), some (vI v8)] [] rfl ?_
                  refine g_inc (fun v24 => [some (oR 6 y2), some (oR 9 0), some (vI y3), some (vI y4), some (vI v24), some (vI v8)]) q82 rfl rfl (fun _ => rfl) (fun v24 => ?_)
                  refine g_p q82 1 8 [some (oR 6 y2), some (oR 9 0), some (vI y3), some (vI y4), some (vI v24), some (vI v8)] [] rfl ?_
                  exact g_end (fun h => g_wk [true, true, true, true, true, false] rfl h)
              ·
                refine g_i2 q82 rfl rfl ?_ ?_
                ·
                  exact g_wkJ [true, true, true, true, true, true] rfl (hj131 ())
                ·
                  refine g_p q82 1 114 [some (oR 6 y2), some (oR 9 0), some (vI y3), some (vI y4), some (vI x5), some (vI v8)] [oR 6 y2] rfl ?_
                  refine g_m (S := [aR 770 y2]) (some (aR 770 y2)) q82 rfl rfl rfl (fun _ => rfl) rfl ?_
                  refine g_p q82 1 118 [some (oR 6 y2), some (oR 9 0), some (vI y3), some (vI y4), some (vI x5), some (vI v8)] [vI 1, aR 770 y2] rfl ?_
                  refine g_ldl q82 rfl rfl rfl rfl rfl rfl (fun v25 => ?_)
                  refine g_p q82 2 121 [some (oR 6 y2), some (oR 9 0), some (vI y3), some (vI y4), some (vI x5), some (vI v8)] [vI (jcmp v25 0)] rfl ?_
                  refine g_i1 q82 rfl rfl ?_ ?_
                  ·
                    exact g_wkJ [true, true, true, true, true, true] rfl (hj131 ())
                  ·
                    exact g_end (fun h => g_wk [true, false, false, false, false, false] rfl h)
          ·
            refine g_p q82 1 92 [some (oR 6 y2), some (oR 9 0), some (vI y3), some (vI y4), some (vI x5), some (vI v8)] [oR 6 y2] rfl ?_
            refine g_cV q82 rfl (g85 X y2 s6) rfl rfl rfl rfl rfl (fun s26 => ?_)
            refine g_p q82 1 214 [some (oR 6 y2), some (oR 9 0), some (vI y3), some (vI y4), some (vI x5), some (vI v8)] [] rfl ?_
            refine g_inc (fun v27 => [some (oR 6 y2), some (oR 9 0), some (vI y3), some (vI y4), some (vI v27), some (vI v8)]) q82 rfl rfl (fun _ => rfl) (fun v27 => ?_)
            refine g_p q82 1 8 [some (oR 6 y2), some (oR 9 0), some (vI y3), some (vI y4), some (vI v27), some (vI v8)] [] rfl ?_
            exact g_end (fun h => g_wk [true, true, true, true, true, false] rfl h)
        ·
          refine g_i2 q82 rfl rfl ?_ ?_
          ·
            exact g_wkJ [true, true, true, true, true, true] rfl (hj83 ())
          ·
            refine g_p q82 2 64 [some (oR 6 y2), some (oR 9 0), some (vI y3), some (vI y4), some (vI x5), some (vI v8)] [vI (-256), vI v8] rfl ?_
            refine g_i2 q82 rfl rfl ?_ ?_
            ·
              exact g_wkJ [true, true, true, true, true, true] rfl (hj83 ())
            ·
              refine g_p q82 6 74 [some (oR 6 y2), some (oR 9 0), some (vI y3), some (vI y4), some (vI x5), some (vI v8)] [vI y4, vI y3, vI (jneg v8), oR 9 0, oR 6 y2] rfl ?_
              refine g_cPL q82 rfl (g84 X (jneg v8) y3 y4 s6) rfl rfl rfl rfl rfl (fun r28 => ?_)
              refine g_cV q82 rfl (g83 X y2 r28 s6) rfl rfl rfl rfl rfl (fun s29 => ?_)
              refine g_p q82 1 214 [some (oR 6 y2), some (oR 9 0), some (vI y3), some (vI y4), some (vI x5), some (vI v8)] [] rfl ?_
              refine g_inc (fun v30 => [some (oR 6 y2), some (oR 9 0), some (vI y3), some (vI y4), some (vI v30), some (vI v8)]) q82 rfl rfl (fun _ => rfl) (fun v30 => ?_)
              refine g_p q82 1 8 [some (oR 6 y2), some (oR 9 0), some (vI y3), some (vI y4), some (vI v30), some (vI v8)] [] rfl ?_
              exact g_end (fun h => g_wk [true, true, true, true, true, false] rfl h)
      ·
        refine g_p q82 3 45 [some (oR 6 y2), some (oR 9 0), some (vI y3), some (vI y4), some (vI x5), some (vI v8)] [vL (ji2l v8), oR 6 y2] rfl ?_
        refine g_cV q82 rfl (g83 X y2 (ji2l v8) s6) rfl rfl rfl rfl rfl (fun s31 => ?_)
        refine g_p q82 1 214 [some (oR 6 y2), some (oR 9 0), some (vI y3), some (vI y4), some (vI x5), some (vI v8)] [] rfl ?_
        refine g_inc (fun v32 => [some (oR 6 y2), some (oR 9 0), some (vI y3), some (vI y4), some (vI v32), some (vI v8)]) q82 rfl rfl (fun _ => rfl) (fun v32 => ?_)
        refine g_p q82 1 8 [some (oR 6 y2), some (oR 9 0), some (vI y3), some (vI y4), some (vI v32), some (vI v8)] [] rfl ?_
        exact g_end (fun h => g_wk [true, true, true, true, true, false] rfl h)
set_option maxRecDepth 20000 in
theorem g82 (X : X2) (a0 : Nat) (a2 : Int) (a3 : Int) (s : S2) (o : Option (AV R2) × S2) : J (f82 a0 a2 a3 s) (fun (r : Int × S2) => o = (some (vL r.1), r.2)) (Go X 2 82 0 (am_loc (am_nl 82) [oR 6 a0, oR 9 0, vI a2, vI a3]) [] s o) := by
  show J _ _ (Go X 2 82 0 [some (oR 6 a0), some (oR 9 0), some (vI a2), some (vI a3), none, none] [] s o)
  unfold f82
  refine g_p q82 2 2 [some (oR 6 a0), some (oR 9 0), some (vI a2), some (vI a3), none, none] [vI 0, oR 6 a0] rfl ?_
  refine g_put q82 rfl rfl rfl (fun _ => rfl) (fun s1 => ?_)
  refine g_p q82 2 8 [some (oR 6 a0), some (oR 9 0), some (vI a2), some (vI a3), some (vI 0), none] [] rfl ?_
  refine g_wkJ [true, true, true, true, true, false] (L0 := [some (oR 6 a0), some (oR 9 0), some (vI a2), some (vI a3), some (vI 0), none]) rfl ?_
  refine g_itr (H82_a X a0 a2 a3 o) (E82_a X a0 a2 a3 o) (fun | (x5, s6) => g82_a X a0 a2 a3 x5 s6 o) ?_
  refine g_se ?_ ?_
  ·
    intro s33
    show J _ _ (Go X 2 82 124 [some (oR 6 a0), none, none, none, none, none] [] s33 o)
    refine g_p q82 1 125 [some (oR 6 a0), none, none, none, none, none] [oR 6 a0] rfl ?_
    refine g_m (S := [aR 770 a0]) (some (aR 770 a0)) q82 rfl rfl rfl (fun _ => rfl) rfl ?_
    refine g_p q82 1 129 [some (oR 6 a0), none, none, none, none, none] [vI 0, aR 770 a0] rfl ?_
    refine g_ldl q82 rfl rfl rfl rfl rfl rfl (fun v35 => ?_)
    exact g_ret q82 rfl rfl rfl
  ·
    intro s34
    show J _ _ (Go X 2 82 220 [none, none, none, none, none, none] [] s34 o)
    refine g_p q82 1 221 [none, none, none, none, none, none] [vL 0] rfl ?_
    exact g_ret q82 rfl rfl rfl
theorem q81 : am_cd 81 = am_c81 := rfl
def H81_a (X : X2) (y4 : Int) (o : Option (AV R2) × S2) (a : Int × Int × Int × S2) : Prop := Go X 3 81 32 [some (oR 9 0), some (vI y4), some (vI (a.1)), some (vL (a.2.1)), none, some (vI (a.2.2.1)), none, none] [] (a.2.2.2) o
def E81_a (X : X2) (y4 : Int) (o : Option (AV R2) × S2) : (Int × S2) → Prop := (fun (r : Int × S2) => Go X 3 81 88 [none, none, some (vI (r.1)), none, none, none, none, none] [] (r.2) o)
theorem g81_a (X : X2) (y4 : Int) (x5 : Int) (x6 : Int) (x7 : Int) (s8 : S2) (o : Option (AV R2) × S2) : J (f81_a y4 x5 x6 x7 s8) (am_kx (H81_a X y4 o) (E81_a X y4 o)) (Go X 3 81 32 [some (oR 9 0), some (vI y4), some (vI x5), some (vL x6), none, some (vI x7), none, none] [] s8 o) := by
  unfold f81_a
  refine g_p q81 2 35 [some (oR 9 0), some (vI y4), some (vI x5), some (vL x6), none, some (vI x7), none, none] [oR 9 0, vI x7] rfl ?_
  refine g_dyn q81 rfl rfl rfl (fun _ => rfl) (fun i9 => ?_)
  refine g_get q81 rfl rfl rfl (fun _ => rfl) (fun v10 => ?_)
  refine g_i2 q81 rfl rfl ?_ ?_
  ·
    exact g_end (fun h => g_wk [false, false, true, false, false, false, false, false] rfl h)
  ·
    refine g_p q81 1 45 [some (oR 9 0), some (vI y4), some (vI x5), some (vL x6), none, some (vI x7), none, none] [oR 9 0] rfl ?_
    refine g_dyn q81 rfl rfl rfl (fun _ => rfl) (fun i11 => ?_)
    refine g_p q81 3 52 [some (oR 9 0), some (vI y4), some (vI x5), some (vL x6), none, some (vI x7), none, none] [vI y4, vI x7, oR 9 0, oR 6 i11] rfl ?_
    refine g_cRL q81 rfl (g82 X i11 x7 y4 s8) rfl rfl rfl rfl rfl (fun r12 s13 => ?_)
    refine g_p q81 4 61 [some (oR 9 0), some (vI y4), some (vI x5), some (vL x6), none, some (vI x7), some (vL r12), none] [vI (jcmp r12 x6)] rfl ?_
    refine g_i1 q81 rfl rfl ?_ ?_
    ·
      refine g_p q81 3 77 [some (oR 9 0), some (vI y4), some (vI x5), some (vL x6), none, some (vI x7), some (vL r12), none] [vI (jcmp r12 x6)] rfl ?_
      refine g_i1 q81 rfl rfl ?_ ?_
      ·
        refine g_inc (fun v14 => [some (oR 9 0), some (vI y4), some (vI x5), some (vL x6), none, some (vI v14), some (vL r12), none]) q81 rfl rfl (fun _ => rfl) (fun v14 => ?_)
        refine g_p q81 1 32 [some (oR 9 0), some (vI y4), some (vI x5), some (vL x6), none, some (vI v14), some (vL r12), none] [] rfl ?_
        exact g_end (fun h => g_wk [true, true, true, true, false, true, false, false] rfl h)
      ·
        refine g_p q81 2 82 [some (oR 9 0), some (vI y4), some (vI (-1)), some (vL x6), none, some (vI x7), some (vL r12), none] [] rfl ?_
        refine g_inc (fun v15 => [some (oR 9 0), some (vI y4), some (vI (-1)), some (vL x6), none, some (vI v15), some (vL r12), none]) q81 rfl rfl (fun _ => rfl) (fun v15 => ?_)
        refine g_p q81 1 32 [some (oR 9 0), some (vI y4), some (vI (-1)), some (vL x6), none, some (vI v15), some (vL r12), none] [] rfl ?_
        exact g_end (fun h => g_wk [true, true, true, true, false, true, false, false] rfl h)
    ·
      refine g_p q81 5 82 [some (oR 9 0), some (vI y4), some (vI x7), some (vL r12), none, some (vI x7), some (vL r12), none] [] rfl ?_
      refine g_inc (fun v16 => [some (oR 9 0), some (vI y4), some (vI x7), some (vL r12), none, some (vI v16), some (vL r12), none]) q81 rfl rfl (fun _ => rfl) (fun v16 => ?_)
      refine g_p q81 1 32 [some (oR 9 0), some (vI y4), some (vI x7), some (vL r12), none, some (vI v16), some (vL r12), none] [] rfl ?_
      exact g_end (fun h => g_wk [true, true, true, true, false, true, false, false] rfl h)
theorem g81 (X : X2) (a1 : Int) (s : S2) (o : Option (AV R2) × S2) : J (f81 a1 s) (fun (r : Int × S2) => o = (some (vI r.1), r.2)) (Go X 3 81 0 (am_loc (am_nl 81) [oR 9 0, vI a1]) [] s o) := by
  show J _ _ (Go X 3 81 0 [some (oR 9 0), some (vI a1), none, none, none, none, none, none] [] s o)
  unfold f81
  refine g_p q81 1 1 [some (oR 9 0), some (vI a1), none, none, none, none, none, none] [oR 9 0] rfl ?_
  refine g_dyn q81 rfl rfl rfl (fun _ => rfl) (fun i1 => ?_)
  refine g_p q81 1 5 [some (oR 9 0), some (vI a1), none, none, none, none, none, none] [vI a1, oR 3 i1] rfl ?_
  refine g_cPI q81 rfl (g50 X i1 a1 s) rfl rfl rfl rfl rfl (fun r2 => ?_)
  refine g_i1 q81 rfl rfl ?_ ?_
  ·
    refine g_p q81 1 24 [some (oR 9 0), some (vI a1), none, none, none, none, none, none] [vI (-1)] rfl ?_
    exact g_ret q81 rfl rfl rfl
  ·
    refine g_p q81 1 12 [some (oR 9 0), some (vI a1), none, none, none, none, none, none] [oR 9 0] rfl ?_
    refine g_m (S := [oR 4 160]) (some (oR 4 160)) q81 rfl rfl rfl (fun _ => rfl) rfl ?_
    refine g_m (S := [aR 514 160]) (some (aR 514 160)) q81 rfl rfl rfl (fun _ => rfl) rfl ?_
    refine g_p q81 1 19 [some (oR 9 0), some (vI a1), none, none, none, none, none, none] [vI a1, aR 514 160] rfl ?_
    refine g_ld q81 rfl rfl rfl rfl rfl rfl (fun v3 => ?_)
    refine g_i1 q81 rfl rfl ?_ ?_
    ·
      refine g_p q81 6 32 [some (oR 9 0), some (vI a1), some (vI (-1)), some (vL 0), none, some (vI 0), none, none] [] rfl ?_
      refine g_wkJ [true, true, true, true, false, true, false, false] (L0 := [some (oR 9 0), some (vI a1), some (vI (-1)), some (vL 0), none, some (vI 0), none, none]) rfl ?_
      refine g_itr (H81_a X a1 o) (E81_a X a1 o) (fun | (x5, x6, x7, s8) => g81_a X a1 x5 x6 x7 s8 o) ?_
      rintro ⟨z17, s18⟩
      show J _ _ (Go X 3 81 88 [none, none, some (vI z17), none, none, none, none, none] [] s18 o)
      refine g_p q81 1 89 [none, none, some (vI z17), none, none, none, none, none] [vI z17] rfl ?_
      exact g_ret q81 rfl rfl rfl
    ·
      refine g_p q81 1 24 [some (oR 9 0), some (vI a1), none, none, none, none, none, none] [vI (-1)] rfl ?_
      exact g_ret q81 rfl rfl rfl
theorem q74 : am_cd 74 = am_c74 := rfl
def H74_a (X : X2) (y3 : Int) (o : Option (AV R2) × S2) (a : Int × Int × S2) : Prop := Go X 4 74 16 [some (oR 0 0), some (vI y3), some (vI (a.1)), some (vI (a.2.1))] [] (a.2.2) o
def E74_a (X : X2) (y3 : Int) (o : Option (AV R2) × S2) : (Int × S2) → Prop := (fun (r : Int × S2) => Go X 4 74 46 [none, none, some (vI (r.1)), none] [] (r.2) o)
theorem g74_a (X : X2) (y3 : Int) (x4 : Int) (x5 : Int) (s6 : S2) (o : Option (AV R2) × S2) : J (f74_a y3 x4 x5 s6) (am_kx (H74_a X y3 o) (E74_a X y3 o)) (Go X 4 74 16 [some (oR 0 0), some (vI y3), some (vI x4), some (vI x5)] [] s6 o) := by
  unfold f74_a
  refine g_p q74 2 19 [some (oR 0 0), some (vI y3), some (vI x4), some (vI x5)] [vI 6, vI x5] rfl ?_
  refine g_i2 q74 rfl rfl ?_ ?_
  ·
    exact g_end (fun h => g_wk [false, false, true, false] rfl h)
  ·
    refine g_p q74 1 23 [some (oR 0 0), some (vI y3), some (vI x4), some (vI x5)] [oR 0 0] rfl ?_
    refine g_m (S := [oR 9 0]) (some (oR 9 0)) q74 rfl rfl rfl (fun _ => rfl) rfl ?_
    refine g_p q74 1 27 [some (oR 0 0), some (vI y3), some (vI x4), some (vI x5)] [vI x5, oR 9 0] rfl ?_
    refine g_cRI q74 rfl (g81 X x5 s6) rfl rfl rfl rfl rfl (fun r7 s8 => ?_)
    refine g_p q74 1 31 [some (oR 0 0), some (vI y3), some (vI x4), some (vI x5)] [vI y3, vI r7] rfl ?_
    refine g_i2 q74 rfl rfl ?_ ?_
    ·
      refine g_inc (fun v9 => [some (oR 0 0), some (vI y3), some (vI x4), some (vI v9)]) q74 rfl rfl (fun _ => rfl) (fun v9 => ?_)
      refine g_p q74 1 16 [some (oR 0 0), some (vI y3), some (vI x4), some (vI v9)] [] rfl ?_
      exact g_end (fun h => g_wk [true, true, true, true] rfl h)
    ·
      refine g_p q74 5 39 [some (oR 0 0), some (vI y3), some (vI x4), some (vI x5)] [vI (jor x4 (jshl 1 x5))] rfl ?_
      refine g_top (fun v10 => ?_)
      refine g_p q74 1 40 [some (oR 0 0), some (vI y3), some (vI v10), some (vI x5)] [] rfl ?_
      refine g_inc (fun v11 => [some (oR 0 0), some (vI y3), some (vI v10), some (vI v11)]) q74 rfl rfl (fun _ => rfl) (fun v11 => ?_)
      refine g_p q74 1 16 [some (oR 0 0), some (vI y3), some (vI v10), some (vI v11)] [] rfl ?_
      exact g_end (fun h => g_wk [true, true, true, true] rfl h)
theorem g74 (X : X2) (a1 : Int) (s : S2) (o : Option (AV R2) × S2) : J (f74 a1 s) (fun (r : Int × S2) => o = (some (vI r.1), r.2)) (Go X 4 74 0 (am_loc (am_nl 74) [oR 0 0, vI a1]) [] s o) := by
  show J _ _ (Go X 4 74 0 [some (oR 0 0), some (vI a1), none, none] [] s o)
  unfold f74
  refine g_p q74 1 1 [some (oR 0 0), some (vI a1), none, none] [oR 0 0] rfl ?_
  refine g_cV q74 rfl (g75 X s) rfl rfl rfl rfl rfl (fun s1 => ?_)
  refine g_p q74 1 5 [some (oR 0 0), some (vI a1), none, none] [oR 0 0] rfl ?_
  refine g_m (S := [oR 9 0]) (some (oR 9 0)) q74 rfl rfl rfl (fun _ => rfl) rfl ?_
  refine g_p q74 1 9 [some (oR 0 0), some (vI a1), none, none] [vI 0, oR 9 0] rfl ?_
  refine g_cV q74 rfl (g78 X 0 s1) rfl rfl rfl rfl rfl (fun s2 => ?_)
  refine g_p q74 4 16 [some (oR 0 0), some (vI a1), some (vI 0), some (vI 0)] [] rfl ?_
  refine g_wkJ [true, true, true, true] (L0 := [some (oR 0 0), some (vI a1), some (vI 0), some (vI 0)]) rfl ?_
  refine g_itr (H74_a X a1 o) (E74_a X a1 o) (fun | (x4, x5, s6) => g74_a X a1 x4 x5 s6 o) ?_
  rintro ⟨z12, s13⟩
  show J _ _ (Go X 4 74 46 [none, none, some (vI z12), none] [] s13 o)
  refine g_p q74 1 47 [none, none, some (vI z12), none] [vI z12] rfl ?_
  exact g_ret q74 rfl rfl rfl
theorem q87 : am_cd 87 = am_c87 := rfl
def H87_a (X : X2) (y1 : Nat) (y2 : Int) (s5 : S2) (o : Option (AV R2) × S2) (a : Int × Int) : Prop := Go X 1 87 4 [some (oR 3 y1), some (vI y2), some (vI (a.1)), some (vI (a.2))] [] s5 o
def E87_a (X : X2) (y1 : Nat) (y2 : Int) (s5 : S2) (o : Option (AV R2) × S2) : (Int) → Prop := (fun (r : Int) => Go X 1 87 40 [none, none, some (vI r), none] [] s5 o)
theorem g87_a (X : X2) (y1 : Nat) (y2 : Int) (x3 : Int) (x4 : Int) (s5 : S2) (o : Option (AV R2) × S2) : J (f87_a y1 y2 x3 x4 s5) (am_kx (H87_a X y1 y2 s5 o) (E87_a X y1 y2 s5 o)) (Go X 1 87 4 [some (oR 3 y1), some (vI y2), some (vI x3), some (vI x4)] [] s5 o) := by
  unfold f87_a
  refine g_p q87 2 7 [some (oR 3 y1), some (vI y2), some (vI x3), some (vI x4)] [vI 10, vI x4] rfl ?_
  refine g_i2 q87 rfl rfl ?_ ?_
  ·
    exact g_end (fun h => g_wk [false, false, true, false] rfl h)
  ·
    refine g_p q87 2 12 [some (oR 3 y1), some (vI y2), some (vI x3), some (vI x4)] [oR 3 y1, vI x4] rfl ?_
    refine g_get q87 rfl rfl rfl (fun _ => rfl) (fun v6 => ?_)
    refine g_i2 q87 rfl rfl ?_ ?_
    ·
      refine g_inc (fun v7 => [some (oR 3 y1), some (vI y2), some (vI x3), some (vI v7)]) q87 rfl rfl (fun _ => rfl) (fun v7 => ?_)
      refine g_p q87 1 4 [some (oR 3 y1), some (vI y2), some (vI x3), some (vI v7)] [] rfl ?_
      exact g_end (fun h => g_wk [true, true, true, true] rfl h)
    ·
      refine g_p q87 1 19 [some (oR 3 y1), some (vI y2), some (vI x3), some (vI x4)] [oR 3 y1] rfl ?_
      refine g_m (S := [aR 395 y1]) (some (aR 395 y1)) q87 rfl rfl rfl (fun _ => rfl) rfl ?_
      refine g_p q87 1 23 [some (oR 3 y1), some (vI y2), some (vI x3), some (vI x4)] [vI x4, aR 395 y1] rfl ?_
      refine g_ld q87 rfl rfl rfl rfl rfl rfl (fun v8 => ?_)
      refine g_p q87 1 25 [some (oR 3 y1), some (vI y2), some (vI x3), some (vI x4)] [vI y2, vI v8] rfl ?_
      refine g_i2 q87 rfl rfl ?_ ?_
      ·
        refine g_inc (fun v9 => [some (oR 3 y1), some (vI y2), some (vI x3), some (vI v9)]) q87 rfl rfl (fun _ => rfl) (fun v9 => ?_)
        refine g_p q87 1 4 [some (oR 3 y1), some (vI y2), some (vI x3), some (vI v9)] [] rfl ?_
        exact g_end (fun h => g_wk [true, true, true, true] rfl h)
      ·
        refine g_p q87 5 33 [some (oR 3 y1), some (vI y2), some (vI x3), some (vI x4)] [vI (jor x3 (jshl 1 x4))] rfl ?_
        refine g_top (fun v10 => ?_)
        refine g_p q87 1 34 [some (oR 3 y1), some (vI y2), some (vI v10), some (vI x4)] [] rfl ?_
        refine g_inc (fun v11 => [some (oR 3 y1), some (vI y2), some (vI v10), some (vI v11)]) q87 rfl rfl (fun _ => rfl) (fun v11 => ?_)
        refine g_p q87 1 4 [some (oR 3 y1), some (vI y2), some (vI v10), some (vI v11)] [] rfl ?_
        exact g_end (fun h => g_wk [true, true, true, true] rfl h)
theorem g87 (X : X2) (a0 : Nat) (a1 : Int) (s : S2) (o : Option (AV R2) × S2) : J (f87 a0 a1 s) (fun (r : Int) => o = (some (vI r), s)) (Go X 1 87 0 (am_loc (am_nl 87) [oR 3 a0, vI a1]) [] s o) := by
  show J _ _ (Go X 1 87 0 [some (oR 3 a0), some (vI a1), none, none] [] s o)
  unfold f87
  refine g_p q87 4 4 [some (oR 3 a0), some (vI a1), some (vI 0), some (vI 0)] [] rfl ?_
  refine g_wkJ [true, true, true, true] (L0 := [some (oR 3 a0), some (vI a1), some (vI 0), some (vI 0)]) rfl ?_
  refine g_itr (H87_a X a0 a1 s o) (E87_a X a0 a1 s o) (fun | (x3, x4) => g87_a X a0 a1 x3 x4 s o) ?_
  intro z12
  show J _ _ (Go X 1 87 40 [none, none, some (vI z12), none] [] s o)
  refine g_p q87 1 41 [none, none, some (vI z12), none] [vI z12] rfl ?_
  exact g_ret q87 rfl rfl rfl
theorem q73 : am_cd 73 = am_c73 := rfl
theorem g73 (X : X2) (a1 : Int) (a2 : Int) (s : S2) (o : Option (AV R2) × S2) : J (f73 a1 a2 s) (fun (r : Int × S2) => o = (some (vI r.1), r.2)) (Go X 5 73 0 (am_loc (am_nl 73) [oR 0 0, vI a1, vI a2]) [] s o) := by
  show J _ _ (Go X 5 73 0 [some (oR 0 0), some (vI a1), some (vI a2)] [] s o)
  unfold f73
  refine g_p q73 1 1 [some (oR 0 0), some (vI a1), some (vI a2)] [oR 0 0] rfl ?_
  refine g_m (S := [oR 8 0]) (some (oR 8 0)) q73 rfl rfl rfl (fun _ => rfl) rfl ?_
  refine g_m (S := [oR 3 0]) (some (oR 3 0)) q73 rfl rfl rfl (fun _ => rfl) rfl ?_
  refine g_p q73 1 8 [some (oR 0 0), some (vI a1), some (vI a2)] [vI a1, oR 3 0] rfl ?_
  refine g_cPI q73 rfl (g51 X 0 a1 s) rfl rfl rfl rfl rfl (fun r1 => ?_)
  refine g_i1 q73 rfl rfl ?_ ?_
  ·
    refine g_p q73 1 17 [some (oR 0 0), some (vI a1), some (vI a2)] [vI a2] rfl ?_
    refine g_sw q73 rfl ?_
    refine g_swc ?_ ?_
    ·
      refine g_p q73 1 49 [some (oR 0 0), some (vI a1), some (vI a2)] [oR 0 0] rfl ?_
      refine g_m (S := [oR 8 0]) (some (oR 8 0)) q73 rfl rfl rfl (fun _ => rfl) rfl ?_
      refine g_m (S := [oR 4 0]) (some (oR 4 0)) q73 rfl rfl rfl (fun _ => rfl) rfl ?_
      refine g_m (S := [aR 517 0]) (some (aR 517 0)) q73 rfl rfl rfl (fun _ => rfl) rfl ?_
      refine g_p q73 1 59 [some (oR 0 0), some (vI a1), some (vI a2)] [vI a1, aR 517 0] rfl ?_
      refine g_ld q73 rfl rfl rfl rfl rfl rfl (fun v2 => ?_)
      exact g_ret q73 rfl rfl rfl
    ·
      refine g_swc ?_ ?_
      ·
        refine g_p q73 1 62 [some (oR 0 0), some (vI a1), some (vI a2)] [oR 0 0] rfl ?_
        refine g_m (S := [oR 8 0]) (some (oR 8 0)) q73 rfl rfl rfl (fun _ => rfl) rfl ?_
        refine g_m (S := [oR 4 0]) (some (oR 4 0)) q73 rfl rfl rfl (fun _ => rfl) rfl ?_
        refine g_m (S := [aR 518 0]) (some (aR 518 0)) q73 rfl rfl rfl (fun _ => rfl) rfl ?_
        refine g_p q73 1 72 [some (oR 0 0), some (vI a1), some (vI a2)] [vI a1, aR 518 0] rfl ?_
        refine g_ld q73 rfl rfl rfl rfl rfl rfl (fun v3 => ?_)
        exact g_ret q73 rfl rfl rfl
      ·
        refine g_swc ?_ ?_
        ·
          refine g_p q73 2 76 [some (oR 0 0), some (vI a1), some (vI a2)] [vI a1, oR 0 0] rfl ?_
          refine g_cRI q73 rfl (g74 X a1 s) rfl rfl rfl rfl rfl (fun r4 s5 => ?_)
          exact g_ret q73 rfl rfl rfl
        ·
          refine g_swc ?_ ?_
          ·
            refine g_p q73 1 81 [some (oR 0 0), some (vI a1), some (vI a2)] [oR 0 0] rfl ?_
            refine g_m (S := [oR 8 0]) (some (oR 8 0)) q73 rfl rfl rfl (fun _ => rfl) rfl ?_
            refine g_m (S := [oR 3 0]) (some (oR 3 0)) q73 rfl rfl rfl (fun _ => rfl) rfl ?_
            refine g_p q73 1 88 [some (oR 0 0), some (vI a1), some (vI a2)] [vI a1, oR 3 0] rfl ?_
            refine g_cPI q73 rfl (g87 X 0 a1 s) rfl rfl rfl rfl rfl (fun r6 => ?_)
            exact g_ret q73 rfl rfl rfl
          ·
            refine g_swe ?_
            refine g_p q73 1 93 [some (oR 0 0), some (vI a1), some (vI a2)] [vI (-1)] rfl ?_
            exact g_ret q73 rfl rfl rfl
  ·
    refine g_p q73 1 15 [some (oR 0 0), some (vI a1), some (vI a2)] [vI (-1)] rfl ?_
    exact g_ret q73 rfl rfl rfl
theorem q89 : am_cd 89 = am_c89 := rfl
def H89_a (X : X2) (y1 : Nat) (y2 : Int) (s5 : S2) (o : Option (AV R2) × S2) (a : Int × Int) : Prop := Go X 1 89 4 [some (oR 4 y1), some (vI y2), some (vI (a.1)), some (vI (a.2))] [] s5 o
def E89_a (X : X2) (y1 : Nat) (y2 : Int) (s5 : S2) (o : Option (AV R2) × S2) : (Int) → Prop := (fun (r : Int) => Go X 1 89 32 [none, none, some (vI r), none] [] s5 o)
theorem g89_a (X : X2) (y1 : Nat) (y2 : Int) (x3 : Int) (x4 : Int) (s5 : S2) (o : Option (AV R2) × S2) : J (f89_a y1 y2 x3 x4 s5) (am_kx (H89_a X y1 y2 s5 o) (E89_a X y1 y2 s5 o)) (Go X 1 89 4 [some (oR 4 y1), some (vI y2), some (vI x3), some (vI x4)] [] s5 o) := by
  unfold f89_a
  refine g_p q89 2 7 [some (oR 4 y1), some (vI y2), some (vI x3), some (vI x4)] [vI 10, vI x4] rfl ?_
  refine g_i2 q89 rfl rfl ?_ ?_
  ·
    exact g_end (fun h => g_wk [false, false, true, false] rfl h)
  ·
    refine g_p q89 1 11 [some (oR 4 y1), some (vI y2), some (vI x3), some (vI x4)] [oR 4 y1] rfl ?_
    refine g_m (S := [aR 515 y1]) (some (aR 515 y1)) q89 rfl rfl rfl (fun _ => rfl) rfl ?_
    refine g_p q89 1 15 [some (oR 4 y1), some (vI y2), some (vI x3), some (vI x4)] [vI x4, aR 515 y1] rfl ?_
    refine g_ld q89 rfl rfl rfl rfl rfl rfl (fun v6 => ?_)
    refine g_p q89 1 17 [some (oR 4 y1), some (vI y2), some (vI x3), some (vI x4)] [vI y2, vI v6] rfl ?_
    refine g_i2 q89 rfl rfl ?_ ?_
    ·
      refine g_inc (fun v7 => [some (oR 4 y1), some (vI y2), some (vI x3), some (vI v7)]) q89 rfl rfl (fun _ => rfl) (fun v7 => ?_)
      refine g_p q89 1 4 [some (oR 4 y1), some (vI y2), some (vI x3), some (vI v7)] [] rfl ?_
      exact g_end (fun h => g_wk [true, true, true, true] rfl h)
    ·
      refine g_p q89 5 25 [some (oR 4 y1), some (vI y2), some (vI x3), some (vI x4)] [vI (jor x3 (jshl 1 x4))] rfl ?_
      refine g_top (fun v8 => ?_)
      refine g_p q89 1 26 [some (oR 4 y1), some (vI y2), some (vI v8), some (vI x4)] [] rfl ?_
      refine g_inc (fun v9 => [some (oR 4 y1), some (vI y2), some (vI v8), some (vI v9)]) q89 rfl rfl (fun _ => rfl) (fun v9 => ?_)
      refine g_p q89 1 4 [some (oR 4 y1), some (vI y2), some (vI v8), some (vI v9)] [] rfl ?_
      exact g_end (fun h => g_wk [true, true, true, true] rfl h)
theorem g89 (X : X2) (a0 : Nat) (a1 : Int) (s : S2) (o : Option (AV R2) × S2) : J (f89 a0 a1 s) (fun (r : Int) => o = (some (vI r), s)) (Go X 1 89 0 (am_loc (am_nl 89) [oR 4 a0, vI a1]) [] s o) := by
  show J _ _ (Go X 1 89 0 [some (oR 4 a0), some (vI a1), none, none] [] s o)
  unfold f89
  refine g_p q89 4 4 [some (oR 4 a0), some (vI a1), some (vI 0), some (vI 0)] [] rfl ?_
  refine g_wkJ [true, true, true, true] (L0 := [some (oR 4 a0), some (vI a1), some (vI 0), some (vI 0)]) rfl ?_
  refine g_itr (H89_a X a0 a1 s o) (E89_a X a0 a1 s o) (fun | (x3, x4) => g89_a X a0 a1 x3 x4 s o) ?_
  intro z10
  show J _ _ (Go X 1 89 32 [none, none, some (vI z10), none] [] s o)
  refine g_p q89 1 33 [none, none, some (vI z10), none] [vI z10] rfl ?_
  exact g_ret q89 rfl rfl rfl
theorem q90 : am_cd 90 = am_c90 := rfl
theorem g90 (X : X2) (a1 : Int) (s : S2) (o : Option (AV R2) × S2) : J (f90 a1 s) (fun (r : Int × S2) => o = (some (vI r.1), r.2)) (Go X 4 90 0 (am_loc (am_nl 90) [oR 0 0, vI a1]) [] s o) := by
  show J _ _ (Go X 4 90 0 [some (oR 0 0), some (vI a1)] [] s o)
  unfold f90
  refine g_p q90 1 1 [some (oR 0 0), some (vI a1)] [oR 0 0] rfl ?_
  refine g_cV q90 rfl (g75 X s) rfl rfl rfl rfl rfl (fun s1 => ?_)
  refine g_p q90 1 5 [some (oR 0 0), some (vI a1)] [oR 0 0] rfl ?_
  refine g_m (S := [oR 9 0]) (some (oR 9 0)) q90 rfl rfl rfl (fun _ => rfl) rfl ?_
  refine g_p q90 1 9 [some (oR 0 0), some (vI a1)] [vI 0, oR 9 0] rfl ?_
  refine g_cV q90 rfl (g78 X 0 s1) rfl rfl rfl rfl rfl (fun s2 => ?_)
  refine g_p q90 1 13 [some (oR 0 0), some (vI a1)] [oR 0 0] rfl ?_
  refine g_m (S := [oR 9 0]) (some (oR 9 0)) q90 rfl rfl rfl (fun _ => rfl) rfl ?_
  refine g_p q90 1 17 [some (oR 0 0), some (vI a1)] [vI a1, oR 9 0] rfl ?_
  refine g_cRI q90 rfl (g81 X a1 s2) rfl rfl rfl rfl rfl (fun r3 s4 => ?_)
  exact g_ret q90 rfl rfl rfl
theorem q88 : am_cd 88 = am_c88 := rfl
theorem g88 (X : X2) (a1 : Int) (a2 : Int) (s : S2) (o : Option (AV R2) × S2) : J (f88 a1 a2 s) (fun (r : Int × S2) => o = (some (vI r.1), r.2)) (Go X 5 88 0 (am_loc (am_nl 88) [oR 0 0, vI a1, vI a2]) [] s o) := by
  show J _ _ (Go X 5 88 0 [some (oR 0 0), some (vI a1), some (vI a2), none, none] [] s o)
  unfold f88
  refine g_p q88 1 1 [some (oR 0 0), some (vI a1), some (vI a2), none, none] [oR 0 0] rfl ?_
  refine g_m (S := [oR 8 0]) (some (oR 8 0)) q88 rfl rfl rfl (fun _ => rfl) rfl ?_
  refine g_m (S := [oR 3 0]) (some (oR 3 0)) q88 rfl rfl rfl (fun _ => rfl) rfl ?_
  refine g_p q88 2 9 [some (oR 0 0), some (vI a1), some (vI a2), some (oR 3 0), none] [oR 0 0] rfl ?_
  refine g_m (S := [oR 8 0]) (some (oR 8 0)) q88 rfl rfl rfl (fun _ => rfl) rfl ?_
  refine g_m (S := [oR 4 0]) (some (oR 4 0)) q88 rfl rfl rfl (fun _ => rfl) rfl ?_
  refine g_p q88 3 19 [some (oR 0 0), some (vI a1), some (vI a2), some (oR 3 0), some (oR 4 0)] [vI a1, oR 3 0] rfl ?_
  refine g_cPI q88 rfl (g50 X 0 a1 s) rfl rfl rfl rfl rfl (fun r1 => ?_)
  refine g_i1 q88 rfl rfl ?_ ?_
  ·
    refine g_p q88 1 29 [some (oR 0 0), some (vI a1), some (vI a2), some (oR 3 0), some (oR 4 0)] [vI a2] rfl ?_
    refine g_sw q88 rfl ?_
    refine g_swc ?_ ?_
    ·
      refine g_p q88 1 81 [some (oR 0 0), some (vI a1), some (vI a2), some (oR 3 0), some (oR 4 0)] [oR 3 0] rfl ?_
      refine g_m (S := [aR 391 0]) (some (aR 391 0)) q88 rfl rfl rfl (fun _ => rfl) rfl ?_
      refine g_p q88 1 85 [some (oR 0 0), some (vI a1), some (vI a2), some (oR 3 0), some (oR 4 0)] [vI a1, aR 391 0] rfl ?_
      refine g_ld q88 rfl rfl rfl rfl rfl rfl (fun v2 => ?_)
      exact g_ret q88 rfl rfl rfl
    ·
      refine g_swc ?_ ?_
      ·
        refine g_p q88 1 88 [some (oR 0 0), some (vI a1), some (vI a2), some (oR 3 0), some (oR 4 0)] [oR 3 0] rfl ?_
        refine g_m (S := [aR 392 0]) (some (aR 392 0)) q88 rfl rfl rfl (fun _ => rfl) rfl ?_
        refine g_p q88 1 92 [some (oR 0 0), some (vI a1), some (vI a2), some (oR 3 0), some (oR 4 0)] [vI a1, aR 392 0] rfl ?_
        refine g_ld q88 rfl rfl rfl rfl rfl rfl (fun v3 => ?_)
        exact g_ret q88 rfl rfl rfl
      ·
        refine g_swc ?_ ?_
        ·
          refine g_p q88 1 95 [some (oR 0 0), some (vI a1), some (vI a2), some (oR 3 0), some (oR 4 0)] [oR 3 0] rfl ?_
          refine g_m (S := [aR 393 0]) (some (aR 393 0)) q88 rfl rfl rfl (fun _ => rfl) rfl ?_
          refine g_p q88 1 99 [some (oR 0 0), some (vI a1), some (vI a2), some (oR 3 0), some (oR 4 0)] [vI a1, aR 393 0] rfl ?_
          refine g_ld q88 rfl rfl rfl rfl rfl rfl (fun v4 => ?_)
          exact g_ret q88 rfl rfl rfl
        ·
          refine g_swc ?_ ?_
          ·
            refine g_p q88 1 102 [some (oR 0 0), some (vI a1), some (vI a2), some (oR 3 0), some (oR 4 0)] [oR 3 0] rfl ?_
            refine g_m (S := [aR 394 0]) (some (aR 394 0)) q88 rfl rfl rfl (fun _ => rfl) rfl ?_
            refine g_p q88 1 106 [some (oR 0 0), some (vI a1), some (vI a2), some (oR 3 0), some (oR 4 0)] [vI a1, aR 394 0] rfl ?_
            refine g_ld q88 rfl rfl rfl rfl rfl rfl (fun v5 => ?_)
            exact g_ret q88 rfl rfl rfl
          ·
            refine g_swc ?_ ?_
            ·
              refine g_p q88 3 112 [some (oR 0 0), some (vI a1), some (vI a2), some (oR 3 0), some (oR 4 0)] [vI a1, oR 3 0, oR 4 0] rfl ?_
              refine g_cPI q88 rfl (g52 X 0 0 a1 s) rfl rfl rfl rfl rfl (fun r6 => ?_)
              exact g_ret q88 rfl rfl rfl
            ·
              refine g_swc ?_ ?_
              ·
                refine g_p q88 2 119 [some (oR 0 0), some (vI a1), some (vI a2), some (oR 3 0), some (oR 4 0)] [vI a1, oR 4 0] rfl ?_
                refine g_cPI q88 rfl (g89 X 0 a1 s) rfl rfl rfl rfl rfl (fun r7 => ?_)
                exact g_ret q88 rfl rfl rfl
              ·
                refine g_swc ?_ ?_
                ·
                  refine g_p q88 2 125 [some (oR 0 0), some (vI a1), some (vI a2), some (oR 3 0), some (oR 4 0)] [vI a1, oR 0 0] rfl ?_
                  refine g_cRI q88 rfl (g90 X a1 s) rfl rfl rfl rfl rfl (fun r8 s9 => ?_)
                  exact g_ret q88 rfl rfl rfl
                ·
                  refine g_swc ?_ ?_
                  ·
                    refine g_p q88 1 131 [some (oR 0 0), some (vI a1), some (vI a2), some (oR 3 0), some (oR 4 0)] [oR 4 0] rfl ?_
                    refine g_m (S := [aR 513 0]) (some (aR 513 0)) q88 rfl rfl rfl (fun _ => rfl) rfl ?_
                    refine g_p q88 1 135 [some (oR 0 0), some (vI a1), some (vI a2), some (oR 3 0), some (oR 4 0)] [vI a1, aR 513 0] rfl ?_
                    refine g_ld q88 rfl rfl rfl rfl rfl rfl (fun v10 => ?_)
                    exact g_ret q88 rfl rfl rfl
                  ·
                    refine g_swc ?_ ?_
                    ·
                      refine g_p q88 1 139 [some (oR 0 0), some (vI a1), some (vI a2), some (oR 3 0), some (oR 4 0)] [oR 4 0] rfl ?_
                      refine g_m (S := [aR 514 0]) (some (aR 514 0)) q88 rfl rfl rfl (fun _ => rfl) rfl ?_
                      refine g_p q88 1 143 [some (oR 0 0), some (vI a1), some (vI a2), some (oR 3 0), some (oR 4 0)] [vI a1, aR 514 0] rfl ?_
                      refine g_ld q88 rfl rfl rfl rfl rfl rfl (fun v11 => ?_)
                      exact g_ret q88 rfl rfl rfl
                    ·
                      refine g_swe ?_
                      refine g_p q88 1 147 [some (oR 0 0), some (vI a1), some (vI a2), some (oR 3 0), some (oR 4 0)] [vI (-2)] rfl ?_
                      exact g_ret q88 rfl rfl rfl
  ·
    refine g_p q88 1 27 [some (oR 0 0), some (vI a1), some (vI a2), some (oR 3 0), some (oR 4 0)] [vI (-2)] rfl ?_
    exact g_ret q88 rfl rfl rfl
theorem q91 : am_cd 91 = am_c91 := rfl
theorem g91 (X : X2) (a1 : Int) (a2 : Int) (s : S2) (o : Option (AV R2) × S2) : J (f91 a1 a2 s) (fun (r : Int) => o = (some (vI r), s)) (Go X 2 91 0 (am_loc (am_nl 91) [oR 0 0, vI a1, vI a2]) [] s o) := by
  show J _ _ (Go X 2 91 0 [some (oR 0 0), some (vI a1), some (vI a2), none] [] s o)
  unfold f91
  refine g_p q91 1 1 [some (oR 0 0), some (vI a1), some (vI a2), none] [oR 0 0] rfl ?_
  refine g_m (S := [oR 8 0]) (some (oR 8 0)) q91 rfl rfl rfl (fun _ => rfl) rfl ?_
  refine g_m (S := [oR 3 0]) (some (oR 3 0)) q91 rfl rfl rfl (fun _ => rfl) rfl ?_
  refine g_p q91 3 10 [some (oR 0 0), some (vI a1), some (vI a2), some (oR 3 0)] [vI a1, oR 3 0] rfl ?_
  refine g_cPI q91 rfl (g49 X 0 a1 s) rfl rfl rfl rfl rfl (fun r1 => ?_)
  refine g_i1 q91 rfl rfl ?_ ?_
  ·
    refine g_p q91 1 20 [some (oR 0 0), some (vI a1), some (vI a2), some (oR 3 0)] [vI a2] rfl ?_
    refine g_sw q91 rfl ?_
    refine g_swc ?_ ?_
    ·
      refine g_p q91 1 53 [some (oR 0 0), some (vI a1), some (vI a2), some (oR 3 0)] [oR 3 0] rfl ?_
      refine g_m (S := [aR 395 0]) (some (aR 395 0)) q91 rfl rfl rfl (fun _ => rfl) rfl ?_
      refine g_p q91 1 57 [some (oR 0 0), some (vI a1), some (vI a2), some (oR 3 0)] [vI a1, aR 395 0] rfl ?_
      refine g_ld q91 rfl rfl rfl rfl rfl rfl (fun v2 => ?_)
      exact g_ret q91 rfl rfl rfl
    ·
      refine g_swc ?_ ?_
      ·
        refine g_p q91 1 60 [some (oR 0 0), some (vI a1), some (vI a2), some (oR 3 0)] [oR 3 0] rfl ?_
        refine g_m (S := [aR 396 0]) (some (aR 396 0)) q91 rfl rfl rfl (fun _ => rfl) rfl ?_
        refine g_p q91 1 64 [some (oR 0 0), some (vI a1), some (vI a2), some (oR 3 0)] [vI a1, aR 396 0] rfl ?_
        refine g_ld q91 rfl rfl rfl rfl rfl rfl (fun v3 => ?_)
        exact g_ret q91 rfl rfl rfl
      ·
        refine g_swc ?_ ?_
        ·
          refine g_p q91 1 67 [some (oR 0 0), some (vI a1), some (vI a2), some (oR 3 0)] [oR 0 0] rfl ?_
          refine g_m (S := [oR 8 0]) (some (oR 8 0)) q91 rfl rfl rfl (fun _ => rfl) rfl ?_
          refine g_m (S := [oR 4 0]) (some (oR 4 0)) q91 rfl rfl rfl (fun _ => rfl) rfl ?_
          refine g_m (S := [aR 516 0]) (some (aR 516 0)) q91 rfl rfl rfl (fun _ => rfl) rfl ?_
          refine g_p q91 1 77 [some (oR 0 0), some (vI a1), some (vI a2), some (oR 3 0)] [vI a1, aR 516 0] rfl ?_
          refine g_ld q91 rfl rfl rfl rfl rfl rfl (fun v4 => ?_)
          exact g_ret q91 rfl rfl rfl
        ·
          refine g_swc ?_ ?_
          ·
            refine g_p q91 1 80 [some (oR 0 0), some (vI a1), some (vI a2), some (oR 3 0)] [oR 0 0] rfl ?_
            refine g_m (S := [oR 8 0]) (some (oR 8 0)) q91 rfl rfl rfl (fun _ => rfl) rfl ?_
            refine g_m (S := [oR 4 0]) (some (oR 4 0)) q91 rfl rfl rfl (fun _ => rfl) rfl ?_
            refine g_m (S := [aR 515 0]) (some (aR 515 0)) q91 rfl rfl rfl (fun _ => rfl) rfl ?_
            refine g_p q91 1 90 [some (oR 0 0), some (vI a1), some (vI a2), some (oR 3 0)] [vI a1, aR 515 0] rfl ?_
            refine g_ld q91 rfl rfl rfl rfl rfl rfl (fun v5 => ?_)
            exact g_ret q91 rfl rfl rfl
          ·
            refine g_swe ?_
            refine g_p q91 1 94 [some (oR 0 0), some (vI a1), some (vI a2), some (oR 3 0)] [vI (-2)] rfl ?_
            exact g_ret q91 rfl rfl rfl
  ·
    refine g_p q91 1 18 [some (oR 0 0), some (vI a1), some (vI a2), some (oR 3 0)] [vI (-2)] rfl ?_
    exact g_ret q91 rfl rfl rfl
theorem q272 : am_cd 272 = am_c272 := rfl
theorem g272 (X : X2) (a0 : Int) (a1 : Int) (s : S2) (o : Option (AV R2) × S2) : J (f272 a0 a1) (fun (r : Int) => o = (some (vI r), s)) (Go X 1 272 0 (am_loc (am_nl 272) [vI a0, vI a1]) [] s o) := by
  show J _ _ (Go X 1 272 0 [some (vI a0), some (vI a1), none] [] s o)
  unfold f272
  refine g_p q272 2 2 [some (vI a0), some (vI a1), none] [vI a1, vI a0] rfl ?_
  refine g_irem q272 rfl ?_
  refine g_top (fun v1 => ?_)
  refine g_p q272 4 7 [some (vI a0), some (vI a1), some (vI v1)] [vI (jxor a0 a1)] rfl ?_
  refine g_i1 q272 rfl rfl ?_ ?_
  ·
    refine g_p q272 1 19 [some (vI a0), some (vI a1), some (vI v1)] [vI v1] rfl ?_
    exact g_ret q272 rfl rfl rfl
  ·
    refine g_p q272 1 11 [some (vI a0), some (vI a1), some (vI v1)] [vI v1] rfl ?_
    refine g_i1 q272 rfl rfl ?_ ?_
    ·
      refine g_p q272 1 19 [some (vI a0), some (vI a1), some (vI v1)] [vI v1] rfl ?_
      exact g_ret q272 rfl rfl rfl
    ·
      refine g_p q272 3 17 [some (vI a0), some (vI a1), some (vI v1)] [vI (jadd v1 a1)] rfl ?_
      refine g_top (fun v2 => ?_)
      exact g_ret q272 rfl rfl rfl
theorem q286 : am_cd 286 = am_c286 := rfl
theorem g286 (X : X2) (a0 : Nat) (a1 : Nat) (s : S2) (o : Option (AV R2) × S2) : J (f286 a0 a1 s) (fun (r : S2) => o = (none, r)) (Go X 2 286 0 (am_loc (am_nl 286) [oR 4 a0, oR 4 a1]) [] s o) := by
  show J _ _ (Go X 2 286 0 [some (oR 4 a0), some (oR 4 a1)] [] s o)
  unfold f286
  refine g_p q286 1 1 [some (oR 4 a0), some (oR 4 a1)] [oR 4 a0] rfl ?_
  refine g_p q286 2 5 [some (oR 4 a0), some (oR 4 a1)] [oR 4 a1] rfl ?_
  refine g_p q286 3 10 [some (oR 4 a0), some (oR 4 a1)] [oR 4 a0, oR 4 a1] rfl ?_
  refine g_cV q286 rfl (g58 X a1 a0 s) rfl rfl rfl rfl rfl (fun s1 => ?_)
  exact g_retV q286 rfl rfl
theorem q93 : am_cd 93 = am_c93 := rfl
theorem g93 (X : X2) (a0 : Nat) (s : S2) (o : Option (AV R2) × S2) : J (f93 a0 s) (fun (r : S2) => o = (none, r)) (Go X 3 93 0 (am_loc (am_nl 93) [oR 8 a0]) [] s o) := by
  show J _ _ (Go X 3 93 0 [some (oR 8 a0), none] [] s o)
  unfold f93
  refine g_p q93 1 1 [some (oR 8 a0), none] [oR 8 a0] rfl ?_
  refine g_get q93 rfl rfl rfl (fun _ => rfl) (fun v1 => ?_)
  refine g_p q93 1 6 [some (oR 8 a0), none] [vI 20, vI v1] rfl ?_
  refine g_cPI q93 rfl (g272 X v1 20 s) rfl rfl rfl rfl rfl (fun r2 => ?_)
  refine g_p q93 2 11 [some (oR 8 a0), some (vI r2)] [oR 8 a0] rfl ?_
  refine g_m (S := [oR 4 (32 * a0 + 0)]) (some (oR 4 (32 * a0 + 0))) q93 rfl rfl rfl (fun _ => rfl) rfl ?_
  refine g_p q93 1 15 [some (oR 8 a0), some (vI r2)] [oR 8 a0, oR 4 (32 * a0 + 0)] rfl ?_
  refine g_m (S := [aR 1026 a0, oR 4 (32 * a0 + 0)]) (some (aR 1026 a0)) q93 rfl rfl rfl (fun _ => rfl) rfl ?_
  refine g_p q93 1 19 [some (oR 8 a0), some (vI r2)] [vI r2, aR 1026 a0, oR 4 (32 * a0 + 0)] rfl ?_
  refine g_ldr q93 rfl rfl rfl rfl rfl (fun i4 => ?_)
  refine g_cV q93 rfl (g286 X (32 * a0 + 0) i4 s) rfl rfl rfl rfl rfl (fun s5 => ?_)
  refine g_p q93 4 27 [some (oR 8 a0), some (vI r2)] [vI (jadd r2 1), oR 8 a0] rfl ?_
  refine g_put q93 rfl rfl rfl (fun _ => rfl) (fun s6 => ?_)
  refine g_p q93 3 34 [some (oR 8 a0), some (vI r2)] [oR 8 a0, vI 20, oR 8 a0] rfl ?_
  refine g_get q93 rfl rfl rfl (fun _ => rfl) (fun v7 => ?_)
  refine g_p q93 2 39 [some (oR 8 a0), some (vI r2)] [vI (jadd v7 1), vI 20, oR 8 a0] rfl ?_
  refine g_m (S := [vI (jmin 20 (jadd v7 1)), oR 8 a0]) (some (vI (jmin 20 (jadd v7 1)))) q93 rfl rfl rfl (fun _ => rfl) rfl ?_
  refine g_put q93 rfl rfl rfl (fun _ => rfl) (fun s8 => ?_)
  exact g_retV q93 rfl rfl
theorem q95 : am_cd 95 = am_c95 := rfl
theorem g95 (X : X2) (a1 : Int) (s : S2) (o : Option (AV R2) × S2) : J (f95 a1 s) (fun (r : Int) => o = (some (vI r), s)) (Go X 1 95 0 (am_loc (am_nl 95) [oR 9 0, vI a1]) [] s o) := by
  show J _ _ (Go X 1 95 0 [some (oR 9 0), some (vI a1)] [] s o)
  unfold f95
  refine g_p q95 1 1 [some (oR 9 0), some (vI a1)] [oR 9 0] rfl ?_
  refine g_get q95 rfl rfl rfl (fun _ => rfl) (fun v1 => ?_)
  refine g_i1 q95 rfl rfl ?_ ?_
  ·
    refine g_p q95 3 24 [some (oR 9 0), some (vI a1)] [oR 9 0, vI a1, vI 0] rfl ?_
    refine g_dyn q95 rfl rfl rfl (fun _ => rfl) (fun i2 => ?_)
    refine g_get q95 rfl rfl rfl (fun _ => rfl) (fun v3 => ?_)
    refine g_p q95 1 31 [some (oR 9 0), some (vI a1)] [vI (jsub a1 v3), vI 0] rfl ?_
    refine g_m (S := [vI (jmax 0 (jsub a1 v3))]) (some (vI (jmax 0 (jsub a1 v3)))) q95 rfl rfl rfl (fun _ => rfl) rfl ?_
    refine g_top (fun v4 => ?_)
    exact g_ret q95 rfl rfl rfl
  ·
    refine g_p q95 2 9 [some (oR 9 0), some (vI a1)] [oR 9 0, vI a1] rfl ?_
    refine g_dyn q95 rfl rfl rfl (fun _ => rfl) (fun i5 => ?_)
    refine g_get q95 rfl rfl rfl (fun _ => rfl) (fun v6 => ?_)
    refine g_m (S := [vI (jmax a1 v6)]) (some (vI (jmax a1 v6))) q95 rfl rfl rfl (fun _ => rfl) rfl ?_
    refine g_p q95 1 34 [some (oR 9 0), some (vI a1)] [vI (jmax a1 v6)] rfl ?_
    refine g_top (fun v7 => ?_)
    exact g_ret q95 rfl rfl rfl
