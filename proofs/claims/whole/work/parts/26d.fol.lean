/-! THE SMALL MACHINE FOLLOWS THE FUNCTIONS, written by a program (gen_fn.py) -/
theorem q123 : am_cd 123 = am_c123 := rfl
def H123_a (X : X2) (y3 : Nat) (y4 : Int) (y5 : Int) (y6 : Int) (o : Option (AV R2) × S2) (a : Int × Int × S2) : Prop := Go X 6 123 42 [none, some (oR 9 0), some (oR 4 y3), some (vI y4), some (vI y5), none, some (vI y6), some (vI (a.1)), some (vI (a.2.1)), none] [] (a.2.2) o
def E123_a (X : X2) (y3 : Nat) (y4 : Int) (y5 : Int) (y6 : Int) (o : Option (AV R2) × S2) : (Int × S2) → Prop := (fun (r : Int × S2) => Go X 6 123 150 [none, none, none, none, none, none, none, some (vI (r.1)), none, none] [] (r.2) o)
theorem g123_a (X : X2) (y3 : Nat) (y4 : Int) (y5 : Int) (y6 : Int) (x7 : Int) (x8 : Int) (s9 : S2) (o : Option (AV R2) × S2) : J (f123_a y3 y4 y5 y6 x7 x8 s9) (am_kx (H123_a X y3 y4 y5 y6 o) (E123_a X y3 y4 y5 y6 o)) (Go X 6 123 42 [none, some (oR 9 0), some (oR 4 y3), some (vI y4), some (vI y5), none, some (vI y6), some (vI x7), some (vI x8), none] [] s9 o) := by
  unfold f123_a
  refine g_p q123 2 47 [none, some (oR 9 0), some (oR 4 y3), some (vI y4), some (vI y5), none, some (vI y6), some (vI x7), some (vI x8), none] [vI 1024, vI x8] rfl ?_
  refine g_i2 q123 rfl rfl ?_ ?_
  ·
    exact g_end (fun h => g_wk [false, false, false, false, false, false, false, true, false, false] rfl h)
  ·
    refine g_p q123 2 53 [none, some (oR 9 0), some (oR 4 y3), some (vI y4), some (vI y5), none, some (vI y6), some (vI x7), some (vI x8), none] [vI (-1), vI x7] rfl ?_
    refine g_jn (fun j74 => ∀ (x10 : Int), J (j74 x10) (am_kx (H123_a X y3 y4 y5 y6 o) (E123_a X y3 y4 y5 y6 o)) (Go X 6 123 74 [none, some (oR 9 0), some (oR 4 y3), some (vI y4), some (vI y5), none, some (vI y6), some (vI x7), some (vI x8), none] [vI x10] s9 o)) ?_ (fun j74 hj74 => ?_)
    ·
      intro x10
      refine g_p q123 6 83 [none, some (oR 9 0), some (oR 4 y3), some (vI y4), some (vI y5), none, some (vI y6), some (vI x7), some (vI x8), some (vI x10)] [vI (jand x8 (jxor y6 (-1)))] rfl ?_
      refine g_i1 q123 rfl rfl ?_ ?_
      ·
        refine g_inc (fun v11 => [none, some (oR 9 0), some (oR 4 y3), some (vI y4), some (vI y5), none, some (vI y6), some (vI x7), some (vI v11), some (vI x10)]) q123 rfl rfl (fun _ => rfl) (fun v11 => ?_)
        refine g_p q123 1 42 [none, some (oR 9 0), some (oR 4 y3), some (vI y4), some (vI y5), none, some (vI y6), some (vI x7), some (vI v11), some (vI x10)] [] rfl ?_
        exact g_end (fun h => g_wk [false, true, true, true, true, false, true, true, true, false] rfl h)
      ·
        refine g_p q123 1 88 [none, some (oR 9 0), some (oR 4 y3), some (vI y4), some (vI y5), none, some (vI y6), some (vI x7), some (vI x8), some (vI x10)] [vI x10] rfl ?_
        refine g_i1 q123 rfl rfl ?_ ?_
        ·
          refine g_inc (fun v12 => [none, some (oR 9 0), some (oR 4 y3), some (vI y4), some (vI y5), none, some (vI y6), some (vI x7), some (vI v12), some (vI x10)]) q123 rfl rfl (fun _ => rfl) (fun v12 => ?_)
          refine g_p q123 1 42 [none, some (oR 9 0), some (oR 4 y3), some (vI y4), some (vI y5), none, some (vI y6), some (vI x7), some (vI v12), some (vI x10)] [] rfl ?_
          exact g_end (fun h => g_wk [false, true, true, true, true, false, true, true, true, false] rfl h)
        ·
          refine g_p q123 1 92 [none, some (oR 9 0), some (oR 4 y3), some (vI y4), some (vI y5), none, some (vI y6), some (vI x7), some (vI x8), some (vI x10)] [oR 9 0] rfl ?_
          refine g_m (S := [oR 4 160]) (some (oR 4 160)) q123 rfl rfl rfl (fun _ => rfl) rfl ?_
          refine g_p q123 1 96 [none, some (oR 9 0), some (oR 4 y3), some (vI y4), some (vI y5), none, some (vI y6), some (vI x7), some (vI x8), some (vI x10)] [oR 4 y3, oR 4 160] rfl ?_
          refine g_cV q123 rfl (g58 X 160 y3 s9) rfl rfl rfl rfl rfl (fun s13 => ?_)
          refine g_p q123 5 106 [none, some (oR 9 0), some (oR 4 y3), some (vI y4), some (vI y5), none, some (vI y6), some (vI x7), some (vI x8), some (vI x10)] [vI (-1), vI y5, vI y4, vI x8, oR 9 0] rfl ?_
          refine g_jn (fun j114 => ∀ (x14 : Int), J (j114 x14) (am_kx (H123_a X y3 y4 y5 y6 o) (E123_a X y3 y4 y5 y6 o)) (Go X 6 123 114 [none, some (oR 9 0), some (oR 4 y3), some (vI y4), some (vI y5), none, some (vI y6), some (vI x7), some (vI x8), none] [vI x14, vI y4, vI x8, oR 9 0] s13 o)) ?_ (fun j114 hj114 => ?_)
          ·
            intro x14
            refine g_cRI q123 rfl (g125 X x8 y4 x14 s13) rfl rfl rfl rfl rfl (fun r15 s16 => ?_)
            refine g_i1 q123 rfl rfl ?_ ?_
            ·
              refine g_inc (fun v17 => [none, some (oR 9 0), some (oR 4 y3), some (vI y4), some (vI y5), none, some (vI y6), some (vI x7), some (vI v17), none]) q123 rfl rfl (fun _ => rfl) (fun v17 => ?_)
              refine g_p q123 1 42 [none, some (oR 9 0), some (oR 4 y3), some (vI y4), some (vI y5), none, some (vI y6), some (vI x7), some (vI v17), none] [] rfl ?_
              exact g_end (fun h => g_wk [false, true, true, true, true, false, true, true, true, false] rfl h)
            ·
              refine g_p q123 2 122 [none, some (oR 9 0), some (oR 4 y3), some (vI y4), some (vI y5), none, some (vI y6), some (vI x7), some (vI x8), none] [vI 0, oR 9 0] rfl ?_
              refine g_cV q123 rfl (g78 X 0 s16) rfl rfl rfl rfl rfl (fun s18 => ?_)
              refine g_p q123 2 127 [none, some (oR 9 0), some (oR 4 y3), some (vI y4), some (vI y5), none, some (vI y6), some (vI x7), some (vI x8), none] [vI y4, oR 9 0] rfl ?_
              refine g_cRI q123 rfl (g81 X y4 s18) rfl rfl rfl rfl rfl (fun r19 s20 => ?_)
              refine g_p q123 1 132 [none, some (oR 9 0), some (oR 4 y3), some (vI y4), some (vI y5), none, some (vI y6), some (vI x7), some (vI x8), none] [vI y5, vI r19] rfl ?_
              refine g_i2 q123 rfl rfl ?_ ?_
              ·
                refine g_p q123 2 144 [none, some (oR 9 0), some (oR 4 y3), some (vI y4), some (vI y5), none, some (vI y6), some (vI x7), some (vI x8), none] [] rfl ?_
                refine g_inc (fun v21 => [none, some (oR 9 0), some (oR 4 y3), some (vI y4), some (vI y5), none, some (vI y6), some (vI x7), some (vI v21), none]) q123 rfl rfl (fun _ => rfl) (fun v21 => ?_)
                refine g_p q123 1 42 [none, some (oR 9 0), some (oR 4 y3), some (vI y4), some (vI y5), none, some (vI y6), some (vI x7), some (vI v21), none] [] rfl ?_
                exact g_end (fun h => g_wk [false, true, true, true, true, false, true, true, true, false] rfl h)
              ·
                refine g_p q123 3 144 [none, some (oR 9 0), some (oR 4 y3), some (vI y4), some (vI y5), none, some (vI y6), some (vI x8), some (vI x8), none] [] rfl ?_
                refine g_inc (fun v22 => [none, some (oR 9 0), some (oR 4 y3), some (vI y4), some (vI y5), none, some (vI y6), some (vI x8), some (vI v22), none]) q123 rfl rfl (fun _ => rfl) (fun v22 => ?_)
                refine g_p q123 1 42 [none, some (oR 9 0), some (oR 4 y3), some (vI y4), some (vI y5), none, some (vI y6), some (vI x8), some (vI v22), none] [] rfl ?_
                exact g_end (fun h => g_wk [false, true, true, true, true, false, true, true, true, false] rfl h)
          ·
            refine g_i2 q123 rfl rfl ?_ ?_
            ·
              refine g_p q123 1 114 [none, some (oR 9 0), some (oR 4 y3), some (vI y4), some (vI y5), none, some (vI y6), some (vI x7), some (vI x8), some (vI x10)] [vI 0, vI y4, vI x8, oR 9 0] rfl ?_
              exact g_wkJ [false, true, true, true, true, false, true, true, true, false] rfl (hj114 0)
            ·
              refine g_p q123 2 114 [none, some (oR 9 0), some (oR 4 y3), some (vI y4), some (vI y5), none, some (vI y6), some (vI x7), some (vI x8), some (vI x10)] [vI 1, vI y4, vI x8, oR 9 0] rfl ?_
              exact g_wkJ [false, true, true, true, true, false, true, true, true, false] rfl (hj114 1)
    ·
      refine g_jn (fun j69 => ∀ (_ : Unit), J (j69 ()) (am_kx (H123_a X y3 y4 y5 y6 o) (E123_a X y3 y4 y5 y6 o)) (Go X 6 123 69 [none, some (oR 9 0), some (oR 4 y3), some (vI y4), some (vI y5), none, some (vI y6), some (vI x7), some (vI x8), none] [] s9 o)) ?_ (fun j69 hj69 => ?_)
      ·
        intro _
        refine g_p q123 2 74 [none, some (oR 9 0), some (oR 4 y3), some (vI y4), some (vI y5), none, some (vI y6), some (vI x7), some (vI x8), none] [vI 1] rfl ?_
        exact g_wkJ [false, true, true, true, true, false, true, true, true, false] rfl (hj74 1)
      ·
        refine g_i2 q123 rfl rfl ?_ ?_
        ·
          exact g_wkJ [false, true, true, true, true, false, true, true, true, false] rfl (hj69 ())
        ·
          refine g_p q123 1 58 [none, some (oR 9 0), some (oR 4 y3), some (vI y4), some (vI y5), none, some (vI y6), some (vI x7), some (vI x8), none] [vI x8] rfl ?_
          refine g_cPI q123 rfl (g273 X x8 s9) rfl rfl rfl rfl rfl (fun r23 => ?_)
          refine g_p q123 1 63 [none, some (oR 9 0), some (oR 4 y3), some (vI y4), some (vI y5), none, some (vI y6), some (vI x7), some (vI x8), none] [vI x7, vI r23] rfl ?_
          refine g_cPI q123 rfl (g273 X x7 s9) rfl rfl rfl rfl rfl (fun r24 => ?_)
          refine g_i2 q123 rfl rfl ?_ ?_
          ·
            refine g_p q123 1 74 [none, some (oR 9 0), some (oR 4 y3), some (vI y4), some (vI y5), none, some (vI y6), some (vI x7), some (vI x8), none] [vI 0] rfl ?_
            exact g_wkJ [false, true, true, true, true, false, true, true, true, false] rfl (hj74 0)
          ·
            exact g_wkJ [false, true, true, true, true, false, true, true, true, false] rfl (hj69 ())
theorem g123 (X : X2) (a2 : Nat) (a3 : Int) (a4 : Int) (s : S2) (o : Option (AV R2) × S2) : J (f123 a2 a3 a4 s) (fun (r : Int × S2) => o = (some (vI r.1), r.2)) (Go X 6 123 0 (am_loc (am_nl 123) [oR 10 0, oR 9 0, oR 4 a2, vI a3, vI a4]) [] s o) := by
  show J _ _ (Go X 6 123 0 [some (oR 10 0), some (oR 9 0), some (oR 4 a2), some (vI a3), some (vI a4), none, none, none, none, none] [] s o)
  unfold f123
  refine g_p q123 1 1 [some (oR 10 0), some (oR 9 0), some (oR 4 a2), some (vI a3), some (vI a4), none, none, none, none, none] [oR 9 0] rfl ?_
  refine g_dyn q123 rfl rfl rfl (fun _ => rfl) (fun i1 => ?_)
  refine g_p q123 3 9 [some (oR 10 0), some (oR 9 0), some (oR 4 a2), some (vI a3), some (vI a4), some (oR 3 i1), none, none, none, none] [vI (-1), vI a4] rfl ?_
  refine g_jn (fun j34 => ∀ (x2 : Int), J (j34 x2) (fun (r : Int × S2) => o = (some (vI r.1), r.2)) (Go X 6 123 34 [none, some (oR 9 0), some (oR 4 a2), some (vI a3), some (vI a4), none, none, none, none, none] [vI x2] s o)) ?_ (fun j34 hj34 => ?_)
  ·
    intro x2
    refine g_p q123 5 42 [none, some (oR 9 0), some (oR 4 a2), some (vI a3), some (vI a4), none, some (vI x2), some (vI (-1)), some (vI 0), none] [] rfl ?_
    refine g_wkJ [false, true, true, true, true, false, true, true, true, false] (L0 := [none, some (oR 9 0), some (oR 4 a2), some (vI a3), some (vI a4), none, some (vI x2), some (vI (-1)), some (vI 0), none]) rfl ?_
    refine g_itr (H123_a X a2 a3 a4 x2 o) (E123_a X a2 a3 a4 x2 o) (fun | (x7, x8, s9) => g123_a X a2 a3 a4 x2 x7 x8 s9 o) ?_
    rintro ⟨z25, s26⟩
    show J _ _ (Go X 6 123 150 [none, none, none, none, none, none, none, some (vI z25), none, none] [] s26 o)
    refine g_p q123 1 152 [none, none, none, none, none, none, none, some (vI z25), none, none] [vI z25] rfl ?_
    exact g_ret q123 rfl rfl rfl
  ·
    refine g_i2 q123 rfl rfl ?_ ?_
    ·
      refine g_p q123 2 24 [some (oR 10 0), some (oR 9 0), some (oR 4 a2), some (vI a3), some (vI a4), some (oR 3 i1), none, none, none, none] [vI a4, oR 3 i1] rfl ?_
      refine g_cPI q123 rfl (g87 X i1 a4 s) rfl rfl rfl rfl rfl (fun r27 => ?_)
      refine g_p q123 1 28 [some (oR 10 0), some (oR 9 0), some (oR 4 a2), some (vI a3), some (vI a4), some (oR 3 i1), none, none, none, none] [oR 4 a2, vI r27] rfl ?_
      refine g_cPI q123 rfl (g124 X a2 s) rfl rfl rfl rfl rfl (fun r28 => ?_)
      refine g_p q123 3 34 [some (oR 10 0), some (oR 9 0), some (oR 4 a2), some (vI a3), some (vI a4), some (oR 3 i1), none, none, none, none] [vI (jand r27 (jxor r28 (-1)))] rfl ?_
      exact g_wkJ [false, true, true, true, true, false, false, false, false, false] rfl (hj34 (jand r27 (jxor r28 (-1))))
    ·
      refine g_p q123 2 14 [some (oR 10 0), some (oR 9 0), some (oR 4 a2), some (vI a3), some (vI a4), some (oR 3 i1), none, none, none, none] [vI a3, oR 4 a2] rfl ?_
      refine g_cPI q123 rfl (g89 X a2 a3 s) rfl rfl rfl rfl rfl (fun r29 => ?_)
      refine g_p q123 1 34 [some (oR 10 0), some (oR 9 0), some (oR 4 a2), some (vI a3), some (vI a4), some (oR 3 i1), none, none, none, none] [vI r29] rfl ?_
      exact g_wkJ [false, true, true, true, true, false, false, false, false, false] rfl (hj34 r29)
theorem q126 : am_cd 126 = am_c126 := rfl
theorem g126 (X : X2) (a0 : Int) (a1 : Int) (s : S2) (o : Option (AV R2) × S2) : J (f126 a0 a1) (fun (r : Int) => o = (some (vI r), s)) (Go X 2 126 0 (am_loc (am_nl 126) [vI a0, vI a1]) [] s o) := by
  show J _ _ (Go X 2 126 0 [some (vI a0), some (vI a1)] [] s o)
  unfold f126
  refine g_p q126 2 2 [some (vI a0), some (vI a1)] [vI (-1), vI a0] rfl ?_
  refine g_i2 q126 rfl rfl ?_ ?_
  ·
    refine g_p q126 1 9 [some (vI a0), some (vI a1)] [vI a1] rfl ?_
    refine g_i1 q126 rfl rfl ?_ ?_
    ·
      refine g_p q126 1 20 [some (vI a0), some (vI a1)] [vI a0] rfl ?_
      exact g_ret q126 rfl rfl rfl
    ·
      refine g_p q126 1 13 [some (vI a0), some (vI a1)] [vI a0] rfl ?_
      refine g_cPI q126 rfl (g273 X a0 s) rfl rfl rfl rfl rfl (fun r1 => ?_)
      refine g_p q126 1 20 [some (vI a0), some (vI a1)] [vI r1] rfl ?_
      exact g_ret q126 rfl rfl rfl
  ·
    refine g_p q126 1 7 [some (vI a0), some (vI a1)] [vI (-2)] rfl ?_
    exact g_ret q126 rfl rfl rfl
theorem q122 : am_cd 122 = am_c122 := rfl
theorem g122 (X : X2) (a1 : Int) (a2 : Int) (s : S2) (o : Option (AV R2) × S2) : J (f122 a1 a2 s) (fun (r : Int × S2) => o = (some (vI r.1), r.2)) (Go X 7 122 0 (am_loc (am_nl 122) [oR 0 0, vI a1, vI a2]) [] s o) := by
  show J _ _ (Go X 7 122 0 [some (oR 0 0), some (vI a1), some (vI a2)] [] s o)
  unfold f122
  refine g_p q122 1 1 [some (oR 0 0), some (vI a1), some (vI a2)] [oR 0 0] rfl ?_
  refine g_m (S := [oR 8 0]) (some (oR 8 0)) q122 rfl rfl rfl (fun _ => rfl) rfl ?_
  refine g_m (S := [oR 3 0]) (some (oR 3 0)) q122 rfl rfl rfl (fun _ => rfl) rfl ?_
  refine g_p q122 1 8 [some (oR 0 0), some (vI a1), some (vI a2)] [vI a1, oR 3 0] rfl ?_
  refine g_cPI q122 rfl (g50 X 0 a1 s) rfl rfl rfl rfl rfl (fun r1 => ?_)
  refine g_i1 q122 rfl rfl ?_ ?_
  ·
    refine g_p q122 1 24 [some (oR 0 0), some (vI a1), some (vI a2)] [vI (-1)] rfl ?_
    exact g_ret q122 rfl rfl rfl
  ·
    refine g_p q122 1 15 [some (oR 0 0), some (vI a1), some (vI a2)] [vI a2] rfl ?_
    refine g_i1 q122 rfl rfl ?_ ?_
    ·
      refine g_p q122 1 24 [some (oR 0 0), some (vI a1), some (vI a2)] [vI (-1)] rfl ?_
      exact g_ret q122 rfl rfl rfl
    ·
      refine g_p q122 2 20 [some (oR 0 0), some (vI a1), some (vI a2)] [vI 1, vI a2] rfl ?_
      refine g_i2 q122 rfl rfl ?_ ?_
      ·
        refine g_p q122 1 26 [some (oR 0 0), some (vI a1), some (vI a2)] [oR 0 0] rfl ?_
        refine g_cV q122 rfl (g75 X s) rfl rfl rfl rfl rfl (fun s2 => ?_)
        refine g_p q122 1 30 [some (oR 0 0), some (vI a1), some (vI a2)] [oR 0 0] rfl ?_
        refine g_m (S := [oR 10 0]) (some (oR 10 0)) q122 rfl rfl rfl (fun _ => rfl) rfl ?_
        refine g_p q122 1 34 [some (oR 0 0), some (vI a1), some (vI a2)] [oR 0 0, oR 10 0] rfl ?_
        refine g_m (S := [oR 9 0, oR 10 0]) (some (oR 9 0)) q122 rfl rfl rfl (fun _ => rfl) rfl ?_
        refine g_p q122 1 38 [some (oR 0 0), some (vI a1), some (vI a2)] [oR 0 0, oR 9 0, oR 10 0] rfl ?_
        refine g_m (S := [oR 8 0, oR 9 0, oR 10 0]) (some (oR 8 0)) q122 rfl rfl rfl (fun _ => rfl) rfl ?_
        refine g_m (S := [oR 4 0, oR 9 0, oR 10 0]) (some (oR 4 0)) q122 rfl rfl rfl (fun _ => rfl) rfl ?_
        refine g_p q122 2 46 [some (oR 0 0), some (vI a1), some (vI a2)] [vI (-1), vI a1, oR 4 0, oR 9 0, oR 10 0] rfl ?_
        refine g_cRI q122 rfl (g123 X 0 a1 (-1) s2) rfl rfl rfl rfl rfl (fun r3 s4 => ?_)
        refine g_p q122 1 50 [some (oR 0 0), some (vI a1), some (vI a2)] [vI a2, vI r3] rfl ?_
        refine g_cPI q122 rfl (g126 X r3 a2 s4) rfl rfl rfl rfl rfl (fun r5 => ?_)
        exact g_ret q122 rfl rfl rfl
      ·
        refine g_p q122 1 24 [some (oR 0 0), some (vI a1), some (vI a2)] [vI (-1)] rfl ?_
        exact g_ret q122 rfl rfl rfl
theorem q127 : am_cd 127 = am_c127 := rfl
theorem g127 (X : X2) (a1 : Int) (a2 : Int) (a3 : Int) (s : S2) (o : Option (AV R2) × S2) : J (f127 a1 a2 a3 s) (fun (r : Int × S2) => o = (some (vI r.1), r.2)) (Go X 7 127 0 (am_loc (am_nl 127) [oR 0 0, vI a1, vI a2, vI a3]) [] s o) := by
  show J _ _ (Go X 7 127 0 [some (oR 0 0), some (vI a1), some (vI a2), some (vI a3)] [] s o)
  unfold f127
  refine g_p q127 1 1 [some (oR 0 0), some (vI a1), some (vI a2), some (vI a3)] [oR 0 0] rfl ?_
  refine g_m (S := [oR 8 0]) (some (oR 8 0)) q127 rfl rfl rfl (fun _ => rfl) rfl ?_
  refine g_m (S := [oR 3 0]) (some (oR 3 0)) q127 rfl rfl rfl (fun _ => rfl) rfl ?_
  refine g_p q127 1 8 [some (oR 0 0), some (vI a1), some (vI a2), some (vI a3)] [vI a1, oR 3 0] rfl ?_
  refine g_cPI q127 rfl (g51 X 0 a1 s) rfl rfl rfl rfl rfl (fun r1 => ?_)
  refine g_i1 q127 rfl rfl ?_ ?_
  ·
    refine g_p q127 1 38 [some (oR 0 0), some (vI a1), some (vI a2), some (vI a3)] [vI (-1)] rfl ?_
    exact g_ret q127 rfl rfl rfl
  ·
    refine g_p q127 1 15 [some (oR 0 0), some (vI a1), some (vI a2), some (vI a3)] [oR 0 0] rfl ?_
    refine g_m (S := [oR 8 0]) (some (oR 8 0)) q127 rfl rfl rfl (fun _ => rfl) rfl ?_
    refine g_m (S := [oR 3 0]) (some (oR 3 0)) q127 rfl rfl rfl (fun _ => rfl) rfl ?_
    refine g_p q127 1 22 [some (oR 0 0), some (vI a1), some (vI a2), some (vI a3)] [vI a2, oR 3 0] rfl ?_
    refine g_cPI q127 rfl (g50 X 0 a2 s) rfl rfl rfl rfl rfl (fun r2 => ?_)
    refine g_i1 q127 rfl rfl ?_ ?_
    ·
      refine g_p q127 1 38 [some (oR 0 0), some (vI a1), some (vI a2), some (vI a3)] [vI (-1)] rfl ?_
      exact g_ret q127 rfl rfl rfl
    ·
      refine g_p q127 1 29 [some (oR 0 0), some (vI a1), some (vI a2), some (vI a3)] [vI a3] rfl ?_
      refine g_i1 q127 rfl rfl ?_ ?_
      ·
        refine g_p q127 1 38 [some (oR 0 0), some (vI a1), some (vI a2), some (vI a3)] [vI (-1)] rfl ?_
        exact g_ret q127 rfl rfl rfl
      ·
        refine g_p q127 2 34 [some (oR 0 0), some (vI a1), some (vI a2), some (vI a3)] [vI 1, vI a3] rfl ?_
        refine g_i2 q127 rfl rfl ?_ ?_
        ·
          refine g_p q127 1 40 [some (oR 0 0), some (vI a1), some (vI a2), some (vI a3)] [oR 0 0] rfl ?_
          refine g_cV q127 rfl (g75 X s) rfl rfl rfl rfl rfl (fun s3 => ?_)
          refine g_p q127 1 44 [some (oR 0 0), some (vI a1), some (vI a2), some (vI a3)] [oR 0 0] rfl ?_
          refine g_m (S := [oR 10 0]) (some (oR 10 0)) q127 rfl rfl rfl (fun _ => rfl) rfl ?_
          refine g_p q127 1 48 [some (oR 0 0), some (vI a1), some (vI a2), some (vI a3)] [oR 0 0, oR 10 0] rfl ?_
          refine g_m (S := [oR 9 0, oR 10 0]) (some (oR 9 0)) q127 rfl rfl rfl (fun _ => rfl) rfl ?_
          refine g_p q127 1 52 [some (oR 0 0), some (vI a1), some (vI a2), some (vI a3)] [oR 0 0, oR 9 0, oR 10 0] rfl ?_
          refine g_m (S := [oR 8 0, oR 9 0, oR 10 0]) (some (oR 8 0)) q127 rfl rfl rfl (fun _ => rfl) rfl ?_
          refine g_m (S := [oR 4 0, oR 9 0, oR 10 0]) (some (oR 4 0)) q127 rfl rfl rfl (fun _ => rfl) rfl ?_
          refine g_p q127 2 60 [some (oR 0 0), some (vI a1), some (vI a2), some (vI a3)] [vI a1, vI a2, oR 4 0, oR 9 0, oR 10 0] rfl ?_
          refine g_cRI q127 rfl (g123 X 0 a2 a1 s3) rfl rfl rfl rfl rfl (fun r4 s5 => ?_)
          refine g_p q127 1 64 [some (oR 0 0), some (vI a1), some (vI a2), some (vI a3)] [vI a3, vI r4] rfl ?_
          refine g_cPI q127 rfl (g126 X r4 a3 s5) rfl rfl rfl rfl rfl (fun r6 => ?_)
          exact g_ret q127 rfl rfl rfl
        ·
          refine g_p q127 1 38 [some (oR 0 0), some (vI a1), some (vI a2), some (vI a3)] [vI (-1)] rfl ?_
          exact g_ret q127 rfl rfl rfl
theorem q130 : am_cd 130 = am_c130 := rfl
theorem g130 (X : X2) (a1 : Nat) (a2 : Int) (s : S2) (o : Option (AV R2) × S2) : J (f130 a1 a2 s) (fun (r : S2) => o = (none, r)) (Go X 1 130 0 (am_loc (am_nl 130) [oR 10 0, oR 3 a1, vI a2]) [] s o) := by
  show J _ _ (Go X 1 130 0 [some (oR 10 0), some (oR 3 a1), some (vI a2), none, none, none] [] s o)
  unfold f130
  refine g_p q130 1 1 [some (oR 10 0), some (oR 3 a1), some (vI a2), none, none, none] [oR 3 a1] rfl ?_
  refine g_m (S := [aR 391 a1]) (some (aR 391 a1)) q130 rfl rfl rfl (fun _ => rfl) rfl ?_
  refine g_p q130 1 5 [some (oR 10 0), some (oR 3 a1), some (vI a2), none, none, none] [vI a2, aR 391 a1] rfl ?_
  refine g_ld q130 rfl rfl rfl rfl rfl rfl (fun v1 => ?_)
  refine g_p q130 2 8 [some (oR 10 0), some (oR 3 a1), some (vI a2), some (vI v1), none, none] [oR 3 a1] rfl ?_
  refine g_m (S := [aR 392 a1]) (some (aR 392 a1)) q130 rfl rfl rfl (fun _ => rfl) rfl ?_
  refine g_p q130 1 12 [some (oR 10 0), some (oR 3 a1), some (vI a2), some (vI v1), none, none] [vI a2, aR 392 a1] rfl ?_
  refine g_ld q130 rfl rfl rfl rfl rfl rfl (fun v2 => ?_)
  refine g_p q130 2 16 [some (oR 10 0), some (oR 3 a1), some (vI a2), some (vI v1), some (vI v2), none] [vI v1] rfl ?_
  refine g_i1 q130 rfl rfl ?_ ?_
  ·
    exact g_retV q130 rfl rfl
  ·
    refine g_p q130 2 22 [some (oR 10 0), some (oR 3 a1), some (vI a2), some (vI v1), some (vI v2), none] [vI 8, vI v1] rfl ?_
    refine g_i2 q130 rfl rfl ?_ ?_
    ·
      exact g_retV q130 rfl rfl
    ·
      refine g_p q130 1 27 [some (oR 10 0), some (oR 3 a1), some (vI a2), some (vI v1), some (vI v2), none] [vI v2] rfl ?_
      refine g_i1 q130 rfl rfl ?_ ?_
      ·
        exact g_retV q130 rfl rfl
      ·
        refine g_p q130 2 34 [some (oR 10 0), some (oR 3 a1), some (vI a2), some (vI v1), some (vI v2), none] [vI 8, vI v2] rfl ?_
        refine g_i2 q130 rfl rfl ?_ ?_
        ·
          exact g_retV q130 rfl rfl
        ·
          refine g_p q130 2 40 [some (oR 10 0), some (oR 3 a1), some (vI a2), some (vI v1), some (vI v2), none] [oR 3 a1, vI 16] rfl ?_
          refine g_m (S := [aR 393 a1, vI 16]) (some (aR 393 a1)) q130 rfl rfl rfl (fun _ => rfl) rfl ?_
          refine g_p q130 1 44 [some (oR 10 0), some (oR 3 a1), some (vI a2), some (vI v1), some (vI v2), none] [vI a2, aR 393 a1, vI 16] rfl ?_
          refine g_ld q130 rfl rfl rfl rfl rfl rfl (fun v3 => ?_)
          refine g_p q130 3 48 [some (oR 10 0), some (oR 3 a1), some (vI a2), some (vI v1), some (vI v2), none] [vI (jadd (jmul 16 v3) 1)] rfl ?_
          refine g_top (fun v4 => ?_)
          refine g_p q130 2 51 [some (oR 10 0), some (oR 3 a1), some (vI a2), some (vI v1), some (vI v2), some (vI v4)] [oR 10 0] rfl ?_
          refine g_m (S := [aR 1291 0]) (some (aR 1291 0)) q130 rfl rfl rfl (fun _ => rfl) rfl ?_
          refine g_p q130 2 56 [some (oR 10 0), some (oR 3 a1), some (vI a2), some (vI v1), some (vI v2), some (vI v4)] [oR 10 0, vI v1, aR 1291 0] rfl ?_
          refine g_m (S := [aR 1291 0, vI v1, aR 1291 0]) (some (aR 1291 0)) q130 rfl rfl rfl (fun _ => rfl) rfl ?_
          refine g_p q130 1 60 [some (oR 10 0), some (oR 3 a1), some (vI a2), some (vI v1), some (vI v2), some (vI v4)] [vI v1, aR 1291 0, vI v1, aR 1291 0] rfl ?_
          refine g_ld q130 rfl rfl rfl rfl rfl rfl (fun v5 => ?_)
          refine g_p q130 1 62 [some (oR 10 0), some (oR 3 a1), some (vI a2), some (vI v1), some (vI v2), some (vI v4)] [oR 10 0, vI v5, vI v1, aR 1291 0] rfl ?_
          refine g_m (S := [aR 1291 0, vI v5, vI v1, aR 1291 0]) (some (aR 1291 0)) q130 rfl rfl rfl (fun _ => rfl) rfl ?_
          refine g_p q130 1 67 [some (oR 10 0), some (oR 3 a1), some (vI a2), some (vI v1), some (vI v2), some (vI v4)] [vI v2, aR 1291 0, vI v5, vI v1, aR 1291 0] rfl ?_
          refine g_ld q130 rfl rfl rfl rfl rfl rfl (fun v6 => ?_)
          refine g_p q130 2 71 [some (oR 10 0), some (oR 3 a1), some (vI a2), some (vI v1), some (vI v2), some (vI v4)] [vI (jadd v6 v4), vI v5, vI v1, aR 1291 0] rfl ?_
          refine g_m (S := [vI (jmin v5 (jadd v6 v4)), vI v1, aR 1291 0]) (some (vI (jmin v5 (jadd v6 v4)))) q130 rfl rfl rfl (fun _ => rfl) rfl ?_
          refine g_sto q130 rfl rfl rfl rfl (fun s7 => ?_)
          refine g_p q130 1 76 [some (oR 10 0), some (oR 3 a1), some (vI a2), some (vI v1), some (vI v2), some (vI v4)] [oR 10 0] rfl ?_
          refine g_m (S := [aR 1291 0]) (some (aR 1291 0)) q130 rfl rfl rfl (fun _ => rfl) rfl ?_
          refine g_p q130 2 82 [some (oR 10 0), some (oR 3 a1), some (vI a2), some (vI v1), some (vI v2), some (vI v4)] [oR 10 0, vI v2, aR 1291 0] rfl ?_
          refine g_m (S := [aR 1291 0, vI v2, aR 1291 0]) (some (aR 1291 0)) q130 rfl rfl rfl (fun _ => rfl) rfl ?_
          refine g_p q130 1 87 [some (oR 10 0), some (oR 3 a1), some (vI a2), some (vI v1), some (vI v2), some (vI v4)] [vI v2, aR 1291 0, vI v2, aR 1291 0] rfl ?_
          refine g_ld q130 rfl rfl rfl rfl rfl rfl (fun v8 => ?_)
          refine g_p q130 1 89 [some (oR 10 0), some (oR 3 a1), some (vI a2), some (vI v1), some (vI v2), some (vI v4)] [oR 10 0, vI v8, vI v2, aR 1291 0] rfl ?_
          refine g_m (S := [aR 1291 0, vI v8, vI v2, aR 1291 0]) (some (aR 1291 0)) q130 rfl rfl rfl (fun _ => rfl) rfl ?_
          refine g_p q130 1 93 [some (oR 10 0), some (oR 3 a1), some (vI a2), some (vI v1), some (vI v2), some (vI v4)] [vI v1, aR 1291 0, vI v8, vI v2, aR 1291 0] rfl ?_
          refine g_ld q130 rfl rfl rfl rfl rfl rfl (fun v9 => ?_)
          refine g_p q130 2 97 [some (oR 10 0), some (oR 3 a1), some (vI a2), some (vI v1), some (vI v2), some (vI v4)] [vI (jadd v9 v4), vI v8, vI v2, aR 1291 0] rfl ?_
          refine g_m (S := [vI (jmin v8 (jadd v9 v4)), vI v2, aR 1291 0]) (some (vI (jmin v8 (jadd v9 v4)))) q130 rfl rfl rfl (fun _ => rfl) rfl ?_
          refine g_sto q130 rfl rfl rfl rfl (fun s10 => ?_)
          exact g_retV q130 rfl rfl
theorem q131 : am_cd 131 = am_c131 := rfl
theorem g131 (X : X2) (a1 : Int) (s : S2) (o : Option (AV R2) × S2) : J (f131 a1 s) (fun (r : Int) => o = (some (vI r), s)) (Go X 1 131 0 (am_loc (am_nl 131) [oR 10 0, vI a1]) [] s o) := by
  show J _ _ (Go X 1 131 0 [some (oR 10 0), some (vI a1)] [] s o)
  unfold f131
  refine g_p q131 1 1 [some (oR 10 0), some (vI a1)] [vI a1] rfl ?_
  refine g_i1 q131 rfl rfl ?_ ?_
  ·
    refine g_p q131 1 21 [some (oR 10 0), some (vI a1)] [vI 1000000] rfl ?_
    exact g_ret q131 rfl rfl rfl
  ·
    refine g_p q131 2 7 [some (oR 10 0), some (vI a1)] [vI 8, vI a1] rfl ?_
    refine g_i2 q131 rfl rfl ?_ ?_
    ·
      refine g_p q131 1 21 [some (oR 10 0), some (vI a1)] [vI 1000000] rfl ?_
      exact g_ret q131 rfl rfl rfl
    ·
      refine g_p q131 1 11 [some (oR 10 0), some (vI a1)] [oR 10 0] rfl ?_
      refine g_m (S := [aR 1291 0]) (some (aR 1291 0)) q131 rfl rfl rfl (fun _ => rfl) rfl ?_
      refine g_p q131 1 15 [some (oR 10 0), some (vI a1)] [vI a1, aR 1291 0] rfl ?_
      refine g_ld q131 rfl rfl rfl rfl rfl rfl (fun v1 => ?_)
      refine g_p q131 1 21 [some (oR 10 0), some (vI a1)] [vI v1] rfl ?_
      exact g_ret q131 rfl rfl rfl
theorem q132 : am_cd 132 = am_c132 := rfl
theorem g132 (X : X2) (a1 : Nat) (a2 : Int) (a3 : Int) (a4 : Int) (s : S2) (o : Option (AV R2) × S2) : J (f132 a1 a2 a3 a4 s) (fun (r : Int) => o = (some (vI r), s)) (Go X 2 132 0 (am_loc (am_nl 132) [oR 10 0, oR 3 a1, vI a2, vI a3, vI a4]) [] s o) := by
  show J _ _ (Go X 2 132 0 [some (oR 10 0), some (oR 3 a1), some (vI a2), some (vI a3), some (vI a4), none] [] s o)
  unfold f132
  refine g_p q132 2 3 [some (oR 10 0), some (oR 3 a1), some (vI a2), some (vI a3), some (vI a4), none] [oR 3 a1, vI 16] rfl ?_
  refine g_m (S := [aR 393 a1, vI 16]) (some (aR 393 a1)) q132 rfl rfl rfl (fun _ => rfl) rfl ?_
  refine g_p q132 1 7 [some (oR 10 0), some (oR 3 a1), some (vI a2), some (vI a3), some (vI a4), none] [vI a2, aR 393 a1, vI 16] rfl ?_
  refine g_ld q132 rfl rfl rfl rfl rfl rfl (fun v1 => ?_)
  refine g_p q132 3 11 [some (oR 10 0), some (oR 3 a1), some (vI a2), some (vI a3), some (vI a4), none] [vI (jadd (jmul 16 v1) 1)] rfl ?_
  refine g_top (fun v2 => ?_)
  refine g_p q132 2 14 [some (oR 10 0), some (oR 3 a1), some (vI a2), some (vI a3), some (vI a4), some (vI v2)] [oR 3 a1] rfl ?_
  refine g_m (S := [aR 391 a1]) (some (aR 391 a1)) q132 rfl rfl rfl (fun _ => rfl) rfl ?_
  refine g_p q132 1 18 [some (oR 10 0), some (oR 3 a1), some (vI a2), some (vI a3), some (vI a4), some (vI v2)] [vI a2, aR 391 a1] rfl ?_
  refine g_ld q132 rfl rfl rfl rfl rfl rfl (fun v3 => ?_)
  refine g_p q132 1 20 [some (oR 10 0), some (oR 3 a1), some (vI a2), some (vI a3), some (vI a4), some (vI v2)] [vI a3, vI v3] rfl ?_
  refine g_jn (fun j41 => ∀ (_ : Unit), J (j41 ()) (fun (r : Int) => o = (some (vI r), s)) (Go X 2 132 41 [some (oR 10 0), some (oR 3 a1), some (vI a2), some (vI a3), some (vI a4), some (vI v2)] [] s o)) ?_ (fun j41 hj41 => ?_)
  ·
    intro _
    refine g_p q132 1 42 [some (oR 10 0), some (oR 3 a1), some (vI a2), some (vI a3), some (vI a4), some (vI v2)] [oR 3 a1] rfl ?_
    refine g_m (S := [aR 392 a1]) (some (aR 392 a1)) q132 rfl rfl rfl (fun _ => rfl) rfl ?_
    refine g_p q132 1 46 [some (oR 10 0), some (oR 3 a1), some (vI a2), some (vI a3), some (vI a4), some (vI v2)] [vI a2, aR 392 a1] rfl ?_
    refine g_ld q132 rfl rfl rfl rfl rfl rfl (fun v4 => ?_)
    refine g_p q132 1 48 [some (oR 10 0), some (oR 3 a1), some (vI a2), some (vI a3), some (vI a4), some (vI v2)] [vI a3, vI v4] rfl ?_
    refine g_i2 q132 rfl rfl ?_ ?_
    ·
      refine g_p q132 1 74 [some (oR 10 0), some (oR 3 a1), some (vI a2), some (vI a3), some (vI a4), some (vI v2)] [vI 0] rfl ?_
      exact g_ret q132 rfl rfl rfl
    ·
      refine g_p q132 2 53 [some (oR 10 0), some (oR 3 a1), some (vI a2), some (vI a3), some (vI a4), some (vI v2)] [oR 3 a1, oR 10 0] rfl ?_
      refine g_m (S := [aR 391 a1, oR 10 0]) (some (aR 391 a1)) q132 rfl rfl rfl (fun _ => rfl) rfl ?_
      refine g_p q132 1 57 [some (oR 10 0), some (oR 3 a1), some (vI a2), some (vI a3), some (vI a4), some (vI v2)] [vI a2, aR 391 a1, oR 10 0] rfl ?_
      refine g_ld q132 rfl rfl rfl rfl rfl rfl (fun v5 => ?_)
      refine g_cPI q132 rfl (g131 X v5 s) rfl rfl rfl rfl rfl (fun r6 => ?_)
      refine g_p q132 3 66 [some (oR 10 0), some (oR 3 a1), some (vI a2), some (vI a3), some (vI a4), some (vI v2)] [vI a4, vI (jadd r6 v2)] rfl ?_
      refine g_i2 q132 rfl rfl ?_ ?_
      ·
        refine g_p q132 1 74 [some (oR 10 0), some (oR 3 a1), some (vI a2), some (vI a3), some (vI a4), some (vI v2)] [vI 0] rfl ?_
        exact g_ret q132 rfl rfl rfl
      ·
        refine g_p q132 2 74 [some (oR 10 0), some (oR 3 a1), some (vI a2), some (vI a3), some (vI a4), some (vI v2)] [vI 1] rfl ?_
        exact g_ret q132 rfl rfl rfl
  ·
    refine g_i2 q132 rfl rfl ?_ ?_
    ·
      exact g_wkJ [true, true, true, true, true, true] rfl (hj41 ())
    ·
      refine g_p q132 2 25 [some (oR 10 0), some (oR 3 a1), some (vI a2), some (vI a3), some (vI a4), some (vI v2)] [oR 3 a1, oR 10 0] rfl ?_
      refine g_m (S := [aR 392 a1, oR 10 0]) (some (aR 392 a1)) q132 rfl rfl rfl (fun _ => rfl) rfl ?_
      refine g_p q132 1 29 [some (oR 10 0), some (oR 3 a1), some (vI a2), some (vI a3), some (vI a4), some (vI v2)] [vI a2, aR 392 a1, oR 10 0] rfl ?_
      refine g_ld q132 rfl rfl rfl rfl rfl rfl (fun v7 => ?_)
      refine g_cPI q132 rfl (g131 X v7 s) rfl rfl rfl rfl rfl (fun r8 => ?_)
      refine g_p q132 3 38 [some (oR 10 0), some (oR 3 a1), some (vI a2), some (vI a3), some (vI a4), some (vI v2)] [vI a4, vI (jadd r8 v2)] rfl ?_
      refine g_i2 q132 rfl rfl ?_ ?_
      ·
        refine g_p q132 2 74 [some (oR 10 0), some (oR 3 a1), some (vI a2), some (vI a3), some (vI a4), some (vI v2)] [vI 1] rfl ?_
        exact g_ret q132 rfl rfl rfl
      ·
        exact g_wkJ [true, true, true, true, true, true] rfl (hj41 ())
theorem q129 : am_cd 129 = am_c129 := rfl
def H129_a (X : X2) (y1 : Nat) (y2 : Nat) (y3 : Int) (y4 : Int) (o : Option (AV R2) × S2) (a : Int × S2) : Prop := Go X 3 129 3 [some (oR 10 0), some (oR 3 y1), some (oR 4 y2), some (vI y3), some (vI y4), some (vI (a.1)), none] [] (a.2) o
def E129_a (X : X2) (y1 : Nat) (y2 : Nat) (y3 : Int) (y4 : Int) (o : Option (AV R2) × S2) : (S2) → Prop := (fun (r : S2) => Go X 3 129 36 [some (oR 10 0), some (oR 3 y1), some (oR 4 y2), some (vI y3), some (vI y4), none, none] [] r o)
theorem g129_a (X : X2) (y1 : Nat) (y2 : Nat) (y3 : Int) (y4 : Int) (x5 : Int) (s6 : S2) (o : Option (AV R2) × S2) : J (f129_a y4 x5 s6) (am_kx (H129_a X y1 y2 y3 y4 o) (E129_a X y1 y2 y3 y4 o)) (Go X 3 129 3 [some (oR 10 0), some (oR 3 y1), some (oR 4 y2), some (vI y3), some (vI y4), some (vI x5), none] [] s6 o) := by
  unfold f129_a
  refine g_p q129 2 7 [some (oR 10 0), some (oR 3 y1), some (oR 4 y2), some (vI y3), some (vI y4), some (vI x5), none] [vI 8, vI x5] rfl ?_
  refine g_i2 q129 rfl rfl ?_ ?_
  ·
    exact g_end (fun h => g_wk [true, true, true, true, true, false, false] rfl h)
  ·
    refine g_p q129 1 11 [some (oR 10 0), some (oR 3 y1), some (oR 4 y2), some (vI y3), some (vI y4), some (vI x5), none] [oR 10 0] rfl ?_
    refine g_m (S := [aR 1291 0]) (some (aR 1291 0)) q129 rfl rfl rfl (fun _ => rfl) rfl ?_
    refine g_p q129 3 20 [some (oR 10 0), some (oR 3 y1), some (oR 4 y2), some (vI y3), some (vI y4), some (vI x5), none] [vI y4, vI x5, vI x5, aR 1291 0] rfl ?_
    refine g_jn (fun j29 => ∀ (x7 : Int), J (j29 x7) (am_kx (H129_a X y1 y2 y3 y4 o) (E129_a X y1 y2 y3 y4 o)) (Go X 3 129 29 [some (oR 10 0), some (oR 3 y1), some (oR 4 y2), some (vI y3), some (vI y4), some (vI x5), none] [vI x7, vI x5, aR 1291 0] s6 o)) ?_ (fun j29 hj29 => ?_)
    ·
      intro x7
      refine g_sto q129 rfl rfl rfl rfl (fun s8 => ?_)
      refine g_inc (fun v9 => [some (oR 10 0), some (oR 3 y1), some (oR 4 y2), some (vI y3), some (vI y4), some (vI v9), none]) q129 rfl rfl (fun _ => rfl) (fun v9 => ?_)
      refine g_p q129 1 3 [some (oR 10 0), some (oR 3 y1), some (oR 4 y2), some (vI y3), some (vI y4), some (vI v9), none] [] rfl ?_
      exact g_end (fun h => g_wk [true, true, true, true, true, true, false] rfl h)
    ·
      refine g_i2 q129 rfl rfl ?_ ?_
      ·
        refine g_p q129 1 29 [some (oR 10 0), some (oR 3 y1), some (oR 4 y2), some (vI y3), some (vI y4), some (vI x5), none] [vI 1000000, vI x5, aR 1291 0] rfl ?_
        exact g_wkJ [true, true, true, true, true, true, false] rfl (hj29 1000000)
      ·
        refine g_p q129 2 29 [some (oR 10 0), some (oR 3 y1), some (oR 4 y2), some (vI y3), some (vI y4), some (vI x5), none] [vI 0, vI x5, aR 1291 0] rfl ?_
        exact g_wkJ [true, true, true, true, true, true, false] rfl (hj29 0)
def H129_c (X : X2) (y17 : Nat) (y18 : Nat) (y19 : Int) (y20 : Int) (y21 : Int) (o : Option (AV R2) × S2) (a : Int × S2) : Prop := Go X 3 129 49 [some (oR 10 0), some (oR 3 y17), some (oR 4 y18), some (vI y19), some (vI y20), some (vI y21), some (vI (a.1))] [] (a.2) o
def E129_c (X : X2) (y17 : Nat) (y18 : Nat) (y19 : Int) (y20 : Int) (y21 : Int) (o : Option (AV R2) × S2) : (S2) → Prop := (fun (r : S2) => Go X 3 129 88 [some (oR 10 0), some (oR 3 y17), some (oR 4 y18), some (vI y19), some (vI y20), some (vI y21), none] [] r o)
theorem g129_c (X : X2) (y17 : Nat) (y18 : Nat) (y19 : Int) (y20 : Int) (y21 : Int) (x22 : Int) (s23 : S2) (o : Option (AV R2) × S2) : J (f129_c y17 y18 x22 s23) (am_kx (H129_c X y17 y18 y19 y20 y21 o) (E129_c X y17 y18 y19 y20 y21 o)) (Go X 3 129 49 [some (oR 10 0), some (oR 3 y17), some (oR 4 y18), some (vI y19), some (vI y20), some (vI y21), some (vI x22)] [] s23 o) := by
  unfold f129_c
  refine g_p q129 2 53 [some (oR 10 0), some (oR 3 y17), some (oR 4 y18), some (vI y19), some (vI y20), some (vI y21), some (vI x22)] [vI 6, vI x22] rfl ?_
  refine g_i2 q129 rfl rfl ?_ ?_
  ·
    exact g_end (fun h => g_wk [true, true, true, true, true, true, false] rfl h)
  ·
    refine g_p q129 2 59 [some (oR 10 0), some (oR 3 y17), some (oR 4 y18), some (vI y19), some (vI y20), some (vI y21), some (vI x22)] [vI x22, oR 3 y17] rfl ?_
    refine g_cPI q129 rfl (g50 X y17 x22 s23) rfl rfl rfl rfl rfl (fun r24 => ?_)
    refine g_i1 q129 rfl rfl ?_ ?_
    ·
      refine g_inc (fun v25 => [some (oR 10 0), some (oR 3 y17), some (oR 4 y18), some (vI y19), some (vI y20), some (vI y21), some (vI v25)]) q129 rfl rfl (fun _ => rfl) (fun v25 => ?_)
      refine g_p q129 1 49 [some (oR 10 0), some (oR 3 y17), some (oR 4 y18), some (vI y19), some (vI y20), some (vI y21), some (vI v25)] [] rfl ?_
      exact g_end (fun h => g_wk [true, true, true, true, true, true, true] rfl h)
    ·
      refine g_p q129 1 66 [some (oR 10 0), some (oR 3 y17), some (oR 4 y18), some (vI y19), some (vI y20), some (vI y21), some (vI x22)] [oR 4 y18] rfl ?_
      refine g_m (S := [aR 514 y18]) (some (aR 514 y18)) q129 rfl rfl rfl (fun _ => rfl) rfl ?_
      refine g_p q129 1 71 [some (oR 10 0), some (oR 3 y17), some (oR 4 y18), some (vI y19), some (vI y20), some (vI y21), some (vI x22)] [vI x22, aR 514 y18] rfl ?_
      refine g_ld q129 rfl rfl rfl rfl rfl rfl (fun v26 => ?_)
      refine g_i1 q129 rfl rfl ?_ ?_
      ·
        refine g_inc (fun v27 => [some (oR 10 0), some (oR 3 y17), some (oR 4 y18), some (vI y19), some (vI y20), some (vI y21), some (vI v27)]) q129 rfl rfl (fun _ => rfl) (fun v27 => ?_)
        refine g_p q129 1 49 [some (oR 10 0), some (oR 3 y17), some (oR 4 y18), some (vI y19), some (vI y20), some (vI y21), some (vI v27)] [] rfl ?_
        exact g_end (fun h => g_wk [true, true, true, true, true, true, true] rfl h)
      ·
        refine g_p q129 3 79 [some (oR 10 0), some (oR 3 y17), some (oR 4 y18), some (vI y19), some (vI y20), some (vI y21), some (vI x22)] [vI x22, oR 3 y17, oR 10 0] rfl ?_
        refine g_cV q129 rfl (g130 X y17 x22 s23) rfl rfl rfl rfl rfl (fun s28 => ?_)
        refine g_inc (fun v29 => [some (oR 10 0), some (oR 3 y17), some (oR 4 y18), some (vI y19), some (vI y20), some (vI y21), some (vI v29)]) q129 rfl rfl (fun _ => rfl) (fun v29 => ?_)
        refine g_p q129 1 49 [some (oR 10 0), some (oR 3 y17), some (oR 4 y18), some (vI y19), some (vI y20), some (vI y21), some (vI v29)] [] rfl ?_
        exact g_end (fun h => g_wk [true, true, true, true, true, true, true] rfl h)
def H129_b (X : X2) (y11 : Nat) (y12 : Nat) (y13 : Int) (y14 : Int) (o : Option (AV R2) × S2) (a : Int × S2) : Prop := Go X 3 129 39 [some (oR 10 0), some (oR 3 y11), some (oR 4 y12), some (vI y13), some (vI y14), some (vI (a.1)), none] [] (a.2) o
def E129_b (X : X2) (y11 : Nat) (y12 : Nat) (y13 : Int) (y14 : Int) (o : Option (AV R2) × S2) : (S2) → Prop := (fun (r : S2) => Go X 3 129 94 [some (oR 10 0), some (oR 3 y11), some (oR 4 y12), some (vI y13), some (vI y14), none, none] [] r o)
theorem g129_b (X : X2) (y11 : Nat) (y12 : Nat) (y13 : Int) (y14 : Int) (x15 : Int) (s16 : S2) (o : Option (AV R2) × S2) : J (f129_b y11 y12 x15 s16) (am_kx (H129_b X y11 y12 y13 y14 o) (E129_b X y11 y12 y13 y14 o)) (Go X 3 129 39 [some (oR 10 0), some (oR 3 y11), some (oR 4 y12), some (vI y13), some (vI y14), some (vI x15), none] [] s16 o) := by
  unfold f129_b
  refine g_p q129 2 43 [some (oR 10 0), some (oR 3 y11), some (oR 4 y12), some (vI y13), some (vI y14), some (vI x15), none] [vI 8, vI x15] rfl ?_
  refine g_i2 q129 rfl rfl ?_ ?_
  ·
    exact g_end (fun h => g_wk [true, true, true, true, true, false, false] rfl h)
  ·
    refine g_p q129 2 49 [some (oR 10 0), some (oR 3 y11), some (oR 4 y12), some (vI y13), some (vI y14), some (vI x15), some (vI 0)] [] rfl ?_
    refine g_wkJ [true, true, true, true, true, true, true] (L0 := [some (oR 10 0), some (oR 3 y11), some (oR 4 y12), some (vI y13), some (vI y14), some (vI x15), some (vI 0)]) rfl ?_
    refine g_itr (H129_c X y11 y12 y13 y14 x15 o) (E129_c X y11 y12 y13 y14 x15 o) (fun | (x22, s23) => g129_c X y11 y12 y13 y14 x15 x22 s23 o) ?_
    intro s30
    show J _ _ (Go X 3 129 88 [some (oR 10 0), some (oR 3 y11), some (oR 4 y12), some (vI y13), some (vI y14), some (vI x15), none] [] s30 o)
    refine g_inc (fun v31 => [some (oR 10 0), some (oR 3 y11), some (oR 4 y12), some (vI y13), some (vI y14), some (vI v31), none]) q129 rfl rfl (fun _ => rfl) (fun v31 => ?_)
    refine g_p q129 1 39 [some (oR 10 0), some (oR 3 y11), some (oR 4 y12), some (vI y13), some (vI y14), some (vI v31), none] [] rfl ?_
    exact g_end (fun h => g_wk [true, true, true, true, true, true, false] rfl h)
def H129_d (X : X2) (y36 : Nat) (y37 : Nat) (y38 : Int) (y39 : Int) (y40 : Int) (o : Option (AV R2) × S2) (a : Int × S2) : Prop := Go X 3 129 118 [some (oR 10 0), some (oR 3 y36), some (oR 4 y37), some (vI y38), some (vI y39), some (vI y40), some (vI (a.1))] [] (a.2) o
def E129_d (X : X2) (y36 : Nat) (y37 : Nat) (y38 : Int) (y39 : Int) (y40 : Int) (o : Option (AV R2) × S2) : (S2) → Prop := (fun (r : S2) => Go X 3 129 173 [none, none, none, none, none, some (vI y40), none] [] r o)
theorem g129_d (X : X2) (y36 : Nat) (y37 : Nat) (y38 : Int) (y39 : Int) (y40 : Int) (x41 : Int) (s42 : S2) (o : Option (AV R2) × S2) : J (f129_d y36 y37 y38 y39 y40 x41 s42) (am_kx (H129_d X y36 y37 y38 y39 y40 o) (E129_d X y36 y37 y38 y39 y40 o)) (Go X 3 129 118 [some (oR 10 0), some (oR 3 y36), some (oR 4 y37), some (vI y38), some (vI y39), some (vI y40), some (vI x41)] [] s42 o) := by
  unfold f129_d
  refine g_p q129 1 120 [some (oR 10 0), some (oR 3 y36), some (oR 4 y37), some (vI y38), some (vI y39), some (vI y40), some (vI x41)] [vI x41] rfl ?_
  refine g_i1 q129 rfl rfl ?_ ?_
  ·
    exact g_end (fun h => g_wk [false, false, false, false, false, true, false] rfl h)
  ·
    refine g_p q129 2 126 [some (oR 10 0), some (oR 3 y36), some (oR 4 y37), some (vI y38), some (vI y39), some (vI y40), some (vI x41)] [vI y39, vI y38] rfl ?_
    refine g_i2 q129 rfl rfl ?_ ?_
    ·
      exact g_end (fun h => g_wk [false, false, false, false, false, true, false] rfl h)
    ·
      refine g_p q129 2 132 [some (oR 10 0), some (oR 3 y36), some (oR 4 y37), some (vI y38), some (vI y39), some (vI y40), some (vI x41)] [vI x41, oR 3 y36] rfl ?_
      refine g_cPI q129 rfl (g50 X y36 x41 s42) rfl rfl rfl rfl rfl (fun r43 => ?_)
      refine g_i1 q129 rfl rfl ?_ ?_
      ·
        refine g_inc (fun v44 => [some (oR 10 0), some (oR 3 y36), some (oR 4 y37), some (vI y38), some (vI y39), some (vI y40), some (vI v44)]) q129 rfl rfl (fun _ => rfl) (fun v44 => ?_)
        refine g_p q129 1 118 [some (oR 10 0), some (oR 3 y36), some (oR 4 y37), some (vI y38), some (vI y39), some (vI y40), some (vI v44)] [] rfl ?_
        exact g_end (fun h => g_wk [true, true, true, true, true, true, true] rfl h)
      ·
        refine g_p q129 1 139 [some (oR 10 0), some (oR 3 y36), some (oR 4 y37), some (vI y38), some (vI y39), some (vI y40), some (vI x41)] [oR 4 y37] rfl ?_
        refine g_m (S := [aR 514 y37]) (some (aR 514 y37)) q129 rfl rfl rfl (fun _ => rfl) rfl ?_
        refine g_p q129 1 144 [some (oR 10 0), some (oR 3 y36), some (oR 4 y37), some (vI y38), some (vI y39), some (vI y40), some (vI x41)] [vI x41, aR 514 y37] rfl ?_
        refine g_ld q129 rfl rfl rfl rfl rfl rfl (fun v45 => ?_)
        refine g_i1 q129 rfl rfl ?_ ?_
        ·
          refine g_inc (fun v46 => [some (oR 10 0), some (oR 3 y36), some (oR 4 y37), some (vI y38), some (vI y39), some (vI y40), some (vI v46)]) q129 rfl rfl (fun _ => rfl) (fun v46 => ?_)
          refine g_p q129 1 118 [some (oR 10 0), some (oR 3 y36), some (oR 4 y37), some (vI y38), some (vI y39), some (vI y40), some (vI v46)] [] rfl ?_
          exact g_end (fun h => g_wk [true, true, true, true, true, true, true] rfl h)
        ·
          refine g_p q129 5 155 [some (oR 10 0), some (oR 3 y36), some (oR 4 y37), some (vI y38), some (vI y39), some (vI y40), some (vI x41)] [vI y40, vI y38, vI x41, oR 3 y36, oR 10 0] rfl ?_
          refine g_cPI q129 rfl (g132 X y36 x41 y38 y40 s42) rfl rfl rfl rfl rfl (fun r47 => ?_)
          refine g_i1 q129 rfl rfl ?_ ?_
          ·
            refine g_inc (fun v48 => [some (oR 10 0), some (oR 3 y36), some (oR 4 y37), some (vI y38), some (vI y39), some (vI y40), some (vI v48)]) q129 rfl rfl (fun _ => rfl) (fun v48 => ?_)
            refine g_p q129 1 118 [some (oR 10 0), some (oR 3 y36), some (oR 4 y37), some (vI y38), some (vI y39), some (vI y40), some (vI v48)] [] rfl ?_
            exact g_end (fun h => g_wk [true, true, true, true, true, true, true] rfl h)
          ·
            refine g_p q129 2 164 [some (oR 10 0), some (oR 3 y36), some (oR 4 y37), some (vI y38), some (vI y39), some (vI y40), some (vI x41)] [vI x41, oR 10 0] rfl ?_
            refine g_put q129 rfl rfl rfl (fun _ => rfl) (fun s49 => ?_)
            refine g_inc (fun v50 => [some (oR 10 0), some (oR 3 y36), some (oR 4 y37), some (vI y38), some (vI y39), some (vI y40), some (vI v50)]) q129 rfl rfl (fun _ => rfl) (fun v50 => ?_)
            refine g_p q129 1 118 [some (oR 10 0), some (oR 3 y36), some (oR 4 y37), some (vI y38), some (vI y39), some (vI y40), some (vI v50)] [] rfl ?_
            exact g_end (fun h => g_wk [true, true, true, true, true, true, true] rfl h)
theorem g129 (X : X2) (a1 : Nat) (a2 : Nat) (a3 : Int) (a4 : Int) (s : S2) (o : Option (AV R2) × S2) : J (f129 a1 a2 a3 a4 s) (fun (r : Int × S2) => o = (some (vI r.1), r.2)) (Go X 3 129 0 (am_loc (am_nl 129) [oR 10 0, oR 3 a1, oR 4 a2, vI a3, vI a4]) [] s o) := by
  show J _ _ (Go X 3 129 0 [some (oR 10 0), some (oR 3 a1), some (oR 4 a2), some (vI a3), some (vI a4), none, none] [] s o)
  unfold f129
  refine g_p q129 2 3 [some (oR 10 0), some (oR 3 a1), some (oR 4 a2), some (vI a3), some (vI a4), some (vI 0), none] [] rfl ?_
  refine g_wkJ [true, true, true, true, true, true, false] (L0 := [some (oR 10 0), some (oR 3 a1), some (oR 4 a2), some (vI a3), some (vI a4), some (vI 0), none]) rfl ?_
  refine g_itr (H129_a X a1 a2 a3 a4 o) (E129_a X a1 a2 a3 a4 o) (fun | (x5, s6) => g129_a X a1 a2 a3 a4 x5 s6 o) ?_
  intro s10
  show J _ _ (Go X 3 129 36 [some (oR 10 0), some (oR 3 a1), some (oR 4 a2), some (vI a3), some (vI a4), none, none] [] s10 o)
  refine g_p q129 2 39 [some (oR 10 0), some (oR 3 a1), some (oR 4 a2), some (vI a3), some (vI a4), some (vI 1), none] [] rfl ?_
  refine g_wkJ [true, true, true, true, true, true, false] (L0 := [some (oR 10 0), some (oR 3 a1), some (oR 4 a2), some (vI a3), some (vI a4), some (vI 1), none]) rfl ?_
  refine g_itr (H129_b X a1 a2 a3 a4 o) (E129_b X a1 a2 a3 a4 o) (fun | (x15, s16) => g129_b X a1 a2 a3 a4 x15 s16 o) ?_
  intro s32
  show J _ _ (Go X 3 129 94 [some (oR 10 0), some (oR 3 a1), some (oR 4 a2), some (vI a3), some (vI a4), none, none] [] s32 o)
  refine g_p q129 2 96 [some (oR 10 0), some (oR 3 a1), some (oR 4 a2), some (vI a3), some (vI a4), none, none] [vI a3, oR 10 0] rfl ?_
  refine g_cPI q129 rfl (g131 X a3 s32) rfl rfl rfl rfl rfl (fun r33 => ?_)
  refine g_p q129 5 107 [some (oR 10 0), some (oR 3 a1), some (oR 4 a2), some (vI a3), some (vI a4), some (vI r33), none] [vI (jdiv r33 16), oR 10 0] rfl ?_
  refine g_put q129 rfl rfl rfl (fun _ => rfl) (fun s34 => ?_)
  refine g_p q129 2 112 [some (oR 10 0), some (oR 3 a1), some (oR 4 a2), some (vI a3), some (vI a4), some (vI r33), none] [vI (-1), oR 10 0] rfl ?_
  refine g_put q129 rfl rfl rfl (fun _ => rfl) (fun s35 => ?_)
  refine g_p q129 2 118 [some (oR 10 0), some (oR 3 a1), some (oR 4 a2), some (vI a3), some (vI a4), some (vI r33), some (vI 5)] [] rfl ?_
  refine g_wkJ [true, true, true, true, true, true, true] (L0 := [some (oR 10 0), some (oR 3 a1), some (oR 4 a2), some (vI a3), some (vI a4), some (vI r33), some (vI 5)]) rfl ?_
  refine g_itr (H129_d X a1 a2 a3 a4 r33 o) (E129_d X a1 a2 a3 a4 r33 o) (fun | (x41, s42) => g129_d X a1 a2 a3 a4 r33 x41 s42 o) ?_
  intro s51
  show J _ _ (Go X 3 129 173 [none, none, none, none, none, some (vI r33), none] [] s51 o)
  refine g_p q129 2 177 [none, none, none, none, none, some (vI r33), none] [vI 1000000, vI r33] rfl ?_
  refine g_i2 q129 rfl rfl ?_ ?_
  ·
    refine g_p q129 1 185 [none, none, none, none, none, some (vI r33), none] [vI 0] rfl ?_
    exact g_ret q129 rfl rfl rfl
  ·
    refine g_p q129 2 185 [none, none, none, none, none, some (vI r33), none] [vI 1] rfl ?_
    exact g_ret q129 rfl rfl rfl
theorem q128 : am_cd 128 = am_c128 := rfl
theorem g128 (X : X2) (a1 : Int) (a2 : Int) (a3 : Int) (s : S2) (o : Option (AV R2) × S2) : J (f128 a1 a2 a3 s) (fun (r : Int × S2) => o = (some (vI r.1), r.2)) (Go X 4 128 0 (am_loc (am_nl 128) [oR 0 0, vI a1, vI a2, vI a3]) [] s o) := by
  show J _ _ (Go X 4 128 0 [some (oR 0 0), some (vI a1), some (vI a2), some (vI a3), none] [] s o)
  unfold f128
  refine g_p q128 1 1 [some (oR 0 0), some (vI a1), some (vI a2), some (vI a3), none] [vI a1] rfl ?_
  refine g_jn (fun j25 => ∀ (x1 : Int), J (j25 x1) (fun (r : Int × S2) => o = (some (vI r.1), r.2)) (Go X 4 128 25 [some (oR 0 0), some (vI a1), some (vI a2), some (vI a3), none] [vI x1] s o)) ?_ (fun j25 hj25 => ?_)
  ·
    intro x1
    refine g_p q128 2 28 [some (oR 0 0), some (vI a1), some (vI a2), some (vI a3), some (vI x1)] [oR 0 0] rfl ?_
    refine g_m (S := [oR 8 0]) (some (oR 8 0)) q128 rfl rfl rfl (fun _ => rfl) rfl ?_
    refine g_m (S := [oR 3 0]) (some (oR 3 0)) q128 rfl rfl rfl (fun _ => rfl) rfl ?_
    refine g_get q128 rfl rfl rfl (fun _ => rfl) (fun v2 => ?_)
    refine g_i1 q128 rfl rfl ?_ ?_
    ·
      refine g_p q128 1 56 [some (oR 0 0), some (vI a1), some (vI a2), some (vI a3), some (vI x1)] [vI (-3)] rfl ?_
      exact g_ret q128 rfl rfl rfl
    ·
      refine g_p q128 1 42 [some (oR 0 0), some (vI a1), some (vI a2), some (vI a3), some (vI x1)] [vI x1] rfl ?_
      refine g_i1 q128 rfl rfl ?_ ?_
      ·
        refine g_p q128 1 56 [some (oR 0 0), some (vI a1), some (vI a2), some (vI a3), some (vI x1)] [vI (-3)] rfl ?_
        exact g_ret q128 rfl rfl rfl
      ·
        refine g_p q128 1 46 [some (oR 0 0), some (vI a1), some (vI a2), some (vI a3), some (vI x1)] [vI a3] rfl ?_
        refine g_i1 q128 rfl rfl ?_ ?_
        ·
          refine g_p q128 1 56 [some (oR 0 0), some (vI a1), some (vI a2), some (vI a3), some (vI x1)] [vI (-3)] rfl ?_
          exact g_ret q128 rfl rfl rfl
        ·
          refine g_p q128 2 51 [some (oR 0 0), some (vI a1), some (vI a2), some (vI a3), some (vI x1)] [vI 1, vI a3] rfl ?_
          refine g_i2 q128 rfl rfl ?_ ?_
          ·
            refine g_p q128 1 58 [some (oR 0 0), some (vI a1), some (vI a2), some (vI a3), some (vI x1)] [oR 0 0] rfl ?_
            refine g_m (S := [oR 10 0]) (some (oR 10 0)) q128 rfl rfl rfl (fun _ => rfl) rfl ?_
            refine g_p q128 1 62 [some (oR 0 0), some (vI a1), some (vI a2), some (vI a3), some (vI x1)] [oR 0 0, oR 10 0] rfl ?_
            refine g_m (S := [oR 8 0, oR 10 0]) (some (oR 8 0)) q128 rfl rfl rfl (fun _ => rfl) rfl ?_
            refine g_m (S := [oR 3 0, oR 10 0]) (some (oR 3 0)) q128 rfl rfl rfl (fun _ => rfl) rfl ?_
            refine g_p q128 1 69 [some (oR 0 0), some (vI a1), some (vI a2), some (vI a3), some (vI x1)] [oR 0 0, oR 3 0, oR 10 0] rfl ?_
            refine g_m (S := [oR 8 0, oR 3 0, oR 10 0]) (some (oR 8 0)) q128 rfl rfl rfl (fun _ => rfl) rfl ?_
            refine g_m (S := [oR 4 0, oR 3 0, oR 10 0]) (some (oR 4 0)) q128 rfl rfl rfl (fun _ => rfl) rfl ?_
            refine g_p q128 2 77 [some (oR 0 0), some (vI a1), some (vI a2), some (vI a3), some (vI x1)] [vI a2, vI a1, oR 4 0, oR 3 0, oR 10 0] rfl ?_
            refine g_cRI q128 rfl (g129 X 0 0 a1 a2 s) rfl rfl rfl rfl rfl (fun r3 s4 => ?_)
            refine g_i1 q128 rfl rfl ?_ ?_
            ·
              refine g_p q128 1 109 [some (oR 0 0), some (vI a1), some (vI a2), some (vI a3), some (vI x1)] [vI (-2)] rfl ?_
              exact g_ret q128 rfl rfl rfl
            ·
              refine g_p q128 1 84 [some (oR 0 0), some (vI a1), some (vI a2), some (vI a3), some (vI x1)] [vI a3] rfl ?_
              refine g_i1 q128 rfl rfl ?_ ?_
              ·
                refine g_p q128 1 98 [some (oR 0 0), some (vI a1), some (vI a2), some (vI a3), some (vI x1)] [oR 0 0] rfl ?_
                refine g_m (S := [oR 10 0]) (some (oR 10 0)) q128 rfl rfl rfl (fun _ => rfl) rfl ?_
                refine g_get q128 rfl rfl rfl (fun _ => rfl) (fun v5 => ?_)
                refine g_p q128 1 109 [some (oR 0 0), some (vI a1), some (vI a2), some (vI a3), some (vI x1)] [vI v5] rfl ?_
                exact g_ret q128 rfl rfl rfl
              ·
                refine g_p q128 1 88 [some (oR 0 0), some (vI a1), some (vI a2), some (vI a3), some (vI x1)] [oR 0 0] rfl ?_
                refine g_m (S := [oR 10 0]) (some (oR 10 0)) q128 rfl rfl rfl (fun _ => rfl) rfl ?_
                refine g_get q128 rfl rfl rfl (fun _ => rfl) (fun v6 => ?_)
                refine g_p q128 1 109 [some (oR 0 0), some (vI a1), some (vI a2), some (vI a3), some (vI x1)] [vI v6] rfl ?_
                exact g_ret q128 rfl rfl rfl
          ·
            refine g_p q128 1 56 [some (oR 0 0), some (vI a1), some (vI a2), some (vI a3), some (vI x1)] [vI (-3)] rfl ?_
            exact g_ret q128 rfl rfl rfl
  ·
    refine g_jn (fun j24 => ∀ (_ : Unit), J (j24 ()) (fun (r : Int × S2) => o = (some (vI r.1), r.2)) (Go X 4 128 24 [some (oR 0 0), some (vI a1), some (vI a2), some (vI a3), none] [] s o)) ?_ (fun j24 hj24 => ?_)
    ·
      intro _
      refine g_p q128 1 25 [some (oR 0 0), some (vI a1), some (vI a2), some (vI a3), none] [vI 0] rfl ?_
      exact g_wkJ [true, true, true, true, false] rfl (hj25 0)
    ·
      refine g_i1 q128 rfl rfl ?_ ?_
      ·
        exact g_wkJ [true, true, true, true, false] rfl (hj24 ())
      ·
        refine g_p q128 2 7 [some (oR 0 0), some (vI a1), some (vI a2), some (vI a3), none] [vI 8, vI a1] rfl ?_
        refine g_i2 q128 rfl rfl ?_ ?_
        ·
          exact g_wkJ [true, true, true, true, false] rfl (hj24 ())
        ·
          refine g_p q128 1 11 [some (oR 0 0), some (vI a1), some (vI a2), some (vI a3), none] [vI a2] rfl ?_
          refine g_i1 q128 rfl rfl ?_ ?_
          ·
            exact g_wkJ [true, true, true, true, false] rfl (hj24 ())
          ·
            refine g_p q128 2 17 [some (oR 0 0), some (vI a1), some (vI a2), some (vI a3), none] [vI 8, vI a2] rfl ?_
            refine g_i2 q128 rfl rfl ?_ ?_
            ·
              exact g_wkJ [true, true, true, true, false] rfl (hj24 ())
            ·
              refine g_p q128 2 25 [some (oR 0 0), some (vI a1), some (vI a2), some (vI a3), none] [vI 1] rfl ?_
              exact g_wkJ [true, true, true, true, false] rfl (hj25 1)
theorem q134 : am_cd 134 = am_c134 := rfl
def H134_a (X : X2) (y3 : Nat) (y4 : Nat) (y5 : Int) (s8 : S2) (o : Option (AV R2) × S2) (a : Int × Int) : Prop := Go X 2 134 13 [some (oR 4 y3), some (oR 3 y4), some (vI y5), none, some (vI (a.1)), some (vI (a.2))] [] s8 o
def E134_a (X : X2) (y3 : Nat) (y4 : Nat) (y5 : Int) (s8 : S2) (o : Option (AV R2) × S2) : (Int) → Prop := (fun (r : Int) => Go X 2 134 49 [none, some (oR 3 y4), some (vI y5), none, some (vI r), none] [] s8 o)
theorem g134_a (X : X2) (y3 : Nat) (y4 : Nat) (y5 : Int) (x6 : Int) (x7 : Int) (s8 : S2) (o : Option (AV R2) × S2) : J (f134_a y3 y5 x6 x7 s8) (am_kx (H134_a X y3 y4 y5 s8 o) (E134_a X y3 y4 y5 s8 o)) (Go X 2 134 13 [some (oR 4 y3), some (oR 3 y4), some (vI y5), none, some (vI x6), some (vI x7)] [] s8 o) := by
  unfold f134_a
  refine g_p q134 2 17 [some (oR 4 y3), some (oR 3 y4), some (vI y5), none, some (vI x6), some (vI x7)] [vI 10, vI x7] rfl ?_
  refine g_i2 q134 rfl rfl ?_ ?_
  ·
    exact g_end (fun h => g_wk [false, true, true, false, true, false] rfl h)
  ·
    refine g_p q134 1 21 [some (oR 4 y3), some (oR 3 y4), some (vI y5), none, some (vI x6), some (vI x7)] [oR 4 y3] rfl ?_
    refine g_m (S := [aR 515 y3]) (some (aR 515 y3)) q134 rfl rfl rfl (fun _ => rfl) rfl ?_
    refine g_p q134 1 26 [some (oR 4 y3), some (oR 3 y4), some (vI y5), none, some (vI x6), some (vI x7)] [vI x7, aR 515 y3] rfl ?_
    refine g_ld q134 rfl rfl rfl rfl rfl rfl (fun v9 => ?_)
    refine g_p q134 1 28 [some (oR 4 y3), some (oR 3 y4), some (vI y5), none, some (vI x6), some (vI x7)] [vI y5, vI v9] rfl ?_
    refine g_i2 q134 rfl rfl ?_ ?_
    ·
      refine g_inc (fun v10 => [some (oR 4 y3), some (oR 3 y4), some (vI y5), none, some (vI x6), some (vI v10)]) q134 rfl rfl (fun _ => rfl) (fun v10 => ?_)
      refine g_p q134 1 13 [some (oR 4 y3), some (oR 3 y4), some (vI y5), none, some (vI x6), some (vI v10)] [] rfl ?_
      exact g_end (fun h => g_wk [true, true, true, false, true, true] rfl h)
    ·
      refine g_p q134 2 34 [some (oR 4 y3), some (oR 3 y4), some (vI y5), none, some (vI x6), some (vI x7)] [oR 4 y3, vI x6] rfl ?_
      refine g_m (S := [aR 516 y3, vI x6]) (some (aR 516 y3)) q134 rfl rfl rfl (fun _ => rfl) rfl ?_
      refine g_p q134 1 39 [some (oR 4 y3), some (oR 3 y4), some (vI y5), none, some (vI x6), some (vI x7)] [vI x7, aR 516 y3, vI x6] rfl ?_
      refine g_ld q134 rfl rfl rfl rfl rfl rfl (fun v11 => ?_)
      refine g_p q134 1 41 [some (oR 4 y3), some (oR 3 y4), some (vI y5), none, some (vI x6), some (vI x7)] [vI (jadd x6 v11)] rfl ?_
      refine g_top (fun v12 => ?_)
      refine g_p q134 1 43 [some (oR 4 y3), some (oR 3 y4), some (vI y5), none, some (vI v12), some (vI x7)] [] rfl ?_
      refine g_inc (fun v13 => [some (oR 4 y3), some (oR 3 y4), some (vI y5), none, some (vI v12), some (vI v13)]) q134 rfl rfl (fun _ => rfl) (fun v13 => ?_)
      refine g_p q134 1 13 [some (oR 4 y3), some (oR 3 y4), some (vI y5), none, some (vI v12), some (vI v13)] [] rfl ?_
      exact g_end (fun h => g_wk [true, true, true, false, true, true] rfl h)
theorem g134 (X : X2) (a0 : Nat) (a1 : Nat) (a2 : Int) (a3 : Int) (s : S2) (o : Option (AV R2) × S2) : J (f134 a0 a1 a2 a3 s) (fun (r : Int) => o = (some (vI r), s)) (Go X 2 134 0 (am_loc (am_nl 134) [oR 4 a0, oR 3 a1, vI a2, vI a3]) [] s o) := by
  show J _ _ (Go X 2 134 0 [some (oR 4 a0), some (oR 3 a1), some (vI a2), some (vI a3), none, none] [] s o)
  unfold f134
  refine g_p q134 3 3 [some (oR 4 a0), some (oR 3 a1), some (vI a2), some (vI a3), none, none] [vI a2, oR 3 a1, oR 4 a0] rfl ?_
  refine g_cPI q134 rfl (g53 X a0 a1 a2 s) rfl rfl rfl rfl rfl (fun r1 => ?_)
  refine g_p q134 2 8 [some (oR 4 a0), some (oR 3 a1), some (vI a2), some (vI a3), none, none] [vI (jmul r1 a3)] rfl ?_
  refine g_top (fun v2 => ?_)
  refine g_p q134 3 13 [some (oR 4 a0), some (oR 3 a1), some (vI a2), some (vI a3), some (vI v2), some (vI 0)] [] rfl ?_
  refine g_wkJ [true, true, true, false, true, true] (L0 := [some (oR 4 a0), some (oR 3 a1), some (vI a2), none, some (vI v2), some (vI 0)]) rfl ?_
  refine g_itr (H134_a X a0 a1 a2 s o) (E134_a X a0 a1 a2 s o) (fun | (x6, x7) => g134_a X a0 a1 a2 x6 x7 s o) ?_
  intro z14
  show J _ _ (Go X 2 134 49 [none, some (oR 3 a1), some (vI a2), none, some (vI z14), none] [] s o)
  refine g_p q134 2 51 [none, some (oR 3 a1), some (vI a2), none, some (vI z14), none] [vI a2, oR 3 a1] rfl ?_
  refine g_cPI q134 rfl (g50 X a1 a2 s) rfl rfl rfl rfl rfl (fun r15 => ?_)
  refine g_i1 q134 rfl rfl ?_ ?_
  ·
    refine g_p q134 1 73 [none, some (oR 3 a1), some (vI a2), none, some (vI z14), none] [vI 0] rfl ?_
    exact g_ret q134 rfl rfl rfl
  ·
    refine g_p q134 2 60 [none, some (oR 3 a1), some (vI a2), none, some (vI z14), none] [oR 3 a1, vI z14] rfl ?_
    refine g_m (S := [aR 394 a1, vI z14]) (some (aR 394 a1)) q134 rfl rfl rfl (fun _ => rfl) rfl ?_
    refine g_p q134 1 64 [none, some (oR 3 a1), some (vI a2), none, some (vI z14), none] [vI a2, aR 394 a1, vI z14] rfl ?_
    refine g_ld q134 rfl rfl rfl rfl rfl rfl (fun v16 => ?_)
    refine g_i2 q134 rfl rfl ?_ ?_
    ·
      refine g_p q134 1 73 [none, some (oR 3 a1), some (vI a2), none, some (vI z14), none] [vI 0] rfl ?_
      exact g_ret q134 rfl rfl rfl
    ·
      refine g_p q134 2 73 [none, some (oR 3 a1), some (vI a2), none, some (vI z14), none] [vI 1] rfl ?_
      exact g_ret q134 rfl rfl rfl
theorem q133 : am_cd 133 = am_c133 := rfl
def H133_a (X : X2) (y2 : Int) (s5 : S2) (o : Option (AV R2) × S2) (a : Int × Int) : Prop := Go X 3 133 21 [some (oR 0 0), some (vI y2), some (vI (a.1)), some (vI (a.2))] [] s5 o
def E133_a (X : X2) (y2 : Int) (s5 : S2) (o : Option (AV R2) × S2) : (Int) → Prop := (fun (r : Int) => Go X 3 133 57 [none, none, some (vI r), none] [] s5 o)
theorem g133_a (X : X2) (y2 : Int) (x3 : Int) (x4 : Int) (s5 : S2) (o : Option (AV R2) × S2) : J (f133_a y2 x3 x4 s5) (am_kx (H133_a X y2 s5 o) (E133_a X y2 s5 o)) (Go X 3 133 21 [some (oR 0 0), some (vI y2), some (vI x3), some (vI x4)] [] s5 o) := by
  unfold f133_a
  refine g_p q133 2 24 [some (oR 0 0), some (vI y2), some (vI x3), some (vI x4)] [vI 99, vI x4] rfl ?_
  refine g_i2 q133 rfl rfl ?_ ?_
  ·
    exact g_end (fun h => g_wk [false, false, true, false] rfl h)
  ·
    refine g_p q133 1 28 [some (oR 0 0), some (vI y2), some (vI x3), some (vI x4)] [oR 0 0] rfl ?_
    refine g_m (S := [oR 8 0]) (some (oR 8 0)) q133 rfl rfl rfl (fun _ => rfl) rfl ?_
    refine g_m (S := [oR 4 0]) (some (oR 4 0)) q133 rfl rfl rfl (fun _ => rfl) rfl ?_
    refine g_p q133 1 35 [some (oR 0 0), some (vI y2), some (vI x3), some (vI x4)] [oR 0 0, oR 4 0] rfl ?_
    refine g_m (S := [oR 8 0, oR 4 0]) (some (oR 8 0)) q133 rfl rfl rfl (fun _ => rfl) rfl ?_
    refine g_m (S := [oR 3 0, oR 4 0]) (some (oR 3 0)) q133 rfl rfl rfl (fun _ => rfl) rfl ?_
    refine g_p q133 2 43 [some (oR 0 0), some (vI y2), some (vI x3), some (vI x4)] [vI x4, vI y2, oR 3 0, oR 4 0] rfl ?_
    refine g_cPI q133 rfl (g134 X 0 0 y2 x4 s5) rfl rfl rfl rfl rfl (fun r6 => ?_)
    refine g_i1 q133 rfl rfl ?_ ?_
    ·
      exact g_end (fun h => g_wk [false, false, true, false] rfl h)
    ·
      refine g_p q133 2 51 [some (oR 0 0), some (vI y2), some (vI x4), some (vI x4)] [] rfl ?_
      refine g_inc (fun v7 => [some (oR 0 0), some (vI y2), some (vI x4), some (vI v7)]) q133 rfl rfl (fun _ => rfl) (fun v7 => ?_)
      refine g_p q133 1 21 [some (oR 0 0), some (vI y2), some (vI x4), some (vI v7)] [] rfl ?_
      exact g_end (fun h => g_wk [true, true, true, true] rfl h)
theorem g133 (X : X2) (a1 : Int) (s : S2) (o : Option (AV R2) × S2) : J (f133 a1 s) (fun (r : Int) => o = (some (vI r), s)) (Go X 3 133 0 (am_loc (am_nl 133) [oR 0 0, vI a1]) [] s o) := by
  show J _ _ (Go X 3 133 0 [some (oR 0 0), some (vI a1), none, none] [] s o)
  unfold f133
  refine g_p q133 1 1 [some (oR 0 0), some (vI a1), none, none] [oR 0 0] rfl ?_
  refine g_m (S := [oR 8 0]) (some (oR 8 0)) q133 rfl rfl rfl (fun _ => rfl) rfl ?_
  refine g_m (S := [oR 3 0]) (some (oR 3 0)) q133 rfl rfl rfl (fun _ => rfl) rfl ?_
  refine g_p q133 1 8 [some (oR 0 0), some (vI a1), none, none] [vI a1, oR 3 0] rfl ?_
  refine g_cPI q133 rfl (g50 X 0 a1 s) rfl rfl rfl rfl rfl (fun r1 => ?_)
  refine g_i1 q133 rfl rfl ?_ ?_
  ·
    refine g_p q133 4 21 [some (oR 0 0), some (vI a1), some (vI (-1)), some (vI 0)] [] rfl ?_
    refine g_wkJ [true, true, true, true] (L0 := [some (oR 0 0), some (vI a1), some (vI (-1)), some (vI 0)]) rfl ?_
    refine g_itr (H133_a X a1 s o) (E133_a X a1 s o) (fun | (x3, x4) => g133_a X a1 x3 x4 s o) ?_
    intro z8
    show J _ _ (Go X 3 133 57 [none, none, some (vI z8), none] [] s o)
    refine g_p q133 1 58 [none, none, some (vI z8), none] [vI z8] rfl ?_
    exact g_ret q133 rfl rfl rfl
  ·
    refine g_p q133 1 16 [some (oR 0 0), some (vI a1), none, none] [vI (-2)] rfl ?_
    exact g_ret q133 rfl rfl rfl
theorem q135 : am_cd 135 = am_c135 := rfl
def H135_a (X : X2) (y2 : Int) (s5 : S2) (o : Option (AV R2) × S2) (a : Int × Int) : Prop := Go X 3 135 29 [some (oR 0 0), some (vI y2), some (vI (a.1)), some (vI (a.2))] [] s5 o
def E135_a (X : X2) (y2 : Int) (s5 : S2) (o : Option (AV R2) × S2) : (Int) → Prop := (fun (r : Int) => Go X 3 135 98 [none, none, some (vI r), none] [] s5 o)
theorem g135_a (X : X2) (y2 : Int) (x3 : Int) (x4 : Int) (s5 : S2) (o : Option (AV R2) × S2) : J (f135_a y2 x3 x4 s5) (am_kx (H135_a X y2 s5 o) (E135_a X y2 s5 o)) (Go X 3 135 29 [some (oR 0 0), some (vI y2), some (vI x3), some (vI x4)] [] s5 o) := by
  unfold f135_a
  refine g_p q135 2 32 [some (oR 0 0), some (vI y2), some (vI x3), some (vI x4)] [vI 6, vI x4] rfl ?_
  refine g_i2 q135 rfl rfl ?_ ?_
  ·
    exact g_end (fun h => g_wk [false, false, true, false] rfl h)
  ·
    refine g_p q135 1 36 [some (oR 0 0), some (vI y2), some (vI x3), some (vI x4)] [oR 0 0] rfl ?_
    refine g_m (S := [oR 8 0]) (some (oR 8 0)) q135 rfl rfl rfl (fun _ => rfl) rfl ?_
    refine g_m (S := [oR 3 0]) (some (oR 3 0)) q135 rfl rfl rfl (fun _ => rfl) rfl ?_
    refine g_p q135 1 43 [some (oR 0 0), some (vI y2), some (vI x3), some (vI x4)] [vI x4, oR 3 0] rfl ?_
    refine g_cPI q135 rfl (g50 X 0 x4 s5) rfl rfl rfl rfl rfl (fun r6 => ?_)
    refine g_i1 q135 rfl rfl ?_ ?_
    ·
      refine g_inc (fun v7 => [some (oR 0 0), some (vI y2), some (vI x3), some (vI v7)]) q135 rfl rfl (fun _ => rfl) (fun v7 => ?_)
      refine g_p q135 1 29 [some (oR 0 0), some (vI y2), some (vI x3), some (vI v7)] [] rfl ?_
      exact g_end (fun h => g_wk [true, true, true, true] rfl h)
    ·
      refine g_p q135 1 50 [some (oR 0 0), some (vI y2), some (vI x3), some (vI x4)] [oR 0 0] rfl ?_
      refine g_m (S := [oR 8 0]) (some (oR 8 0)) q135 rfl rfl rfl (fun _ => rfl) rfl ?_
      refine g_m (S := [oR 4 0]) (some (oR 4 0)) q135 rfl rfl rfl (fun _ => rfl) rfl ?_
      refine g_m (S := [aR 514 0]) (some (aR 514 0)) q135 rfl rfl rfl (fun _ => rfl) rfl ?_
      refine g_p q135 1 60 [some (oR 0 0), some (vI y2), some (vI x3), some (vI x4)] [vI x4, aR 514 0] rfl ?_
      refine g_ld q135 rfl rfl rfl rfl rfl rfl (fun v8 => ?_)
      refine g_i1 q135 rfl rfl ?_ ?_
      ·
        refine g_inc (fun v9 => [some (oR 0 0), some (vI y2), some (vI x3), some (vI v9)]) q135 rfl rfl (fun _ => rfl) (fun v9 => ?_)
        refine g_p q135 1 29 [some (oR 0 0), some (vI y2), some (vI x3), some (vI v9)] [] rfl ?_
        exact g_end (fun h => g_wk [true, true, true, true] rfl h)
      ·
        refine g_p q135 1 65 [some (oR 0 0), some (vI y2), some (vI x3), some (vI x4)] [oR 0 0] rfl ?_
        refine g_m (S := [oR 8 0]) (some (oR 8 0)) q135 rfl rfl rfl (fun _ => rfl) rfl ?_
        refine g_m (S := [oR 4 0]) (some (oR 4 0)) q135 rfl rfl rfl (fun _ => rfl) rfl ?_
        refine g_p q135 1 72 [some (oR 0 0), some (vI y2), some (vI x3), some (vI x4)] [oR 0 0, oR 4 0] rfl ?_
        refine g_m (S := [oR 8 0, oR 4 0]) (some (oR 8 0)) q135 rfl rfl rfl (fun _ => rfl) rfl ?_
        refine g_m (S := [oR 3 0, oR 4 0]) (some (oR 3 0)) q135 rfl rfl rfl (fun _ => rfl) rfl ?_
        refine g_p q135 2 80 [some (oR 0 0), some (vI y2), some (vI x3), some (vI x4)] [vI y2, vI x4, oR 3 0, oR 4 0] rfl ?_
        refine g_cPI q135 rfl (g134 X 0 0 x4 y2 s5) rfl rfl rfl rfl rfl (fun r10 => ?_)
        refine g_i1 q135 rfl rfl ?_ ?_
        ·
          refine g_inc (fun v11 => [some (oR 0 0), some (vI y2), some (vI x3), some (vI v11)]) q135 rfl rfl (fun _ => rfl) (fun v11 => ?_)
          refine g_p q135 1 29 [some (oR 0 0), some (vI y2), some (vI x3), some (vI v11)] [] rfl ?_
          exact g_end (fun h => g_wk [true, true, true, true] rfl h)
        ·
          refine g_p q135 5 91 [some (oR 0 0), some (vI y2), some (vI x3), some (vI x4)] [vI (jor x3 (jshl 1 x4))] rfl ?_
          refine g_top (fun v12 => ?_)
          refine g_p q135 1 92 [some (oR 0 0), some (vI y2), some (vI v12), some (vI x4)] [] rfl ?_
          refine g_inc (fun v13 => [some (oR 0 0), some (vI y2), some (vI v12), some (vI v13)]) q135 rfl rfl (fun _ => rfl) (fun v13 => ?_)
          refine g_p q135 1 29 [some (oR 0 0), some (vI y2), some (vI v12), some (vI v13)] [] rfl ?_
          exact g_end (fun h => g_wk [true, true, true, true] rfl h)
theorem g135 (X : X2) (a1 : Int) (s : S2) (o : Option (AV R2) × S2) : J (f135 a1 s) (fun (r : Int) => o = (some (vI r), s)) (Go X 3 135 0 (am_loc (am_nl 135) [oR 0 0, vI a1]) [] s o) := by
  show J _ _ (Go X 3 135 0 [some (oR 0 0), some (vI a1), none, none] [] s o)
  unfold f135
  refine g_p q135 1 1 [some (oR 0 0), some (vI a1), none, none] [oR 0 0] rfl ?_
  refine g_m (S := [oR 8 0]) (some (oR 8 0)) q135 rfl rfl rfl (fun _ => rfl) rfl ?_
  refine g_m (S := [oR 3 0]) (some (oR 3 0)) q135 rfl rfl rfl (fun _ => rfl) rfl ?_
  refine g_get q135 rfl rfl rfl (fun _ => rfl) (fun v1 => ?_)
  refine g_i1 q135 rfl rfl ?_ ?_
  ·
    refine g_p q135 1 24 [some (oR 0 0), some (vI a1), none, none] [vI (-1)] rfl ?_
    exact g_ret q135 rfl rfl rfl
  ·
    refine g_p q135 1 14 [some (oR 0 0), some (vI a1), none, none] [vI a1] rfl ?_
    refine g_i1 q135 rfl rfl ?_ ?_
    ·
      refine g_p q135 1 24 [some (oR 0 0), some (vI a1), none, none] [vI (-1)] rfl ?_
      exact g_ret q135 rfl rfl rfl
    ·
      refine g_p q135 2 20 [some (oR 0 0), some (vI a1), none, none] [vI 99, vI a1] rfl ?_
      refine g_i2 q135 rfl rfl ?_ ?_
      ·
        refine g_p q135 4 29 [some (oR 0 0), some (vI a1), some (vI 0), some (vI 0)] [] rfl ?_
        refine g_wkJ [true, true, true, true] (L0 := [some (oR 0 0), some (vI a1), some (vI 0), some (vI 0)]) rfl ?_
        refine g_itr (H135_a X a1 s o) (E135_a X a1 s o) (fun | (x3, x4) => g135_a X a1 x3 x4 s o) ?_
        intro z14
        show J _ _ (Go X 3 135 98 [none, none, some (vI z14), none] [] s o)
        refine g_p q135 1 99 [none, none, some (vI z14), none] [vI z14] rfl ?_
        exact g_ret q135 rfl rfl rfl
      ·
        refine g_p q135 1 24 [some (oR 0 0), some (vI a1), none, none] [vI (-1)] rfl ?_
        exact g_ret q135 rfl rfl rfl
theorem q136 : am_cd 136 = am_c136 := rfl
theorem g136 (X : X2) (a1 : Int) (a2 : Int) (s : S2) (o : Option (AV R2) × S2) : J (f136 a1 a2 s) (fun (r : Int × S2) => o = (some (vI r.1), r.2)) (Go X 6 136 0 (am_loc (am_nl 136) [oR 0 0, vI a1, vI a2]) [] s o) := by
  show J _ _ (Go X 6 136 0 [some (oR 0 0), some (vI a1), some (vI a2), none, none] [] s o)
  unfold f136
  refine g_p q136 1 1 [some (oR 0 0), some (vI a1), some (vI a2), none, none] [oR 0 0] rfl ?_
  refine g_m (S := [oR 8 0]) (some (oR 8 0)) q136 rfl rfl rfl (fun _ => rfl) rfl ?_
  refine g_p q136 1 5 [some (oR 0 0), some (vI a1), some (vI a2), none, none] [vI a1, oR 8 0] rfl ?_
  refine g_cPI q136 rfl (g98 X 0 a1 s) rfl rfl rfl rfl rfl (fun r1 => ?_)
  refine g_i1 q136 rfl rfl ?_ ?_
  ·
    refine g_p q136 1 24 [some (oR 0 0), some (vI a1), some (vI a2), none, none] [vI (-100000)] rfl ?_
    exact g_ret q136 rfl rfl rfl
  ·
    refine g_p q136 2 13 [some (oR 0 0), some (vI a1), some (vI a2), none, none] [vI 1, vI a2] rfl ?_
    refine g_i2 q136 rfl rfl ?_ ?_
    ·
      refine g_p q136 1 24 [some (oR 0 0), some (vI a1), some (vI a2), none, none] [vI (-100000)] rfl ?_
      exact g_ret q136 rfl rfl rfl
    ·
      refine g_p q136 2 19 [some (oR 0 0), some (vI a1), some (vI a2), none, none] [vI 60, vI a2] rfl ?_
      refine g_i2 q136 rfl rfl ?_ ?_
      ·
        refine g_p q136 1 26 [some (oR 0 0), some (vI a1), some (vI a2), none, none] [oR 0 0] rfl ?_
        refine g_m (S := [oR 8 0]) (some (oR 8 0)) q136 rfl rfl rfl (fun _ => rfl) rfl ?_
        refine g_m (S := [oR 3 0]) (some (oR 3 0)) q136 rfl rfl rfl (fun _ => rfl) rfl ?_
        refine g_m (S := [aR 395 0]) (some (aR 395 0)) q136 rfl rfl rfl (fun _ => rfl) rfl ?_
        refine g_p q136 1 36 [some (oR 0 0), some (vI a1), some (vI a2), none, none] [vI a1, aR 395 0] rfl ?_
        refine g_ld q136 rfl rfl rfl rfl rfl rfl (fun v2 => ?_)
        refine g_p q136 2 39 [some (oR 0 0), some (vI a1), some (vI a2), some (vI v2), none] [oR 0 0] rfl ?_
        refine g_cV q136 rfl (g75 X s) rfl rfl rfl rfl rfl (fun s3 => ?_)
        refine g_p q136 1 43 [some (oR 0 0), some (vI a1), some (vI a2), some (vI v2), none] [oR 0 0] rfl ?_
        refine g_m (S := [oR 9 0]) (some (oR 9 0)) q136 rfl rfl rfl (fun _ => rfl) rfl ?_
        refine g_p q136 1 47 [some (oR 0 0), some (vI a1), some (vI a2), some (vI v2), none] [vI a2, oR 9 0] rfl ?_
        refine g_cV q136 rfl (g107 X a2 s3) rfl rfl rfl rfl rfl (fun s4 => ?_)
        refine g_p q136 1 51 [some (oR 0 0), some (vI a1), some (vI a2), some (vI v2), none] [oR 0 0] rfl ?_
        refine g_m (S := [oR 9 0]) (some (oR 9 0)) q136 rfl rfl rfl (fun _ => rfl) rfl ?_
        refine g_m (S := [oR 4 160]) (some (oR 4 160)) q136 rfl rfl rfl (fun _ => rfl) rfl ?_
        refine g_p q136 1 58 [some (oR 0 0), some (vI a1), some (vI a2), some (vI v2), none] [vI v2, oR 4 160] rfl ?_
        refine g_cPI q136 rfl (g115 X 160 v2 s4) rfl rfl rfl rfl rfl (fun r5 => ?_)
        refine g_p q136 2 64 [some (oR 0 0), some (vI a1), some (vI a2), some (vI v2), some (vI r5)] [oR 0 0] rfl ?_
        refine g_cV q136 rfl (g75 X s4) rfl rfl rfl rfl rfl (fun s6 => ?_)
        refine g_p q136 1 68 [some (oR 0 0), some (vI a1), some (vI a2), some (vI v2), some (vI r5)] [oR 0 0] rfl ?_
        refine g_m (S := [oR 9 0]) (some (oR 9 0)) q136 rfl rfl rfl (fun _ => rfl) rfl ?_
        refine g_m (S := [oR 4 160]) (some (oR 4 160)) q136 rfl rfl rfl (fun _ => rfl) rfl ?_
        refine g_p q136 1 75 [some (oR 0 0), some (vI a1), some (vI a2), some (vI v2), some (vI r5)] [oR 0 0, oR 4 160] rfl ?_
        refine g_m (S := [oR 8 0, oR 4 160]) (some (oR 8 0)) q136 rfl rfl rfl (fun _ => rfl) rfl ?_
        refine g_m (S := [oR 3 0, oR 4 160]) (some (oR 3 0)) q136 rfl rfl rfl (fun _ => rfl) rfl ?_
        refine g_p q136 1 82 [some (oR 0 0), some (vI a1), some (vI a2), some (vI v2), some (vI r5)] [vI a1, oR 3 0, oR 4 160] rfl ?_
        refine g_cV q136 rfl (g99 X 160 0 a1 s6) rfl rfl rfl rfl rfl (fun s7 => ?_)
        refine g_p q136 1 86 [some (oR 0 0), some (vI a1), some (vI a2), some (vI v2), some (vI r5)] [oR 0 0] rfl ?_
        refine g_m (S := [oR 9 0]) (some (oR 9 0)) q136 rfl rfl rfl (fun _ => rfl) rfl ?_
        refine g_p q136 1 90 [some (oR 0 0), some (vI a1), some (vI a2), some (vI v2), some (vI r5)] [vI a2, oR 9 0] rfl ?_
        refine g_cV q136 rfl (g107 X a2 s7) rfl rfl rfl rfl rfl (fun s8 => ?_)
        refine g_p q136 2 96 [some (oR 0 0), some (vI a1), some (vI a2), some (vI v2), some (vI r5)] [oR 0 0, vI r5] rfl ?_
        refine g_m (S := [oR 9 0, vI r5]) (some (oR 9 0)) q136 rfl rfl rfl (fun _ => rfl) rfl ?_
        refine g_m (S := [oR 4 160, vI r5]) (some (oR 4 160)) q136 rfl rfl rfl (fun _ => rfl) rfl ?_
        refine g_p q136 1 103 [some (oR 0 0), some (vI a1), some (vI a2), some (vI v2), some (vI r5)] [vI v2, oR 4 160, vI r5] rfl ?_
        refine g_cPI q136 rfl (g115 X 160 v2 s8) rfl rfl rfl rfl rfl (fun r9 => ?_)
        refine g_p q136 1 107 [some (oR 0 0), some (vI a1), some (vI a2), some (vI v2), some (vI r5)] [vI (jsub r5 r9)] rfl ?_
        refine g_top (fun v10 => ?_)
        exact g_ret q136 rfl rfl rfl
      ·
        refine g_p q136 1 24 [some (oR 0 0), some (vI a1), some (vI a2), none, none] [vI (-100000)] rfl ?_
        exact g_ret q136 rfl rfl rfl
theorem q138 : am_cd 138 = am_c138 := rfl
theorem g138 (X : X2) (a0 : Nat) (a1 : Int) (a2 : Int) (a3 : Int) (s : S2) (o : Option (AV R2) × S2) : J (f138 a0 a1 a2 a3 s) (fun (r : S2) => o = (none, r)) (Go X 1 138 0 (am_loc (am_nl 138) [oR 8 a0, vI a1, vI a2, vI a3]) [] s o) := by
  show J _ _ (Go X 1 138 0 [some (oR 8 a0), some (vI a1), some (vI a2), some (vI a3)] [] s o)
  unfold f138
  refine g_p q138 1 1 [some (oR 8 a0), some (vI a1), some (vI a2), some (vI a3)] [oR 8 a0] rfl ?_
  refine g_get q138 rfl rfl rfl (fun _ => rfl) (fun v1 => ?_)
  refine g_i1 q138 rfl rfl ?_ ?_
  ·
    exact g_retV q138 rfl rfl
  ·
    refine g_p q138 1 8 [some (oR 8 a0), some (vI a1), some (vI a2), some (vI a3)] [oR 8 a0] rfl ?_
    refine g_get q138 rfl rfl rfl (fun _ => rfl) (fun v2 => ?_)
    refine g_p q138 1 13 [some (oR 8 a0), some (vI a1), some (vI a2), some (vI a3)] [vI 10, vI v2] rfl ?_
    refine g_i2 q138 rfl rfl ?_ ?_
    ·
      exact g_retV q138 rfl rfl
    ·
      refine g_p q138 1 17 [some (oR 8 a0), some (vI a1), some (vI a2), some (vI a3)] [oR 8 a0] rfl ?_
      refine g_m (S := [aR 1029 a0]) (some (aR 1029 a0)) q138 rfl rfl rfl (fun _ => rfl) rfl ?_
      refine g_p q138 1 21 [some (oR 8 a0), some (vI a1), some (vI a2), some (vI a3)] [oR 8 a0, aR 1029 a0] rfl ?_
      refine g_get q138 rfl rfl rfl (fun _ => rfl) (fun v3 => ?_)
      refine g_p q138 1 25 [some (oR 8 a0), some (vI a1), some (vI a2), some (vI a3)] [vI a1, vI v3, aR 1029 a0] rfl ?_
      refine g_sto q138 rfl rfl rfl rfl (fun s4 => ?_)
      refine g_p q138 1 27 [some (oR 8 a0), some (vI a1), some (vI a2), some (vI a3)] [oR 8 a0] rfl ?_
      refine g_m (S := [aR 1030 a0]) (some (aR 1030 a0)) q138 rfl rfl rfl (fun _ => rfl) rfl ?_
      refine g_p q138 1 31 [some (oR 8 a0), some (vI a1), some (vI a2), some (vI a3)] [oR 8 a0, aR 1030 a0] rfl ?_
      refine g_get q138 rfl rfl rfl (fun _ => rfl) (fun v5 => ?_)
      refine g_p q138 1 35 [some (oR 8 a0), some (vI a1), some (vI a2), some (vI a3)] [vI a2, vI v5, aR 1030 a0] rfl ?_
      refine g_sto q138 rfl rfl rfl rfl (fun s6 => ?_)
      refine g_p q138 1 37 [some (oR 8 a0), some (vI a1), some (vI a2), some (vI a3)] [oR 8 a0] rfl ?_
      refine g_m (S := [aR 1031 a0]) (some (aR 1031 a0)) q138 rfl rfl rfl (fun _ => rfl) rfl ?_
      refine g_p q138 1 41 [some (oR 8 a0), some (vI a1), some (vI a2), some (vI a3)] [oR 8 a0, aR 1031 a0] rfl ?_
      refine g_get q138 rfl rfl rfl (fun _ => rfl) (fun v7 => ?_)
      refine g_p q138 1 45 [some (oR 8 a0), some (vI a1), some (vI a2), some (vI a3)] [vI a3, vI v7, aR 1031 a0] rfl ?_
      refine g_sto q138 rfl rfl rfl rfl (fun s8 => ?_)
      refine g_p q138 2 48 [some (oR 8 a0), some (vI a1), some (vI a2), some (vI a3)] [oR 8 a0, oR 8 a0] rfl ?_
      refine g_get q138 rfl rfl rfl (fun _ => rfl) (fun v9 => ?_)
      refine g_p q138 2 53 [some (oR 8 a0), some (vI a1), some (vI a2), some (vI a3)] [vI (jadd v9 1), oR 8 a0] rfl ?_
      refine g_put q138 rfl rfl rfl (fun _ => rfl) (fun s10 => ?_)
      exact g_retV q138 rfl rfl
theorem q137 : am_cd 137 = am_c137 := rfl
theorem g137 (X : X2) (a1 : Int) (a2 : Int) (a3 : Int) (s : S2) (o : Option (AV R2) × S2) : J (f137 a1 a2 a3 s) (fun (r : Int × S2) => o = (some (vI r.1), r.2)) (Go X 2 137 0 (am_loc (am_nl 137) [oR 0 0, vI a1, vI a2, vI a3]) [] s o) := by
  show J _ _ (Go X 2 137 0 [some (oR 0 0), some (vI a1), some (vI a2), some (vI a3), none] [] s o)
  unfold f137
  refine g_p q137 2 2 [some (oR 0 0), some (vI a1), some (vI a2), some (vI a3), none] [vI (-1), vI a1] rfl ?_
  refine g_i2 q137 rfl rfl ?_ ?_
  ·
    refine g_p q137 2 17 [some (oR 0 0), some (vI a1), some (vI a2), some (vI a3), none] [vI (-1), vI a3] rfl ?_
    refine g_jn (fun j39 => ∀ (x1 : Int), J (j39 x1) (fun (r : Int × S2) => o = (some (vI r.1), r.2)) (Go X 2 137 39 [some (oR 0 0), some (vI a1), some (vI a2), some (vI a3), none] [vI x1] s o)) ?_ (fun j39 hj39 => ?_)
    ·
      intro x1
      refine g_p q137 2 42 [some (oR 0 0), some (vI a1), some (vI a2), some (vI a3), some (vI x1)] [vI a1] rfl ?_
      refine g_i1 q137 rfl rfl ?_ ?_
      ·
        refine g_p q137 1 84 [some (oR 0 0), some (vI a1), some (vI a2), some (vI a3), some (vI x1)] [vI (-2)] rfl ?_
        exact g_ret q137 rfl rfl rfl
      ·
        refine g_p q137 2 48 [some (oR 0 0), some (vI a1), some (vI a2), some (vI a3), some (vI x1)] [vI 60, vI a1] rfl ?_
        refine g_i2 q137 rfl rfl ?_ ?_
        ·
          refine g_p q137 1 84 [some (oR 0 0), some (vI a1), some (vI a2), some (vI a3), some (vI x1)] [vI (-2)] rfl ?_
          exact g_ret q137 rfl rfl rfl
        ·
          refine g_p q137 1 52 [some (oR 0 0), some (vI a1), some (vI a2), some (vI a3), some (vI x1)] [oR 0 0] rfl ?_
          refine g_m (S := [oR 8 0]) (some (oR 8 0)) q137 rfl rfl rfl (fun _ => rfl) rfl ?_
          refine g_m (S := [oR 3 0]) (some (oR 3 0)) q137 rfl rfl rfl (fun _ => rfl) rfl ?_
          refine g_p q137 1 59 [some (oR 0 0), some (vI a1), some (vI a2), some (vI a3), some (vI x1)] [vI a2, oR 3 0] rfl ?_
          refine g_cPI q137 rfl (g50 X 0 a2 s) rfl rfl rfl rfl rfl (fun r2 => ?_)
          refine g_i1 q137 rfl rfl ?_ ?_
          ·
            refine g_p q137 1 84 [some (oR 0 0), some (vI a1), some (vI a2), some (vI a3), some (vI x1)] [vI (-2)] rfl ?_
            exact g_ret q137 rfl rfl rfl
          ·
            refine g_p q137 1 67 [some (oR 0 0), some (vI a1), some (vI a2), some (vI a3), some (vI x1)] [vI x1] rfl ?_
            refine g_i1 q137 rfl rfl ?_ ?_
            ·
              refine g_p q137 1 84 [some (oR 0 0), some (vI a1), some (vI a2), some (vI a3), some (vI x1)] [vI (-2)] rfl ?_
              exact g_ret q137 rfl rfl rfl
            ·
              refine g_p q137 1 71 [some (oR 0 0), some (vI a1), some (vI a2), some (vI a3), some (vI x1)] [oR 0 0] rfl ?_
              refine g_m (S := [oR 8 0]) (some (oR 8 0)) q137 rfl rfl rfl (fun _ => rfl) rfl ?_
              refine g_get q137 rfl rfl rfl (fun _ => rfl) (fun v3 => ?_)
              refine g_p q137 1 79 [some (oR 0 0), some (vI a1), some (vI a2), some (vI a3), some (vI x1)] [vI 10, vI v3] rfl ?_
              refine g_i2 q137 rfl rfl ?_ ?_
              ·
                refine g_p q137 1 86 [some (oR 0 0), some (vI a1), some (vI a2), some (vI a3), some (vI x1)] [oR 0 0] rfl ?_
                refine g_m (S := [oR 8 0]) (some (oR 8 0)) q137 rfl rfl rfl (fun _ => rfl) rfl ?_
                refine g_p q137 3 92 [some (oR 0 0), some (vI a1), some (vI a2), some (vI a3), some (vI x1)] [vI a3, vI a2, vI a1, oR 8 0] rfl ?_
                refine g_cV q137 rfl (g138 X 0 a1 a2 a3 s) rfl rfl rfl rfl rfl (fun s4 => ?_)
                refine g_p q137 1 96 [some (oR 0 0), some (vI a1), some (vI a2), some (vI a3), some (vI x1)] [oR 0 0] rfl ?_
                refine g_m (S := [oR 8 0]) (some (oR 8 0)) q137 rfl rfl rfl (fun _ => rfl) rfl ?_
                refine g_get q137 rfl rfl rfl (fun _ => rfl) (fun v5 => ?_)
                exact g_ret q137 rfl rfl rfl
              ·
                refine g_p q137 1 84 [some (oR 0 0), some (vI a1), some (vI a2), some (vI a3), some (vI x1)] [vI (-2)] rfl ?_
                exact g_ret q137 rfl rfl rfl
    ·
      refine g_jn (fun j34 => ∀ (_ : Unit), J (j34 ()) (fun (r : Int × S2) => o = (some (vI r.1), r.2)) (Go X 2 137 34 [some (oR 0 0), some (vI a1), some (vI a2), some (vI a3), none] [] s o)) ?_ (fun j34 hj34 => ?_)
      ·
        intro _
        refine g_p q137 2 39 [some (oR 0 0), some (vI a1), some (vI a2), some (vI a3), none] [vI 1] rfl ?_
        exact g_wkJ [true, true, true, true, false] rfl (hj39 1)
      ·
        refine g_i2 q137 rfl rfl ?_ ?_
        ·
          exact g_wkJ [true, true, true, true, false] rfl (hj34 ())
        ·
          refine g_p q137 1 21 [some (oR 0 0), some (vI a1), some (vI a2), some (vI a3), none] [oR 0 0] rfl ?_
          refine g_m (S := [oR 8 0]) (some (oR 8 0)) q137 rfl rfl rfl (fun _ => rfl) rfl ?_
          refine g_m (S := [oR 3 0]) (some (oR 3 0)) q137 rfl rfl rfl (fun _ => rfl) rfl ?_
          refine g_p q137 1 28 [some (oR 0 0), some (vI a1), some (vI a2), some (vI a3), none] [vI a3, oR 3 0] rfl ?_
          refine g_cPI q137 rfl (g51 X 0 a3 s) rfl rfl rfl rfl rfl (fun r6 => ?_)
          refine g_i1 q137 rfl rfl ?_ ?_
          ·
            refine g_p q137 1 39 [some (oR 0 0), some (vI a1), some (vI a2), some (vI a3), none] [vI 0] rfl ?_
            exact g_wkJ [true, true, true, true, false] rfl (hj39 0)
          ·
            exact g_wkJ [true, true, true, true, false] rfl (hj34 ())
  ·
    refine g_p q137 1 6 [some (oR 0 0), some (vI a1), some (vI a2), some (vI a3), none] [oR 0 0] rfl ?_
    refine g_m (S := [oR 8 0]) (some (oR 8 0)) q137 rfl rfl rfl (fun _ => rfl) rfl ?_
    refine g_p q137 1 10 [some (oR 0 0), some (vI a1), some (vI a2), some (vI a3), none] [vI 0, oR 8 0] rfl ?_
    refine g_put q137 rfl rfl rfl (fun _ => rfl) (fun s7 => ?_)
    refine g_p q137 1 14 [some (oR 0 0), some (vI a1), some (vI a2), some (vI a3), none] [vI 0] rfl ?_
    exact g_ret q137 rfl rfl rfl
theorem q142 : am_cd 142 = am_c142 := rfl
def H142_a (X : X2) (y1 : Nat) (y2 : Int) (y3 : Nat) (s5 : S2) (o : Option (AV R2) × S2) (a : Int) : Prop := Go X 2 142 2 [some (oR 8 y1), some (vI y2), some (oR 4 y3), some (vI a), none] [] s5 o
def E142_a (X : X2) (y1 : Nat) (y2 : Int) (y3 : Nat) (s5 : S2) (o : Option (AV R2) × S2) : (Unit) ⊕ (Unit) → Prop := (am_kx (fun (r : Unit) => Go X 2 142 62 [none, none, none, none, none] [] s5 o) (fun (r : Unit) => Go X 2 142 70 [none, none, none, none, none] [] s5 o))
theorem g142_a (X : X2) (y1 : Nat) (y2 : Int) (y3 : Nat) (x4 : Int) (s5 : S2) (o : Option (AV R2) × S2) : J (f142_a y1 y2 y3 x4 s5) (am_kx (H142_a X y1 y2 y3 s5 o) (E142_a X y1 y2 y3 s5 o)) (Go X 2 142 2 [some (oR 8 y1), some (vI y2), some (oR 4 y3), some (vI x4), none] [] s5 o) := by
  unfold f142_a
  refine g_p q142 2 4 [some (oR 8 y1), some (vI y2), some (oR 4 y3), some (vI x4), none] [oR 8 y1, vI x4] rfl ?_
  refine g_get q142 rfl rfl rfl (fun _ => rfl) (fun v6 => ?_)
  refine g_i2 q142 rfl rfl ?_ ?_
  ·
    exact g_end (fun h => g_wk [false, false, false, false, false] rfl h)
  ·
    refine g_p q142 2 13 [some (oR 8 y1), some (vI y2), some (oR 4 y3), some (vI x4), none] [vI 10, vI x4] rfl ?_
    refine g_i2 q142 rfl rfl ?_ ?_
    ·
      exact g_end (fun h => g_wk [false, false, false, false, false] rfl h)
    ·
      refine g_p q142 1 17 [some (oR 8 y1), some (vI y2), some (oR 4 y3), some (vI x4), none] [oR 8 y1] rfl ?_
      refine g_m (S := [aR 1030 y1]) (some (aR 1030 y1)) q142 rfl rfl rfl (fun _ => rfl) rfl ?_
      refine g_p q142 1 21 [some (oR 8 y1), some (vI y2), some (oR 4 y3), some (vI x4), none] [vI x4, aR 1030 y1] rfl ?_
      refine g_ld q142 rfl rfl rfl rfl rfl rfl (fun v7 => ?_)
      refine g_p q142 2 25 [some (oR 8 y1), some (vI y2), some (oR 4 y3), some (vI x4), some (vI v7)] [oR 8 y1] rfl ?_
      refine g_m (S := [aR 1029 y1]) (some (aR 1029 y1)) q142 rfl rfl rfl (fun _ => rfl) rfl ?_
      refine g_p q142 1 29 [some (oR 8 y1), some (vI y2), some (oR 4 y3), some (vI x4), some (vI v7)] [vI x4, aR 1029 y1] rfl ?_
      refine g_ld q142 rfl rfl rfl rfl rfl rfl (fun v8 => ?_)
      refine g_p q142 1 31 [some (oR 8 y1), some (vI y2), some (oR 4 y3), some (vI x4), some (vI v7)] [vI y2, vI v8] rfl ?_
      refine g_i2 q142 rfl rfl ?_ ?_
      ·
        refine g_inc (fun v9 => [some (oR 8 y1), some (vI y2), some (oR 4 y3), some (vI v9), some (vI v7)]) q142 rfl rfl (fun _ => rfl) (fun v9 => ?_)
        refine g_p q142 1 2 [some (oR 8 y1), some (vI y2), some (oR 4 y3), some (vI v9), some (vI v7)] [] rfl ?_
        exact g_end (fun h => g_wk [true, true, true, true, false] rfl h)
      ·
        refine g_p q142 1 35 [some (oR 8 y1), some (vI y2), some (oR 4 y3), some (vI x4), some (vI v7)] [oR 8 y1] rfl ?_
        refine g_m (S := [oR 3 y1]) (some (oR 3 y1)) q142 rfl rfl rfl (fun _ => rfl) rfl ?_
        refine g_p q142 1 40 [some (oR 8 y1), some (vI y2), some (oR 4 y3), some (vI x4), some (vI v7)] [vI v7, oR 3 y1] rfl ?_
        refine g_cPI q142 rfl (g50 X y1 v7 s5) rfl rfl rfl rfl rfl (fun r10 => ?_)
        refine g_i1 q142 rfl rfl ?_ ?_
        ·
          refine g_inc (fun v11 => [some (oR 8 y1), some (vI y2), some (oR 4 y3), some (vI v11), some (vI v7)]) q142 rfl rfl (fun _ => rfl) (fun v11 => ?_)
          refine g_p q142 1 2 [some (oR 8 y1), some (vI y2), some (oR 4 y3), some (vI v11), some (vI v7)] [] rfl ?_
          exact g_end (fun h => g_wk [true, true, true, true, false] rfl h)
        ·
          refine g_p q142 1 47 [some (oR 8 y1), some (vI y2), some (oR 4 y3), some (vI x4), some (vI v7)] [oR 4 y3] rfl ?_
          refine g_m (S := [aR 513 y3]) (some (aR 513 y3)) q142 rfl rfl rfl (fun _ => rfl) rfl ?_
          refine g_p q142 1 52 [some (oR 8 y1), some (vI y2), some (oR 4 y3), some (vI x4), some (vI v7)] [vI v7, aR 513 y3] rfl ?_
          refine g_ld q142 rfl rfl rfl rfl rfl rfl (fun v12 => ?_)
          refine g_p q142 1 54 [some (oR 8 y1), some (vI y2), some (oR 4 y3), some (vI x4), some (vI v7)] [oR 8 y1, vI v12] rfl ?_
          refine g_m (S := [aR 1031 y1, vI v12]) (some (aR 1031 y1)) q142 rfl rfl rfl (fun _ => rfl) rfl ?_
          refine g_p q142 1 58 [some (oR 8 y1), some (vI y2), some (oR 4 y3), some (vI x4), some (vI v7)] [vI x4, aR 1031 y1, vI v12] rfl ?_
          refine g_ld q142 rfl rfl rfl rfl rfl rfl (fun v13 => ?_)
          refine g_i2 q142 rfl rfl ?_ ?_
          ·
            refine g_inc (fun v14 => [some (oR 8 y1), some (vI y2), some (oR 4 y3), some (vI v14), some (vI v7)]) q142 rfl rfl (fun _ => rfl) (fun v14 => ?_)
            refine g_p q142 1 2 [some (oR 8 y1), some (vI y2), some (oR 4 y3), some (vI v14), some (vI v7)] [] rfl ?_
            exact g_end (fun h => g_wk [true, true, true, true, false] rfl h)
          ·
            exact g_end (fun h => g_wk [false, false, false, false, false] rfl h)
theorem g142 (X : X2) (a0 : Nat) (a1 : Int) (a2 : Nat) (s : S2) (o : Option (AV R2) × S2) : J (f142 a0 a1 a2 s) (fun (r : Int) => o = (some (vI r), s)) (Go X 2 142 0 (am_loc (am_nl 142) [oR 8 a0, vI a1, oR 4 a2]) [] s o) := by
  show J _ _ (Go X 2 142 0 [some (oR 8 a0), some (vI a1), some (oR 4 a2), none, none] [] s o)
  unfold f142
  refine g_p q142 2 2 [some (oR 8 a0), some (vI a1), some (oR 4 a2), some (vI 0), none] [] rfl ?_
  refine g_wkJ [true, true, true, true, false] (L0 := [some (oR 8 a0), some (vI a1), some (oR 4 a2), some (vI 0), none]) rfl ?_
  refine g_itr (H142_a X a0 a1 a2 s o) (E142_a X a0 a1 a2 s o) (fun x4 => g142_a X a0 a1 a2 x4 s o) ?_
  refine g_se ?_ ?_
  ·
    intro _
    show J _ _ (Go X 2 142 62 [none, none, none, none, none] [] s o)
    refine g_p q142 1 63 [none, none, none, none, none] [vI 0] rfl ?_
    exact g_ret q142 rfl rfl rfl
  ·
    intro _
    show J _ _ (Go X 2 142 70 [none, none, none, none, none] [] s o)
    refine g_p q142 1 71 [none, none, none, none, none] [vI 1] rfl ?_
    exact g_ret q142 rfl rfl rfl
theorem q141 : am_cd 141 = am_c141 := rfl
def H141_a (X : X2) (y1 : Nat) (y2 : Int) (o : Option (AV R2) × S2) (a : Int × S2) : Prop := Go X 5 141 3 [some (oR 11 0), some (oR 9 0), some (oR 8 y1), some (vI y2), some (vI (a.1))] [] (a.2) o
def E141_a (X : X2) (y1 : Nat) (y2 : Int) (o : Option (AV R2) × S2) : (S2) ⊕ (S2) → Prop := (am_kx (fun (r : S2) => Go X 5 141 29 [none, none, none, none, none] [] r o) (fun (r : S2) => Go X 5 141 82 [none, none, none, none, none] [] r o))
theorem g141_a (X : X2) (y1 : Nat) (y2 : Int) (x3 : Int) (s4 : S2) (o : Option (AV R2) × S2) : J (f141_a y1 y2 x3 s4) (am_kx (H141_a X y1 y2 o) (E141_a X y1 y2 o)) (Go X 5 141 3 [some (oR 11 0), some (oR 9 0), some (oR 8 y1), some (vI y2), some (vI x3)] [] s4 o) := by
  unfold f141_a
  refine g_p q141 2 7 [some (oR 11 0), some (oR 9 0), some (oR 8 y1), some (vI y2), some (vI x3)] [vI 60, vI x3] rfl ?_
  refine g_i2 q141 rfl rfl ?_ ?_
  ·
    exact g_end (fun h => g_wk [false, false, false, false, false] rfl h)
  ·
    refine g_p q141 2 12 [some (oR 11 0), some (oR 9 0), some (oR 8 y1), some (vI y2), some (vI x3)] [vI 0, oR 9 0] rfl ?_
    refine g_cRI q141 rfl (g94 X 0 s4) rfl rfl rfl rfl rfl (fun r5 s6 => ?_)
    refine g_p q141 4 20 [some (oR 11 0), some (oR 9 0), some (oR 8 y1), some (vI y2), some (vI x3)] [oR 9 0, vI x3, oR 8 y1] rfl ?_
    refine g_m (S := [oR 4 160, vI x3, oR 8 y1]) (some (oR 4 160)) q141 rfl rfl rfl (fun _ => rfl) rfl ?_
    refine g_cPI q141 rfl (g142 X y1 x3 160 s6) rfl rfl rfl rfl rfl (fun r7 => ?_)
    refine g_i1 q141 rfl rfl ?_ ?_
    ·
      refine g_p q141 2 34 [some (oR 11 0), some (oR 9 0), some (oR 8 y1), some (vI y2), some (vI x3)] [vI y2, vI x3] rfl ?_
      refine g_i2 q141 rfl rfl ?_ ?_
      ·
        refine g_inc (fun v8 => [some (oR 11 0), some (oR 9 0), some (oR 8 y1), some (vI y2), some (vI v8)]) q141 rfl rfl (fun _ => rfl) (fun v8 => ?_)
        refine g_p q141 1 3 [some (oR 11 0), some (oR 9 0), some (oR 8 y1), some (vI y2), some (vI v8)] [] rfl ?_
        exact g_end (fun h => g_wk [true, true, true, true, true] rfl h)
      ·
        refine g_p q141 1 38 [some (oR 11 0), some (oR 9 0), some (oR 8 y1), some (vI y2), some (vI x3)] [oR 11 0] rfl ?_
        refine g_get q141 rfl rfl rfl (fun _ => rfl) (fun v9 => ?_)
        refine g_i1 q141 rfl rfl ?_ ?_
        ·
          refine g_inc (fun v10 => [some (oR 11 0), some (oR 9 0), some (oR 8 y1), some (vI y2), some (vI v10)]) q141 rfl rfl (fun _ => rfl) (fun v10 => ?_)
          refine g_p q141 1 3 [some (oR 11 0), some (oR 9 0), some (oR 8 y1), some (vI y2), some (vI v10)] [] rfl ?_
          exact g_end (fun h => g_wk [true, true, true, true, true] rfl h)
        ·
          refine g_p q141 1 45 [some (oR 11 0), some (oR 9 0), some (oR 8 y1), some (vI y2), some (vI x3)] [oR 11 0] rfl ?_
          refine g_get q141 rfl rfl rfl (fun _ => rfl) (fun v11 => ?_)
          refine g_p q141 1 50 [some (oR 11 0), some (oR 9 0), some (oR 8 y1), some (vI y2), some (vI x3)] [vI 6, vI v11] rfl ?_
          refine g_i2 q141 rfl rfl ?_ ?_
          ·
            refine g_inc (fun v12 => [some (oR 11 0), some (oR 9 0), some (oR 8 y1), some (vI y2), some (vI v12)]) q141 rfl rfl (fun _ => rfl) (fun v12 => ?_)
            refine g_p q141 1 3 [some (oR 11 0), some (oR 9 0), some (oR 8 y1), some (vI y2), some (vI v12)] [] rfl ?_
            exact g_end (fun h => g_wk [true, true, true, true, true] rfl h)
          ·
            refine g_p q141 1 54 [some (oR 11 0), some (oR 9 0), some (oR 8 y1), some (vI y2), some (vI x3)] [oR 9 0] rfl ?_
            refine g_m (S := [oR 4 160]) (some (oR 4 160)) q141 rfl rfl rfl (fun _ => rfl) rfl ?_
            refine g_m (S := [aR 513 160]) (some (aR 513 160)) q141 rfl rfl rfl (fun _ => rfl) rfl ?_
            refine g_p q141 2 62 [some (oR 11 0), some (oR 9 0), some (oR 8 y1), some (vI y2), some (vI x3)] [oR 11 0, vI 0, aR 513 160] rfl ?_
            refine g_m (S := [aR 1410 0, vI 0, aR 513 160]) (some (aR 1410 0)) q141 rfl rfl rfl (fun _ => rfl) rfl ?_
            refine g_p q141 1 66 [some (oR 11 0), some (oR 9 0), some (oR 8 y1), some (vI y2), some (vI x3)] [oR 11 0, aR 1410 0, vI 0, aR 513 160] rfl ?_
            refine g_get q141 rfl rfl rfl (fun _ => rfl) (fun v13 => ?_)
            refine g_ldh q141 rfl rfl rfl rfl rfl (fun i15 => ?_)
            refine g_p q141 2 73 [some (oR 11 0), some (oR 9 0), some (oR 8 y1), some (vI y2), some (vI x3)] [vI 6, vI 0, aR 3000 i15, vI 0, aR 513 160] rfl ?_
            refine g_cpy (im := 0) q141 rfl rfl rfl rfl rfl (fun s16 => ?_)
            refine g_inc (fun v17 => [some (oR 11 0), some (oR 9 0), some (oR 8 y1), some (vI y2), some (vI v17)]) q141 rfl rfl (fun _ => rfl) (fun v17 => ?_)
            refine g_p q141 1 3 [some (oR 11 0), some (oR 9 0), some (oR 8 y1), some (vI y2), some (vI v17)] [] rfl ?_
            exact g_end (fun h => g_wk [true, true, true, true, true] rfl h)
    ·
      exact g_end (fun h => g_wk [false, false, false, false, false] rfl h)
theorem g141 (X : X2) (a2 : Nat) (a3 : Int) (s : S2) (o : Option (AV R2) × S2) : J (f141 a2 a3 s) (fun (r : Int × S2) => o = (some (vI r.1), r.2)) (Go X 5 141 0 (am_loc (am_nl 141) [oR 11 0, oR 9 0, oR 8 a2, vI a3]) [] s o) := by
  show J _ _ (Go X 5 141 0 [some (oR 11 0), some (oR 9 0), some (oR 8 a2), some (vI a3), none] [] s o)
  unfold f141
  refine g_p q141 2 3 [some (oR 11 0), some (oR 9 0), some (oR 8 a2), some (vI a3), some (vI 0)] [] rfl ?_
  refine g_wkJ [true, true, true, true, true] (L0 := [some (oR 11 0), some (oR 9 0), some (oR 8 a2), some (vI a3), some (vI 0)]) rfl ?_
  refine g_itr (H141_a X a2 a3 o) (E141_a X a2 a3 o) (fun | (x3, s4) => g141_a X a2 a3 x3 s4 o) ?_
  refine g_se ?_ ?_
  ·
    intro s18
    show J _ _ (Go X 5 141 29 [none, none, none, none, none] [] s18 o)
    refine g_p q141 1 30 [none, none, none, none, none] [vI 0] rfl ?_
    exact g_ret q141 rfl rfl rfl
  ·
    intro s19
    show J _ _ (Go X 5 141 82 [none, none, none, none, none] [] s19 o)
    refine g_p q141 1 83 [none, none, none, none, none] [vI 1] rfl ?_
    exact g_ret q141 rfl rfl rfl
theorem q140 : am_cd 140 = am_c140 := rfl
def H140_a (X : X2) (y3 : Nat) (y4 : Int) (o : Option (AV R2) × S2) (a : Int × S2) : Prop := Go X 6 140 13 [some (oR 11 0), some (oR 9 0), some (oR 8 y3), some (oR 7 0), some (vI y4), some (vI (a.1))] [] (a.2) o
def E140_a (X : X2) (y3 : Nat) (y4 : Int) (o : Option (AV R2) × S2) : (S2) → Prop := (fun (r : S2) => Go X 6 140 90 [none, none, none, none, none, none] [] r o)
theorem g140_a (X : X2) (y3 : Nat) (y4 : Int) (x5 : Int) (s6 : S2) (o : Option (AV R2) × S2) : J (f140_a y3 y4 x5 s6) (am_kx (H140_a X y3 y4 o) (E140_a X y3 y4 o)) (Go X 6 140 13 [some (oR 11 0), some (oR 9 0), some (oR 8 y3), some (oR 7 0), some (vI y4), some (vI x5)] [] s6 o) := by
  unfold f140_a
  refine g_p q140 2 16 [some (oR 11 0), some (oR 9 0), some (oR 8 y3), some (oR 7 0), some (vI y4), some (vI x5)] [oR 7 0, vI x5] rfl ?_
  refine g_get q140 rfl rfl rfl (fun _ => rfl) (fun v7 => ?_)
  refine g_i2 q140 rfl rfl ?_ ?_
  ·
    exact g_end (fun h => g_wk [false, false, false, false, false, false] rfl h)
  ·
    refine g_p q140 2 24 [some (oR 11 0), some (oR 9 0), some (oR 8 y3), some (oR 7 0), some (vI y4), some (vI x5)] [oR 8 y3, oR 9 0] rfl ?_
    refine g_m (S := [oR 3 y3, oR 9 0]) (some (oR 3 y3)) q140 rfl rfl rfl (fun _ => rfl) rfl ?_
    refine g_p q140 2 30 [some (oR 11 0), some (oR 9 0), some (oR 8 y3), some (oR 7 0), some (vI y4), some (vI x5)] [vI x5, oR 7 0, oR 3 y3, oR 9 0] rfl ?_
    refine g_cPN q140 rfl (g76 X x5 s6) rfl rfl rfl rfl rfl (fun r8 => ?_)
    refine g_p q140 1 34 [some (oR 11 0), some (oR 9 0), some (oR 8 y3), some (oR 7 0), some (vI y4), some (vI x5)] [oR 8 y3, oR 6 r8, oR 3 y3, oR 9 0] rfl ?_
    refine g_m (S := [oR 3 y3, oR 6 r8, oR 3 y3, oR 9 0]) (some (oR 3 y3)) q140 rfl rfl rfl (fun _ => rfl) rfl ?_
    refine g_m (S := [oR 4 (32 * y3 + 1), oR 6 r8, oR 3 y3, oR 9 0]) (some (oR 4 (32 * y3 + 1))) q140 rfl rfl rfl (fun _ => rfl) rfl ?_
    refine g_cV q140 rfl (g77 X y3 r8 (32 * y3 + 1) s6) rfl rfl rfl rfl rfl (fun s9 => ?_)
    refine g_p q140 4 48 [some (oR 11 0), some (oR 9 0), some (oR 8 y3), some (oR 7 0), some (vI y4), some (vI x5)] [vI y4, oR 8 y3, oR 9 0, oR 11 0] rfl ?_
    refine g_cRI q140 rfl (g141 X y3 y4 s9) rfl rfl rfl rfl rfl (fun r10 s11 => ?_)
    refine g_i1 q140 rfl rfl ?_ ?_
    ·
      refine g_inc (fun v12 => [some (oR 11 0), some (oR 9 0), some (oR 8 y3), some (oR 7 0), some (vI y4), some (vI v12)]) q140 rfl rfl (fun _ => rfl) (fun v12 => ?_)
      refine g_p q140 1 13 [some (oR 11 0), some (oR 9 0), some (oR 8 y3), some (oR 7 0), some (vI y4), some (vI v12)] [] rfl ?_
      exact g_end (fun h => g_wk [true, true, true, true, true, true] rfl h)
    ·
      refine g_p q140 2 56 [some (oR 11 0), some (oR 9 0), some (oR 8 y3), some (oR 7 0), some (vI y4), some (vI x5)] [oR 11 0, oR 11 0] rfl ?_
      refine g_get q140 rfl rfl rfl (fun _ => rfl) (fun v13 => ?_)
      refine g_jn (fun j71 => ∀ (x14 : Int), J (j71 x14) (am_kx (H140_a X y3 y4 o) (E140_a X y3 y4 o)) (Go X 6 140 71 [some (oR 11 0), some (oR 9 0), some (oR 8 y3), some (oR 7 0), some (vI y4), some (vI x5)] [vI x14, oR 11 0] s11 o)) ?_ (fun j71 hj71 => ?_)
      ·
        intro x14
        refine g_put q140 rfl rfl rfl (fun _ => rfl) (fun s15 => ?_)
        refine g_p q140 2 76 [some (oR 11 0), some (oR 9 0), some (oR 8 y3), some (oR 7 0), some (vI y4), some (vI x5)] [oR 11 0, oR 11 0] rfl ?_
        refine g_get q140 rfl rfl rfl (fun _ => rfl) (fun v16 => ?_)
        refine g_p q140 2 81 [some (oR 11 0), some (oR 9 0), some (oR 8 y3), some (oR 7 0), some (vI y4), some (vI x5)] [vI (jadd v16 1), oR 11 0] rfl ?_
        refine g_put q140 rfl rfl rfl (fun _ => rfl) (fun s17 => ?_)
        refine g_inc (fun v18 => [some (oR 11 0), some (oR 9 0), some (oR 8 y3), some (oR 7 0), some (vI y4), some (vI v18)]) q140 rfl rfl (fun _ => rfl) (fun v18 => ?_)
        refine g_p q140 1 13 [some (oR 11 0), some (oR 9 0), some (oR 8 y3), some (oR 7 0), some (vI y4), some (vI v18)] [] rfl ?_
        exact g_end (fun h => g_wk [true, true, true, true, true, true] rfl h)
      ·
        refine g_i1 q140 rfl rfl ?_ ?_
        ·
          refine g_p q140 1 68 [some (oR 11 0), some (oR 9 0), some (oR 8 y3), some (oR 7 0), some (vI y4), some (vI x5)] [oR 11 0, oR 11 0] rfl ?_
          refine g_get q140 rfl rfl rfl (fun _ => rfl) (fun v19 => ?_)
          exact g_wkJ [true, true, true, true, true, true] rfl (hj71 v19)
        ·
          refine g_p q140 2 71 [some (oR 11 0), some (oR 9 0), some (oR 8 y3), some (oR 7 0), some (vI y4), some (vI x5)] [vI x5, oR 11 0] rfl ?_
          exact g_wkJ [true, true, true, true, true, true] rfl (hj71 x5)
theorem g140 (X : X2) (a2 : Nat) (a4 : Int) (s : S2) (o : Option (AV R2) × S2) : J (f140 a2 a4 s) (fun (r : S2) => o = (none, r)) (Go X 6 140 0 (am_loc (am_nl 140) [oR 11 0, oR 9 0, oR 8 a2, oR 7 0, vI a4]) [] s o) := by
  show J _ _ (Go X 6 140 0 [some (oR 11 0), some (oR 9 0), some (oR 8 a2), some (oR 7 0), some (vI a4), none] [] s o)
  unfold f140
  refine g_p q140 2 2 [some (oR 11 0), some (oR 9 0), some (oR 8 a2), some (oR 7 0), some (vI a4), none] [vI 0, oR 11 0] rfl ?_
  refine g_put q140 rfl rfl rfl (fun _ => rfl) (fun s1 => ?_)
  refine g_p q140 2 7 [some (oR 11 0), some (oR 9 0), some (oR 8 a2), some (oR 7 0), some (vI a4), none] [vI (-1), oR 11 0] rfl ?_
  refine g_put q140 rfl rfl rfl (fun _ => rfl) (fun s2 => ?_)
  refine g_p q140 2 13 [some (oR 11 0), some (oR 9 0), some (oR 8 a2), some (oR 7 0), some (vI a4), some (vI (-1))] [] rfl ?_
  refine g_wkJ [true, true, true, true, true, true] (L0 := [some (oR 11 0), some (oR 9 0), some (oR 8 a2), some (oR 7 0), some (vI a4), some (vI (-1))]) rfl ?_
  refine g_itr (H140_a X a2 a4 o) (E140_a X a2 a4 o) (fun | (x5, s6) => g140_a X a2 a4 x5 s6 o) ?_
  intro s20
  show J _ _ (Go X 6 140 90 [none, none, none, none, none, none] [] s20 o)
  exact g_retV q140 rfl rfl
theorem q139 : am_cd 139 = am_c139 := rfl
theorem g139 (X : X2) (a1 : Int) (s : S2) (o : Option (AV R2) × S2) : J (f139 a1 s) (fun (r : Int × S2) => o = (some (vI r.1), r.2)) (Go X 7 139 0 (am_loc (am_nl 139) [oR 0 0, vI a1]) [] s o) := by
  show J _ _ (Go X 7 139 0 [some (oR 0 0), some (vI a1)] [] s o)
  unfold f139
  refine g_p q139 1 1 [some (oR 0 0), some (vI a1)] [oR 0 0] rfl ?_
  refine g_m (S := [oR 8 0]) (some (oR 8 0)) q139 rfl rfl rfl (fun _ => rfl) rfl ?_
  refine g_m (S := [oR 3 0]) (some (oR 3 0)) q139 rfl rfl rfl (fun _ => rfl) rfl ?_
  refine g_get q139 rfl rfl rfl (fun _ => rfl) (fun v1 => ?_)
  refine g_i1 q139 rfl rfl ?_ ?_
  ·
    refine g_p q139 1 24 [some (oR 0 0), some (vI a1)] [vI (-3)] rfl ?_
    exact g_ret q139 rfl rfl rfl
  ·
    refine g_p q139 1 14 [some (oR 0 0), some (vI a1)] [vI a1] rfl ?_
    refine g_i1 q139 rfl rfl ?_ ?_
    ·
      refine g_p q139 1 24 [some (oR 0 0), some (vI a1)] [vI (-3)] rfl ?_
      exact g_ret q139 rfl rfl rfl
    ·
      refine g_p q139 2 19 [some (oR 0 0), some (vI a1)] [vI 1, vI a1] rfl ?_
      refine g_i2 q139 rfl rfl ?_ ?_
      ·
        refine g_p q139 1 26 [some (oR 0 0), some (vI a1)] [oR 0 0] rfl ?_
        refine g_m (S := [oR 11 0]) (some (oR 11 0)) q139 rfl rfl rfl (fun _ => rfl) rfl ?_
        refine g_p q139 1 30 [some (oR 0 0), some (vI a1)] [oR 0 0, oR 11 0] rfl ?_
        refine g_m (S := [oR 9 0, oR 11 0]) (some (oR 9 0)) q139 rfl rfl rfl (fun _ => rfl) rfl ?_
        refine g_p q139 1 34 [some (oR 0 0), some (vI a1)] [oR 0 0, oR 9 0, oR 11 0] rfl ?_
        refine g_m (S := [oR 8 0, oR 9 0, oR 11 0]) (some (oR 8 0)) q139 rfl rfl rfl (fun _ => rfl) rfl ?_
        refine g_p q139 1 38 [some (oR 0 0), some (vI a1)] [oR 0 0, oR 8 0, oR 9 0, oR 11 0] rfl ?_
        refine g_m (S := [oR 7 0, oR 8 0, oR 9 0, oR 11 0]) (some (oR 7 0)) q139 rfl rfl rfl (fun _ => rfl) rfl ?_
        refine g_p q139 1 42 [some (oR 0 0), some (vI a1)] [vI 0, oR 7 0, oR 8 0, oR 9 0, oR 11 0] rfl ?_
        refine g_cV q139 rfl (g140 X 0 0 s) rfl rfl rfl rfl rfl (fun s2 => ?_)
        refine g_p q139 1 46 [some (oR 0 0), some (vI a1)] [vI a1] rfl ?_
        refine g_i1 q139 rfl rfl ?_ ?_
        ·
          refine g_p q139 1 58 [some (oR 0 0), some (vI a1)] [oR 0 0] rfl ?_
          refine g_m (S := [oR 11 0]) (some (oR 11 0)) q139 rfl rfl rfl (fun _ => rfl) rfl ?_
          refine g_get q139 rfl rfl rfl (fun _ => rfl) (fun v3 => ?_)
          refine g_i1 q139 rfl rfl ?_ ?_
          ·
            refine g_p q139 1 73 [some (oR 0 0), some (vI a1)] [oR 0 0] rfl ?_
            refine g_m (S := [oR 11 0]) (some (oR 11 0)) q139 rfl rfl rfl (fun _ => rfl) rfl ?_
            refine g_get q139 rfl rfl rfl (fun _ => rfl) (fun v4 => ?_)
            exact g_ret q139 rfl rfl rfl
          ·
            refine g_p q139 2 79 [some (oR 0 0), some (vI a1)] [vI (-2)] rfl ?_
            exact g_ret q139 rfl rfl rfl
        ·
          refine g_p q139 1 50 [some (oR 0 0), some (vI a1)] [oR 0 0] rfl ?_
          refine g_m (S := [oR 11 0]) (some (oR 11 0)) q139 rfl rfl rfl (fun _ => rfl) rfl ?_
          refine g_get q139 rfl rfl rfl (fun _ => rfl) (fun v5 => ?_)
          exact g_ret q139 rfl rfl rfl
      ·
        refine g_p q139 1 24 [some (oR 0 0), some (vI a1)] [vI (-3)] rfl ?_
        exact g_ret q139 rfl rfl rfl
theorem q145 : am_cd 145 = am_c145 := rfl
def H145_b (X : X2) (y5 : Int) (y6 : Int) (y7 : Int) (s10 : S2) (o : Option (AV R2) × S2) (a : Int × Int) : Prop := Go X 1 145 15 [some (oR 11 0), some (vI y5), some (vI y6), some (vI y7), some (vI (a.1)), some (vI (a.2))] [] s10 o
def E145_b (X : X2) (y5 : Int) (y6 : Int) (y7 : Int) (s10 : S2) (o : Option (AV R2) × S2) : (Int) → Prop := (fun (r : Int) => Go X 1 145 63 [some (oR 11 0), some (vI y5), some (vI y6), some (vI y7), some (vI r), none] [] s10 o)
theorem g145_b (X : X2) (y5 : Int) (y6 : Int) (y7 : Int) (x8 : Int) (x9 : Int) (s10 : S2) (o : Option (AV R2) × S2) : J (f145_b y5 y7 x8 x9 s10) (am_kx (H145_b X y5 y6 y7 s10 o) (E145_b X y5 y6 y7 s10 o)) (Go X 1 145 15 [some (oR 11 0), some (vI y5), some (vI y6), some (vI y7), some (vI x8), some (vI x9)] [] s10 o) := by
  unfold f145_b
  refine g_p q145 2 18 [some (oR 11 0), some (vI y5), some (vI y6), some (vI y7), some (vI x8), some (vI x9)] [oR 11 0, vI x9] rfl ?_
  refine g_get q145 rfl rfl rfl (fun _ => rfl) (fun v11 => ?_)
  refine g_i2 q145 rfl rfl ?_ ?_
  ·
    exact g_end (fun h => g_wk [true, true, true, true, true, false] rfl h)
  ·
    refine g_p q145 2 28 [some (oR 11 0), some (vI y5), some (vI y6), some (vI y7), some (vI x8), some (vI x9)] [vI 6, vI x9] rfl ?_
    refine g_i2 q145 rfl rfl ?_ ?_
    ·
      exact g_end (fun h => g_wk [true, true, true, true, true, false] rfl h)
    ·
      refine g_p q145 1 32 [some (oR 11 0), some (vI y5), some (vI y6), some (vI y7), some (vI x8), some (vI x9)] [vI y5] rfl ?_
      refine g_i1 q145 rfl rfl ?_ ?_
      ·
        refine g_inc (fun v12 => [some (oR 11 0), some (vI y5), some (vI y6), some (vI y7), some (vI x8), some (vI v12)]) q145 rfl rfl (fun _ => rfl) (fun v12 => ?_)
        refine g_p q145 1 15 [some (oR 11 0), some (vI y5), some (vI y6), some (vI y7), some (vI x8), some (vI v12)] [] rfl ?_
        exact g_end (fun h => g_wk [true, true, true, true, true, true] rfl h)
      ·
        refine g_p q145 2 38 [some (oR 11 0), some (vI y5), some (vI y6), some (vI y7), some (vI x8), some (vI x9)] [vI 6, vI y5] rfl ?_
        refine g_i2 q145 rfl rfl ?_ ?_
        ·
          refine g_inc (fun v13 => [some (oR 11 0), some (vI y5), some (vI y6), some (vI y7), some (vI x8), some (vI v13)]) q145 rfl rfl (fun _ => rfl) (fun v13 => ?_)
          refine g_p q145 1 15 [some (oR 11 0), some (vI y5), some (vI y6), some (vI y7), some (vI x8), some (vI v13)] [] rfl ?_
          exact g_end (fun h => g_wk [true, true, true, true, true, true] rfl h)
        ·
          refine g_p q145 1 42 [some (oR 11 0), some (vI y5), some (vI y6), some (vI y7), some (vI x8), some (vI x9)] [oR 11 0] rfl ?_
          refine g_m (S := [aR 1410 0]) (some (aR 1410 0)) q145 rfl rfl rfl (fun _ => rfl) rfl ?_
          refine g_p q145 1 47 [some (oR 11 0), some (vI y5), some (vI y6), some (vI y7), some (vI x8), some (vI x9)] [vI x9, aR 1410 0] rfl ?_
          refine g_ldh q145 rfl rfl rfl rfl rfl (fun i15 => ?_)
          refine g_p q145 1 49 [some (oR 11 0), some (vI y5), some (vI y6), some (vI y7), some (vI x8), some (vI x9)] [vI y5, aR 3000 i15] rfl ?_
          refine g_ld q145 rfl rfl rfl rfl rfl rfl (fun v16 => ?_)
          refine g_p q145 1 51 [some (oR 11 0), some (vI y5), some (vI y6), some (vI y7), some (vI x8), some (vI x9)] [vI y7, vI v16] rfl ?_
          refine g_i2 q145 rfl rfl ?_ ?_
          ·
            refine g_inc (fun v17 => [some (oR 11 0), some (vI y5), some (vI y6), some (vI y7), some (vI x8), some (vI v17)]) q145 rfl rfl (fun _ => rfl) (fun v17 => ?_)
            refine g_p q145 1 15 [some (oR 11 0), some (vI y5), some (vI y6), some (vI y7), some (vI x8), some (vI v17)] [] rfl ?_
            exact g_end (fun h => g_wk [true, true, true, true, true, true] rfl h)
          ·
            refine g_inc (fun v18 => [some (oR 11 0), some (vI y5), some (vI y6), some (vI y7), some (vI v18), some (vI x9)]) q145 rfl rfl (fun _ => rfl) (fun v18 => ?_)
            refine g_inc (fun v19 => [some (oR 11 0), some (vI y5), some (vI y6), some (vI y7), some (vI v18), some (vI v19)]) q145 rfl rfl (fun _ => rfl) (fun v19 => ?_)
            refine g_p q145 1 15 [some (oR 11 0), some (vI y5), some (vI y6), some (vI y7), some (vI v18), some (vI v19)] [] rfl ?_
            exact g_end (fun h => g_wk [true, true, true, true, true, true] rfl h)
def H145_a (X : X2) (y1 : Int) (s4 : S2) (o : Option (AV R2) × S2) (a : Int × Int) : Prop := Go X 1 145 4 [some (oR 11 0), some (vI y1), some (vI (a.1)), some (vI (a.2)), none, none] [] s4 o
def E145_a (X : X2) (y1 : Int) (s4 : S2) (o : Option (AV R2) × S2) : (Int) → Prop := (fun (r : Int) => Go X 1 145 76 [none, none, some (vI r), none, none, none] [] s4 o)
theorem g145_a (X : X2) (y1 : Int) (x2 : Int) (x3 : Int) (s4 : S2) (o : Option (AV R2) × S2) : J (f145_a y1 x2 x3 s4) (am_kx (H145_a X y1 s4 o) (E145_a X y1 s4 o)) (Go X 1 145 4 [some (oR 11 0), some (vI y1), some (vI x2), some (vI x3), none, none] [] s4 o) := by
  unfold f145_a
  refine g_p q145 2 6 [some (oR 11 0), some (vI y1), some (vI x2), some (vI x3), none, none] [vI 4, vI x3] rfl ?_
  refine g_i2 q145 rfl rfl ?_ ?_
  ·
    exact g_end (fun h => g_wk [false, false, true, false, false, false] rfl h)
  ·
    refine g_p q145 4 15 [some (oR 11 0), some (vI y1), some (vI x2), some (vI x3), some (vI 0), some (vI 0)] [] rfl ?_
    refine g_wkJ [true, true, true, true, true, true] (L0 := [some (oR 11 0), some (vI y1), some (vI x2), some (vI x3), some (vI 0), some (vI 0)]) rfl ?_
    refine g_itr (H145_b X y1 x2 x3 s4 o) (E145_b X y1 x2 x3 s4 o) (fun | (x8, x9) => g145_b X y1 x2 x3 x8 x9 s4 o) ?_
    intro z20
    show J _ _ (Go X 1 145 63 [some (oR 11 0), some (vI y1), some (vI x2), some (vI x3), some (vI z20), none] [] s4 o)
    refine g_p q145 2 66 [some (oR 11 0), some (vI y1), some (vI x2), some (vI x3), some (vI z20), none] [vI z20, vI x2] rfl ?_
    refine g_m (S := [vI (jmax x2 z20)]) (some (vI (jmax x2 z20))) q145 rfl rfl rfl (fun _ => rfl) rfl ?_
    refine g_top (fun v21 => ?_)
    refine g_p q145 1 70 [some (oR 11 0), some (vI y1), some (vI v21), some (vI x3), some (vI z20), none] [] rfl ?_
    refine g_inc (fun v22 => [some (oR 11 0), some (vI y1), some (vI v21), some (vI v22), some (vI z20), none]) q145 rfl rfl (fun _ => rfl) (fun v22 => ?_)
    refine g_p q145 1 4 [some (oR 11 0), some (vI y1), some (vI v21), some (vI v22), some (vI z20), none] [] rfl ?_
    exact g_end (fun h => g_wk [true, true, true, true, false, false] rfl h)
theorem g145 (X : X2) (a1 : Int) (s : S2) (o : Option (AV R2) × S2) : J (f145 a1 s) (fun (r : Int) => o = (some (vI r), s)) (Go X 1 145 0 (am_loc (am_nl 145) [oR 11 0, vI a1]) [] s o) := by
  show J _ _ (Go X 1 145 0 [some (oR 11 0), some (vI a1), none, none, none, none] [] s o)
  unfold f145
  refine g_p q145 4 4 [some (oR 11 0), some (vI a1), some (vI 0), some (vI (-1)), none, none] [] rfl ?_
  refine g_wkJ [true, true, true, true, false, false] (L0 := [some (oR 11 0), some (vI a1), some (vI 0), some (vI (-1)), none, none]) rfl ?_
  refine g_itr (H145_a X a1 s o) (E145_a X a1 s o) (fun | (x2, x3) => g145_a X a1 x2 x3 s o) ?_
  intro z23
  show J _ _ (Go X 1 145 76 [none, none, some (vI z23), none, none, none] [] s o)
  refine g_p q145 1 77 [none, none, some (vI z23), none, none, none] [vI z23] rfl ?_
  exact g_ret q145 rfl rfl rfl
theorem q144 : am_cd 144 = am_c144 := rfl
def H144_a (X : X2) (y1 : Nat) (s4 : S2) (o : Option (AV R2) × S2) (a : Int × Int) : Prop := Go X 2 144 4 [some (oR 11 0), some (oR 3 y1), some (vI (a.1)), some (vI (a.2))] [] s4 o
def E144_a (X : X2) (y1 : Nat) (s4 : S2) (o : Option (AV R2) × S2) : (Int) → Prop := (fun (r : Int) => Go X 2 144 33 [none, none, some (vI r), none] [] s4 o)
theorem g144_a (X : X2) (y1 : Nat) (x2 : Int) (x3 : Int) (s4 : S2) (o : Option (AV R2) × S2) : J (f144_a y1 x2 x3 s4) (am_kx (H144_a X y1 s4 o) (E144_a X y1 s4 o)) (Go X 2 144 4 [some (oR 11 0), some (oR 3 y1), some (vI x2), some (vI x3)] [] s4 o) := by
  unfold f144_a
  refine g_p q144 2 6 [some (oR 11 0), some (oR 3 y1), some (vI x2), some (vI x3)] [oR 3 y1, vI x3] rfl ?_
  refine g_get q144 rfl rfl rfl (fun _ => rfl) (fun v5 => ?_)
  refine g_i2 q144 rfl rfl ?_ ?_
  ·
    exact g_end (fun h => g_wk [false, false, true, false] rfl h)
  ·
    refine g_p q144 2 14 [some (oR 11 0), some (oR 3 y1), some (vI x2), some (vI x3)] [vI x3, oR 11 0] rfl ?_
    refine g_cPI q144 rfl (g145 X x3 s4) rfl rfl rfl rfl rfl (fun r6 => ?_)
    refine g_p q144 2 19 [some (oR 11 0), some (oR 3 y1), some (vI x2), some (vI x3)] [vI x2, oR 11 0, vI r6] rfl ?_
    refine g_cPI q144 rfl (g145 X x2 s4) rfl rfl rfl rfl rfl (fun r7 => ?_)
    refine g_i2 q144 rfl rfl ?_ ?_
    ·
      refine g_inc (fun v8 => [some (oR 11 0), some (oR 3 y1), some (vI x2), some (vI v8)]) q144 rfl rfl (fun _ => rfl) (fun v8 => ?_)
      refine g_p q144 1 4 [some (oR 11 0), some (oR 3 y1), some (vI x2), some (vI v8)] [] rfl ?_
      exact g_end (fun h => g_wk [true, true, true, true] rfl h)
    ·
      refine g_p q144 2 27 [some (oR 11 0), some (oR 3 y1), some (vI x3), some (vI x3)] [] rfl ?_
      refine g_inc (fun v9 => [some (oR 11 0), some (oR 3 y1), some (vI x3), some (vI v9)]) q144 rfl rfl (fun _ => rfl) (fun v9 => ?_)
      refine g_p q144 1 4 [some (oR 11 0), some (oR 3 y1), some (vI x3), some (vI v9)] [] rfl ?_
      exact g_end (fun h => g_wk [true, true, true, true] rfl h)
theorem g144 (X : X2) (a1 : Nat) (s : S2) (o : Option (AV R2) × S2) : J (f144 a1 s) (fun (r : Int) => o = (some (vI r), s)) (Go X 2 144 0 (am_loc (am_nl 144) [oR 11 0, oR 3 a1]) [] s o) := by
  show J _ _ (Go X 2 144 0 [some (oR 11 0), some (oR 3 a1), none, none] [] s o)
  unfold f144
  refine g_p q144 4 4 [some (oR 11 0), some (oR 3 a1), some (vI 0), some (vI 1)] [] rfl ?_
  refine g_wkJ [true, true, true, true] (L0 := [some (oR 11 0), some (oR 3 a1), some (vI 0), some (vI 1)]) rfl ?_
  refine g_itr (H144_a X a1 s o) (E144_a X a1 s o) (fun | (x2, x3) => g144_a X a1 x2 x3 s o) ?_
  intro z10
  show J _ _ (Go X 2 144 33 [none, none, some (vI z10), none] [] s o)
  refine g_p q144 1 34 [none, none, some (vI z10), none] [vI z10] rfl ?_
  exact g_ret q144 rfl rfl rfl
theorem q143 : am_cd 143 = am_c143 := rfl
theorem g143 (X : X2) (a1 : Int) (a2 : Int) (s : S2) (o : Option (AV R2) × S2) : J (f143 a1 a2 s) (fun (r : Int × S2) => o = (some (vI r.1), r.2)) (Go X 7 143 0 (am_loc (am_nl 143) [oR 0 0, vI a1, vI a2]) [] s o) := by
  show J _ _ (Go X 7 143 0 [some (oR 0 0), some (vI a1), some (vI a2), none] [] s o)
  unfold f143
  refine g_p q143 1 1 [some (oR 0 0), some (vI a1), some (vI a2), none] [oR 0 0] rfl ?_
  refine g_m (S := [oR 8 0]) (some (oR 8 0)) q143 rfl rfl rfl (fun _ => rfl) rfl ?_
  refine g_m (S := [oR 3 0]) (some (oR 3 0)) q143 rfl rfl rfl (fun _ => rfl) rfl ?_
  refine g_get q143 rfl rfl rfl (fun _ => rfl) (fun v1 => ?_)
  refine g_i1 q143 rfl rfl ?_ ?_
  ·
    refine g_p q143 1 33 [some (oR 0 0), some (vI a1), some (vI a2), none] [vI (-1)] rfl ?_
    exact g_ret q143 rfl rfl rfl
  ·
    refine g_p q143 1 14 [some (oR 0 0), some (vI a1), some (vI a2), none] [vI a1] rfl ?_
    refine g_i1 q143 rfl rfl ?_ ?_
    ·
      refine g_p q143 1 33 [some (oR 0 0), some (vI a1), some (vI a2), none] [vI (-1)] rfl ?_
      exact g_ret q143 rfl rfl rfl
    ·
      refine g_p q143 2 20 [some (oR 0 0), some (vI a1), some (vI a2), none] [vI 60, vI a1] rfl ?_
      refine g_i2 q143 rfl rfl ?_ ?_
      ·
        refine g_p q143 1 33 [some (oR 0 0), some (vI a1), some (vI a2), none] [vI (-1)] rfl ?_
        exact g_ret q143 rfl rfl rfl
      ·
        refine g_p q143 1 24 [some (oR 0 0), some (vI a1), some (vI a2), none] [vI a2] rfl ?_
        refine g_i1 q143 rfl rfl ?_ ?_
        ·
          refine g_p q143 1 33 [some (oR 0 0), some (vI a1), some (vI a2), none] [vI (-1)] rfl ?_
          exact g_ret q143 rfl rfl rfl
        ·
          refine g_p q143 2 29 [some (oR 0 0), some (vI a1), some (vI a2), none] [vI 1, vI a2] rfl ?_
          refine g_i2 q143 rfl rfl ?_ ?_
          ·
            refine g_p q143 1 35 [some (oR 0 0), some (vI a1), some (vI a2), none] [oR 0 0] rfl ?_
            refine g_m (S := [oR 11 0]) (some (oR 11 0)) q143 rfl rfl rfl (fun _ => rfl) rfl ?_
            refine g_p q143 1 39 [some (oR 0 0), some (vI a1), some (vI a2), none] [oR 0 0, oR 11 0] rfl ?_
            refine g_m (S := [oR 9 0, oR 11 0]) (some (oR 9 0)) q143 rfl rfl rfl (fun _ => rfl) rfl ?_
            refine g_p q143 1 43 [some (oR 0 0), some (vI a1), some (vI a2), none] [oR 0 0, oR 9 0, oR 11 0] rfl ?_
            refine g_m (S := [oR 8 0, oR 9 0, oR 11 0]) (some (oR 8 0)) q143 rfl rfl rfl (fun _ => rfl) rfl ?_
            refine g_p q143 1 47 [some (oR 0 0), some (vI a1), some (vI a2), none] [oR 0 0, oR 8 0, oR 9 0, oR 11 0] rfl ?_
            refine g_m (S := [oR 7 0, oR 8 0, oR 9 0, oR 11 0]) (some (oR 7 0)) q143 rfl rfl rfl (fun _ => rfl) rfl ?_
            refine g_p q143 1 51 [some (oR 0 0), some (vI a1), some (vI a2), none] [vI a1, oR 7 0, oR 8 0, oR 9 0, oR 11 0] rfl ?_
            refine g_cV q143 rfl (g140 X 0 a1 s) rfl rfl rfl rfl rfl (fun s2 => ?_)
            refine g_p q143 1 55 [some (oR 0 0), some (vI a1), some (vI a2), none] [oR 0 0] rfl ?_
            refine g_m (S := [oR 11 0]) (some (oR 11 0)) q143 rfl rfl rfl (fun _ => rfl) rfl ?_
            refine g_get q143 rfl rfl rfl (fun _ => rfl) (fun v3 => ?_)
            refine g_i1 q143 rfl rfl ?_ ?_
            ·
              refine g_p q143 1 79 [some (oR 0 0), some (vI a1), some (vI a2), none] [vI (-2)] rfl ?_
              exact g_ret q143 rfl rfl rfl
            ·
              refine g_p q143 1 65 [some (oR 0 0), some (vI a1), some (vI a2), none] [oR 0 0] rfl ?_
              refine g_m (S := [oR 8 0]) (some (oR 8 0)) q143 rfl rfl rfl (fun _ => rfl) rfl ?_
              refine g_m (S := [oR 3 0]) (some (oR 3 0)) q143 rfl rfl rfl (fun _ => rfl) rfl ?_
              refine g_get q143 rfl rfl rfl (fun _ => rfl) (fun v4 => ?_)
              refine g_i1 q143 rfl rfl ?_ ?_
              ·
                refine g_p q143 1 81 [some (oR 0 0), some (vI a1), some (vI a2), none] [oR 0 0] rfl ?_
                refine g_m (S := [oR 11 0]) (some (oR 11 0)) q143 rfl rfl rfl (fun _ => rfl) rfl ?_
                refine g_p q143 1 85 [some (oR 0 0), some (vI a1), some (vI a2), none] [oR 0 0, oR 11 0] rfl ?_
                refine g_m (S := [oR 8 0, oR 11 0]) (some (oR 8 0)) q143 rfl rfl rfl (fun _ => rfl) rfl ?_
                refine g_m (S := [oR 3 0, oR 11 0]) (some (oR 3 0)) q143 rfl rfl rfl (fun _ => rfl) rfl ?_
                refine g_cPI q143 rfl (g144 X 0 s2) rfl rfl rfl rfl rfl (fun r5 => ?_)
                refine g_p q143 2 96 [some (oR 0 0), some (vI a1), some (vI a2), some (vI r5)] [vI a2] rfl ?_
                refine g_i1 q143 rfl rfl ?_ ?_
                ·
                  refine g_p q143 1 104 [some (oR 0 0), some (vI a1), some (vI a2), some (vI r5)] [oR 0 0] rfl ?_
                  refine g_m (S := [oR 11 0]) (some (oR 11 0)) q143 rfl rfl rfl (fun _ => rfl) rfl ?_
                  refine g_p q143 1 108 [some (oR 0 0), some (vI a1), some (vI a2), some (vI r5)] [vI r5, oR 11 0] rfl ?_
                  refine g_cPI q143 rfl (g145 X r5 s2) rfl rfl rfl rfl rfl (fun r6 => ?_)
                  exact g_ret q143 rfl rfl rfl
                ·
                  refine g_p q143 2 111 [some (oR 0 0), some (vI a1), some (vI a2), some (vI r5)] [vI r5] rfl ?_
                  exact g_ret q143 rfl rfl rfl
              ·
                refine g_p q143 1 79 [some (oR 0 0), some (vI a1), some (vI a2), none] [vI (-2)] rfl ?_
                exact g_ret q143 rfl rfl rfl
          ·
            refine g_p q143 1 33 [some (oR 0 0), some (vI a1), some (vI a2), none] [vI (-1)] rfl ?_
            exact g_ret q143 rfl rfl rfl
theorem q146 : am_cd 146 = am_c146 := rfl
def H146_a (X : X2) (y2 : Int) (y3 : Int) (y4 : Int) (o : Option (AV R2) × S2) (a : Int × Int × Int × S2) : Prop := Go X 6 146 46 [some (oR 0 0), some (vI y2), some (vI y3), some (vI y4), some (vI (a.1)), some (vI (a.2.1)), some (vI (a.2.2.1))] [] (a.2.2.2) o
def E146_a (X : X2) (y2 : Int) (y3 : Int) (y4 : Int) (o : Option (AV R2) × S2) : (Int × Int × S2) → Prop := (fun (r : Int × Int × S2) => Go X 6 146 135 [some (oR 0 0), some (vI y2), none, some (vI y4), some (vI (r.1)), some (vI (r.2.1)), none] [] (r.2.2) o)
theorem g146_a (X : X2) (y2 : Int) (y3 : Int) (y4 : Int) (x5 : Int) (x6 : Int) (x7 : Int) (s8 : S2) (o : Option (AV R2) × S2) : J (f146_a y2 y3 x5 x6 x7 s8) (am_kx (H146_a X y2 y3 y4 o) (E146_a X y2 y3 y4 o)) (Go X 6 146 46 [some (oR 0 0), some (vI y2), some (vI y3), some (vI y4), some (vI x5), some (vI x6), some (vI x7)] [] s8 o) := by
  unfold f146_a
  refine g_p q146 2 49 [some (oR 0 0), some (vI y2), some (vI y3), some (vI y4), some (vI x5), some (vI x6), some (vI x7)] [oR 0 0, vI x7] rfl ?_
  refine g_m (S := [oR 7 0, vI x7]) (some (oR 7 0)) q146 rfl rfl rfl (fun _ => rfl) rfl ?_
  refine g_get q146 rfl rfl rfl (fun _ => rfl) (fun v9 => ?_)
  refine g_i2 q146 rfl rfl ?_ ?_
  ·
    exact g_end (fun h => g_wk [true, true, false, true, true, true, false] rfl h)
  ·
    refine g_p q146 1 59 [some (oR 0 0), some (vI y2), some (vI y3), some (vI y4), some (vI x5), some (vI x6), some (vI x7)] [oR 0 0] rfl ?_
    refine g_m (S := [oR 9 0]) (some (oR 9 0)) q146 rfl rfl rfl (fun _ => rfl) rfl ?_
    refine g_p q146 1 63 [some (oR 0 0), some (vI y2), some (vI y3), some (vI y4), some (vI x5), some (vI x6), some (vI x7)] [oR 0 0, oR 9 0] rfl ?_
    refine g_m (S := [oR 8 0, oR 9 0]) (some (oR 8 0)) q146 rfl rfl rfl (fun _ => rfl) rfl ?_
    refine g_m (S := [oR 3 0, oR 9 0]) (some (oR 3 0)) q146 rfl rfl rfl (fun _ => rfl) rfl ?_
    refine g_p q146 1 70 [some (oR 0 0), some (vI y2), some (vI y3), some (vI y4), some (vI x5), some (vI x6), some (vI x7)] [oR 0 0, oR 3 0, oR 9 0] rfl ?_
    refine g_m (S := [oR 7 0, oR 3 0, oR 9 0]) (some (oR 7 0)) q146 rfl rfl rfl (fun _ => rfl) rfl ?_
    refine g_p q146 1 75 [some (oR 0 0), some (vI y2), some (vI y3), some (vI y4), some (vI x5), some (vI x6), some (vI x7)] [vI x7, oR 7 0, oR 3 0, oR 9 0] rfl ?_
    refine g_cPN q146 rfl (g76 X x7 s8) rfl rfl rfl rfl rfl (fun r10 => ?_)
    refine g_p q146 1 79 [some (oR 0 0), some (vI y2), some (vI y3), some (vI y4), some (vI x5), some (vI x6), some (vI x7)] [oR 0 0, oR 6 r10, oR 3 0, oR 9 0] rfl ?_
    refine g_m (S := [oR 8 0, oR 6 r10, oR 3 0, oR 9 0]) (some (oR 8 0)) q146 rfl rfl rfl (fun _ => rfl) rfl ?_
    refine g_m (S := [oR 4 0, oR 6 r10, oR 3 0, oR 9 0]) (some (oR 4 0)) q146 rfl rfl rfl (fun _ => rfl) rfl ?_
    refine g_cV q146 rfl (g77 X 0 r10 0 s8) rfl rfl rfl rfl rfl (fun s11 => ?_)
    refine g_p q146 1 89 [some (oR 0 0), some (vI y2), some (vI y3), some (vI y4), some (vI x5), some (vI x6), some (vI x7)] [oR 0 0] rfl ?_
    refine g_m (S := [oR 9 0]) (some (oR 9 0)) q146 rfl rfl rfl (fun _ => rfl) rfl ?_
    refine g_p q146 1 93 [some (oR 0 0), some (vI y2), some (vI y3), some (vI y4), some (vI x5), some (vI x6), some (vI x7)] [vI y3, oR 9 0] rfl ?_
    refine g_cV q146 rfl (g107 X y3 s11) rfl rfl rfl rfl rfl (fun s12 => ?_)
    refine g_p q146 1 97 [some (oR 0 0), some (vI y2), some (vI y3), some (vI y4), some (vI x5), some (vI x6), some (vI x7)] [oR 0 0] rfl ?_
    refine g_m (S := [oR 9 0]) (some (oR 9 0)) q146 rfl rfl rfl (fun _ => rfl) rfl ?_
    refine g_m (S := [oR 4 160]) (some (oR 4 160)) q146 rfl rfl rfl (fun _ => rfl) rfl ?_
    refine g_p q146 1 104 [some (oR 0 0), some (vI y2), some (vI y3), some (vI y4), some (vI x5), some (vI x6), some (vI x7)] [vI y2, oR 4 160] rfl ?_
    refine g_cPI q146 rfl (g115 X 160 y2 s12) rfl rfl rfl rfl rfl (fun r13 => ?_)
    refine g_p q146 1 109 [some (oR 0 0), some (vI y2), some (vI y3), some (vI y4), some (vI x5), some (vI x6), some (vI x7)] [vI x6, vI r13] rfl ?_
    refine g_i2 q146 rfl rfl ?_ ?_
    ·
      refine g_inc (fun v14 => [some (oR 0 0), some (vI y2), some (vI y3), some (vI y4), some (vI x5), some (vI x6), some (vI v14)]) q146 rfl rfl (fun _ => rfl) (fun v14 => ?_)
      refine g_p q146 1 46 [some (oR 0 0), some (vI y2), some (vI y3), some (vI y4), some (vI x5), some (vI x6), some (vI v14)] [] rfl ?_
      exact g_end (fun h => g_wk [true, true, true, true, true, true, true] rfl h)
    ·
      refine g_p q146 1 113 [some (oR 0 0), some (vI y2), some (vI y3), some (vI y4), some (vI x5), some (vI x6), some (vI x7)] [oR 0 0] rfl ?_
      refine g_m (S := [oR 9 0]) (some (oR 9 0)) q146 rfl rfl rfl (fun _ => rfl) rfl ?_
      refine g_m (S := [oR 4 160]) (some (oR 4 160)) q146 rfl rfl rfl (fun _ => rfl) rfl ?_
      refine g_p q146 1 120 [some (oR 0 0), some (vI y2), some (vI y3), some (vI y4), some (vI x5), some (vI x6), some (vI x7)] [vI y2, oR 4 160] rfl ?_
      refine g_cPI q146 rfl (g115 X 160 y2 s12) rfl rfl rfl rfl rfl (fun r15 => ?_)
      refine g_p q146 3 129 [some (oR 0 0), some (vI y2), some (vI y3), some (vI y4), some (vI x7), some (vI r15), some (vI x7)] [] rfl ?_
      refine g_inc (fun v16 => [some (oR 0 0), some (vI y2), some (vI y3), some (vI y4), some (vI x7), some (vI r15), some (vI v16)]) q146 rfl rfl (fun _ => rfl) (fun v16 => ?_)
      refine g_p q146 1 46 [some (oR 0 0), some (vI y2), some (vI y3), some (vI y4), some (vI x7), some (vI r15), some (vI v16)] [] rfl ?_
      exact g_end (fun h => g_wk [true, true, true, true, true, true, true] rfl h)
theorem g146 (X : X2) (a1 : Int) (a2 : Int) (a3 : Int) (s : S2) (o : Option (AV R2) × S2) : J (f146 a1 a2 a3 s) (fun (r : Int × S2) => o = (some (vI r.1), r.2)) (Go X 6 146 0 (am_loc (am_nl 146) [oR 0 0, vI a1, vI a2, vI a3]) [] s o) := by
  show J _ _ (Go X 6 146 0 [some (oR 0 0), some (vI a1), some (vI a2), some (vI a3), none, none, none] [] s o)
  unfold f146
  refine g_p q146 1 1 [some (oR 0 0), some (vI a1), some (vI a2), some (vI a3), none, none, none] [oR 0 0] rfl ?_
  refine g_m (S := [oR 8 0]) (some (oR 8 0)) q146 rfl rfl rfl (fun _ => rfl) rfl ?_
  refine g_m (S := [oR 3 0]) (some (oR 3 0)) q146 rfl rfl rfl (fun _ => rfl) rfl ?_
  refine g_p q146 1 8 [some (oR 0 0), some (vI a1), some (vI a2), some (vI a3), none, none, none] [vI a1, oR 3 0] rfl ?_
  refine g_cPI q146 rfl (g51 X 0 a1 s) rfl rfl rfl rfl rfl (fun r1 => ?_)
  refine g_i1 q146 rfl rfl ?_ ?_
  ·
    refine g_p q146 1 36 [some (oR 0 0), some (vI a1), some (vI a2), some (vI a3), none, none, none] [vI (-2)] rfl ?_
    exact g_ret q146 rfl rfl rfl
  ·
    refine g_p q146 2 16 [some (oR 0 0), some (vI a1), some (vI a2), some (vI a3), none, none, none] [vI 1, vI a2] rfl ?_
    refine g_i2 q146 rfl rfl ?_ ?_
    ·
      refine g_p q146 1 36 [some (oR 0 0), some (vI a1), some (vI a2), some (vI a3), none, none, none] [vI (-2)] rfl ?_
      exact g_ret q146 rfl rfl rfl
    ·
      refine g_p q146 2 22 [some (oR 0 0), some (vI a1), some (vI a2), some (vI a3), none, none, none] [vI 60, vI a2] rfl ?_
      refine g_i2 q146 rfl rfl ?_ ?_
      ·
        refine g_p q146 1 36 [some (oR 0 0), some (vI a1), some (vI a2), some (vI a3), none, none, none] [vI (-2)] rfl ?_
        exact g_ret q146 rfl rfl rfl
      ·
        refine g_p q146 1 26 [some (oR 0 0), some (vI a1), some (vI a2), some (vI a3), none, none, none] [vI a3] rfl ?_
        refine g_i1 q146 rfl rfl ?_ ?_
        ·
          refine g_p q146 1 36 [some (oR 0 0), some (vI a1), some (vI a2), some (vI a3), none, none, none] [vI (-2)] rfl ?_
          exact g_ret q146 rfl rfl rfl
        ·
          refine g_p q146 2 31 [some (oR 0 0), some (vI a1), some (vI a2), some (vI a3), none, none, none] [vI 1, vI a3] rfl ?_
          refine g_i2 q146 rfl rfl ?_ ?_
          ·
            refine g_p q146 6 46 [some (oR 0 0), some (vI a1), some (vI a2), some (vI a3), some (vI (-1)), some (vI (-1)), some (vI (-1))] [] rfl ?_
            refine g_wkJ [true, true, true, true, true, true, true] (L0 := [some (oR 0 0), some (vI a1), some (vI a2), some (vI a3), some (vI (-1)), some (vI (-1)), some (vI (-1))]) rfl ?_
            refine g_itr (H146_a X a1 a2 a3 o) (E146_a X a1 a2 a3 o) (fun | (x5, x6, x7, s8) => g146_a X a1 a2 a3 x5 x6 x7 s8 o) ?_
            rintro ⟨z17, z18, s19⟩
            show J _ _ (Go X 6 146 135 [some (oR 0 0), some (vI a1), none, some (vI a3), some (vI z17), some (vI z18), none] [] s19 o)
            refine g_p q146 1 136 [some (oR 0 0), some (vI a1), none, some (vI a3), some (vI z17), some (vI z18), none] [vI a3] rfl ?_
            refine g_i1 q146 rfl rfl ?_ ?_
            ·
              refine g_p q146 2 147 [some (oR 0 0), some (vI a1), none, some (vI a3), some (vI z17), some (vI z18), none] [oR 0 0, vI z18] rfl ?_
              refine g_m (S := [oR 8 0, vI z18]) (some (oR 8 0)) q146 rfl rfl rfl (fun _ => rfl) rfl ?_
              refine g_m (S := [oR 4 0, vI z18]) (some (oR 4 0)) q146 rfl rfl rfl (fun _ => rfl) rfl ?_
              refine g_p q146 1 154 [some (oR 0 0), some (vI a1), none, some (vI a3), some (vI z17), some (vI z18), none] [vI a1, oR 4 0, vI z18] rfl ?_
              refine g_cPI q146 rfl (g115 X 0 a1 s19) rfl rfl rfl rfl rfl (fun r20 => ?_)
              refine g_p q146 1 158 [some (oR 0 0), some (vI a1), none, some (vI a3), some (vI z17), some (vI z18), none] [vI (jsub z18 r20)] rfl ?_
              refine g_top (fun v21 => ?_)
              exact g_ret q146 rfl rfl rfl
            ·
              refine g_p q146 2 158 [some (oR 0 0), some (vI a1), none, some (vI a3), some (vI z17), some (vI z18), none] [vI z17] rfl ?_
              exact g_ret q146 rfl rfl rfl
          ·
            refine g_p q146 1 36 [some (oR 0 0), some (vI a1), some (vI a2), some (vI a3), none, none, none] [vI (-2)] rfl ?_
            exact g_ret q146 rfl rfl rfl
theorem q147 : am_cd 147 = am_c147 := rfl
theorem g147 (X : X2) (a1 : Int) (s : S2) (o : Option (AV R2) × S2) : J (f147 a1 s) (fun (r : Int × S2) => o = (some (vI r.1), r.2)) (Go X 1 147 0 (am_loc (am_nl 147) [oR 0 0, vI a1]) [] s o) := by
  show J _ _ (Go X 1 147 0 [some (oR 0 0), some (vI a1), none] [] s o)
  unfold f147
  refine g_p q147 1 1 [some (oR 0 0), some (vI a1), none] [vI a1] rfl ?_
  refine g_i1 q147 rfl rfl ?_ ?_
  ·
    refine g_p q147 1 7 [some (oR 0 0), some (vI a1), none] [oR 0 0] rfl ?_
    refine g_m (S := [oR 8 0]) (some (oR 8 0)) q147 rfl rfl rfl (fun _ => rfl) rfl ?_
    refine g_get q147 rfl rfl rfl (fun _ => rfl) (fun v1 => ?_)
    refine g_p q147 2 15 [some (oR 0 0), some (vI a1), some (vI v1)] [oR 0 0] rfl ?_
    refine g_m (S := [oR 8 0]) (some (oR 8 0)) q147 rfl rfl rfl (fun _ => rfl) rfl ?_
    refine g_p q147 1 19 [some (oR 0 0), some (vI a1), some (vI v1)] [vI a1, oR 8 0] rfl ?_
    refine g_put q147 rfl rfl rfl (fun _ => rfl) (fun s2 => ?_)
    refine g_p q147 1 23 [some (oR 0 0), some (vI a1), some (vI v1)] [vI v1] rfl ?_
    exact g_ret q147 rfl rfl rfl
  ·
    refine g_p q147 1 5 [some (oR 0 0), some (vI a1), none] [vI (-1)] rfl ?_
    exact g_ret q147 rfl rfl rfl
theorem q149 : am_cd 149 = am_c149 := rfl
def H149_a (X : X2) (s3 : S2) (o : Option (AV R2) × S2) (a : Int × Int) : Prop := Go X 2 149 4 [some (oR 9 0), some (vI (a.1)), some (vI (a.2))] [] s3 o
def E149_a (X : X2) (s3 : S2) (o : Option (AV R2) × S2) : (Int) → Prop := (fun (r : Int) => Go X 2 149 30 [none, some (vI r), none] [] s3 o)
theorem g149_a (X : X2) (x1 : Int) (x2 : Int) (s3 : S2) (o : Option (AV R2) × S2) : J (f149_a x1 x2 s3) (am_kx (H149_a X s3 o) (E149_a X s3 o)) (Go X 2 149 4 [some (oR 9 0), some (vI x1), some (vI x2)] [] s3 o) := by
  unfold f149_a
  refine g_p q149 2 7 [some (oR 9 0), some (vI x1), some (vI x2)] [vI 10, vI x2] rfl ?_
  refine g_i2 q149 rfl rfl ?_ ?_
  ·
    exact g_end (fun h => g_wk [false, true, false] rfl h)
  ·
    refine g_p q149 1 11 [some (oR 9 0), some (vI x1), some (vI x2)] [oR 9 0] rfl ?_
    refine g_m (S := [oR 4 160]) (some (oR 4 160)) q149 rfl rfl rfl (fun _ => rfl) rfl ?_
    refine g_p q149 1 15 [some (oR 9 0), some (vI x1), some (vI x2)] [vI x2, oR 4 160] rfl ?_
    refine g_cPI q149 rfl (g109 X 160 x2 s3) rfl rfl rfl rfl rfl (fun r4 => ?_)
    refine g_i1 q149 rfl rfl ?_ ?_
    ·
      refine g_inc (fun v5 => [some (oR 9 0), some (vI x1), some (vI v5)]) q149 rfl rfl (fun _ => rfl) (fun v5 => ?_)
      refine g_p q149 1 4 [some (oR 9 0), some (vI x1), some (vI v5)] [] rfl ?_
      exact g_end (fun h => g_wk [true, true, true] rfl h)
    ·
      refine g_inc (fun v6 => [some (oR 9 0), some (vI v6), some (vI x2)]) q149 rfl rfl (fun _ => rfl) (fun v6 => ?_)
      refine g_inc (fun v7 => [some (oR 9 0), some (vI v6), some (vI v7)]) q149 rfl rfl (fun _ => rfl) (fun v7 => ?_)
      refine g_p q149 1 4 [some (oR 9 0), some (vI v6), some (vI v7)] [] rfl ?_
      exact g_end (fun h => g_wk [true, true, true] rfl h)
theorem g149 (X : X2) (s : S2) (o : Option (AV R2) × S2) : J (f149 s) (fun (r : Int) => o = (some (vI r), s)) (Go X 2 149 0 (am_loc (am_nl 149) [oR 9 0]) [] s o) := by
  show J _ _ (Go X 2 149 0 [some (oR 9 0), none, none] [] s o)
  unfold f149
  refine g_p q149 4 4 [some (oR 9 0), some (vI 0), some (vI 0)] [] rfl ?_
  refine g_wkJ [true, true, true] (L0 := [some (oR 9 0), some (vI 0), some (vI 0)]) rfl ?_
  refine g_itr (H149_a X s o) (E149_a X s o) (fun | (x1, x2) => g149_a X x1 x2 s o) ?_
  intro z8
  show J _ _ (Go X 2 149 30 [none, some (vI z8), none] [] s o)
  refine g_p q149 1 31 [none, some (vI z8), none] [vI z8] rfl ?_
  exact g_ret q149 rfl rfl rfl
theorem q148 : am_cd 148 = am_c148 := rfl
def H148_b (X : X2) (y15 : Int) (y16 : Int) (y17 : Int) (y18 : Int) (y21 : Int) (y22 : Int) (o : Option (AV R2) × S2) (a : Int × Int × Int × S2) : Prop := Go X 5 148 102 [some (oR 0 0), some (vI y15), some (vI y16), some (vI y17), some (vI y18), none, some (vL (a.1)), none, some (vI (a.2.1)), some (vI y21), some (vI y22), some (vI (a.2.2.1))] [] (a.2.2.2) o
def E148_b (X : X2) (y15 : Int) (y16 : Int) (y17 : Int) (y18 : Int) (y21 : Int) (y22 : Int) (o : Option (AV R2) × S2) : (Int × Int × S2) → Prop := (fun (r : Int × Int × S2) => Go X 5 148 163 [some (oR 0 0), some (vI y15), some (vI y16), some (vI y17), some (vI y18), none, some (vL (r.1)), none, some (vI (r.2.1)), some (vI y21), some (vI y22), none] [] (r.2.2) o)
theorem g148_b (X : X2) (y15 : Int) (y16 : Int) (y17 : Int) (y18 : Int) (y21 : Int) (y22 : Int) (x19 : Int) (x20 : Int) (x23 : Int) (s24 : S2) (o : Option (AV R2) × S2) : J (f148_b y16 y17 x19 x20 x23 s24) (am_kx (H148_b X y15 y16 y17 y18 y21 y22 o) (E148_b X y15 y16 y17 y18 y21 y22 o)) (Go X 5 148 102 [some (oR 0 0), some (vI y15), some (vI y16), some (vI y17), some (vI y18), none, some (vL x19), none, some (vI x20), some (vI y21), some (vI y22), some (vI x23)] [] s24 o) := by
  unfold f148_b
  refine g_p q148 2 105 [some (oR 0 0), some (vI y15), some (vI y16), some (vI y17), some (vI y18), none, some (vL x19), none, some (vI x20), some (vI y21), some (vI y22), some (vI x23)] [vI y16, vI x23] rfl ?_
  refine g_i2 q148 rfl rfl ?_ ?_
  ·
    exact g_end (fun h => g_wk [true, true, true, true, true, false, true, false, true, true, true, false] rfl h)
  ·
    refine g_p q148 7 122 [some (oR 0 0), some (vI y15), some (vI y16), some (vI y17), some (vI y18), none, some (vL x19), none, some (vI x20), some (vI y21), some (vI y22), some (vI x23)] [vL (krem (kadd (kmul x19 1103515245) 12345) 2147483648)] rfl ?_
    refine g_topl (fun v25 => ?_)
    refine g_p q148 3 127 [some (oR 0 0), some (vI y15), some (vI y16), some (vI y17), some (vI y18), none, some (vL v25), none, some (vI x20), some (vI y21), some (vI y22), some (vI x23)] [oR 0 0, vI x20] rfl ?_
    refine g_m (S := [oR 9 0, vI x20]) (some (oR 9 0)) q148 rfl rfl rfl (fun _ => rfl) rfl ?_
    refine g_p q148 8 143 [some (oR 0 0), some (vI y15), some (vI y16), some (vI y17), some (vI y18), none, some (vL v25), none, some (vI x20), some (vI y21), some (vI y22), some (vI x23)] [vI (jcmp (krem (kdiv v25 65536) 100) (ji2l y17)), oR 9 0, vI x20] rfl ?_
    refine g_jn (fun j151 => ∀ (x26 : Int), J (j151 x26) (am_kx (H148_b X y15 y16 y17 y18 y21 y22 o) (E148_b X y15 y16 y17 y18 y21 y22 o)) (Go X 5 148 151 [some (oR 0 0), some (vI y15), some (vI y16), some (vI y17), some (vI y18), none, some (vL v25), none, none, some (vI y21), some (vI y22), some (vI x23)] [vI x26, oR 9 0, vI x20] s24 o)) ?_ (fun j151 hj151 => ?_)
    ·
      intro x26
      refine g_cRI q148 rfl (g94 X x26 s24) rfl rfl rfl rfl rfl (fun r27 s28 => ?_)
      refine g_p q148 1 155 [some (oR 0 0), some (vI y15), some (vI y16), some (vI y17), some (vI y18), none, some (vL v25), none, none, some (vI y21), some (vI y22), some (vI x23)] [vI (jadd x20 r27)] rfl ?_
      refine g_top (fun v29 => ?_)
      refine g_p q148 1 157 [some (oR 0 0), some (vI y15), some (vI y16), some (vI y17), some (vI y18), none, some (vL v25), none, some (vI v29), some (vI y21), some (vI y22), some (vI x23)] [] rfl ?_
      refine g_inc (fun v30 => [some (oR 0 0), some (vI y15), some (vI y16), some (vI y17), some (vI y18), none, some (vL v25), none, some (vI v29), some (vI y21), some (vI y22), some (vI v30)]) q148 rfl rfl (fun _ => rfl) (fun v30 => ?_)
      refine g_p q148 1 102 [some (oR 0 0), some (vI y15), some (vI y16), some (vI y17), some (vI y18), none, some (vL v25), none, some (vI v29), some (vI y21), some (vI y22), some (vI v30)] [] rfl ?_
      exact g_end (fun h => g_wk [true, true, true, true, true, false, true, false, true, true, true, true] rfl h)
    ·
      refine g_i1 q148 rfl rfl ?_ ?_
      ·
        refine g_p q148 1 151 [some (oR 0 0), some (vI y15), some (vI y16), some (vI y17), some (vI y18), none, some (vL v25), none, some (vI x20), some (vI y21), some (vI y22), some (vI x23)] [vI 0, oR 9 0, vI x20] rfl ?_
        exact g_wkJ [true, true, true, true, true, false, true, false, false, true, true, true] rfl (hj151 0)
      ·
        refine g_p q148 2 151 [some (oR 0 0), some (vI y15), some (vI y16), some (vI y17), some (vI y18), none, some (vL v25), none, some (vI x20), some (vI y21), some (vI y22), some (vI x23)] [vI 1, oR 9 0, vI x20] rfl ?_
        exact g_wkJ [true, true, true, true, true, false, true, false, false, true, true, true] rfl (hj151 1)
def H148_a (X : X2) (y5 : Int) (y6 : Int) (y7 : Int) (y8 : Int) (o : Option (AV R2) × S2) (a : Int × Int × Int × Int × S2) : Prop := Go X 5 148 89 [some (oR 0 0), some (vI y5), some (vI y6), some (vI y7), some (vI y8), none, some (vL (a.1)), none, some (vI (a.2.1)), some (vI (a.2.2.1)), some (vI (a.2.2.2.1)), none] [] (a.2.2.2.2) o
def E148_a (X : X2) (y5 : Int) (y6 : Int) (y7 : Int) (y8 : Int) (o : Option (AV R2) × S2) : (Int × Int × S2) → Prop := (fun (r : Int × Int × S2) => Go X 5 148 181 [none, none, none, none, some (vI y8), none, none, none, some (vI (r.1)), some (vI (r.2.1)), none, none] [] (r.2.2) o)
theorem g148_a (X : X2) (y5 : Int) (y6 : Int) (y7 : Int) (y8 : Int) (x9 : Int) (x10 : Int) (x11 : Int) (x12 : Int) (s13 : S2) (o : Option (AV R2) × S2) : J (f148_a y5 y6 y7 x9 x10 x11 x12 s13) (am_kx (H148_a X y5 y6 y7 y8 o) (E148_a X y5 y6 y7 y8 o)) (Go X 5 148 89 [some (oR 0 0), some (vI y5), some (vI y6), some (vI y7), some (vI y8), none, some (vL x9), none, some (vI x10), some (vI x11), some (vI x12), none] [] s13 o) := by
  unfold f148_a
  refine g_p q148 2 92 [some (oR 0 0), some (vI y5), some (vI y6), some (vI y7), some (vI y8), none, some (vL x9), none, some (vI x10), some (vI x11), some (vI x12), none] [vI y5, vI x12] rfl ?_
  refine g_i2 q148 rfl rfl ?_ ?_
  ·
    exact g_end (fun h => g_wk [false, false, false, false, true, false, false, false, true, true, false, false] rfl h)
  ·
    refine g_p q148 1 96 [some (oR 0 0), some (vI y5), some (vI y6), some (vI y7), some (vI y8), none, some (vL x9), none, some (vI x10), some (vI x11), some (vI x12), none] [oR 0 0] rfl ?_
    refine g_cV q148 rfl (g75 X s13) rfl rfl rfl rfl rfl (fun s14 => ?_)
    refine g_p q148 2 102 [some (oR 0 0), some (vI y5), some (vI y6), some (vI y7), some (vI y8), none, some (vL x9), none, some (vI x10), some (vI x11), some (vI x12), some (vI 0)] [] rfl ?_
    refine g_wkJ [true, true, true, true, true, false, true, false, true, true, true, true] (L0 := [some (oR 0 0), some (vI y5), some (vI y6), some (vI y7), some (vI y8), none, some (vL x9), none, some (vI x10), some (vI x11), some (vI x12), some (vI 0)]) rfl ?_
    refine g_itr (H148_b X y5 y6 y7 y8 x11 x12 o) (E148_b X y5 y6 y7 y8 x11 x12 o) (fun | (x19, x20, x23, s24) => g148_b X y5 y6 y7 y8 x11 x12 x19 x20 x23 s24 o) ?_
    rintro ⟨z31, z32, s33⟩
    show J _ _ (Go X 5 148 163 [some (oR 0 0), some (vI y5), some (vI y6), some (vI y7), some (vI y8), none, some (vL z31), none, some (vI z32), some (vI x11), some (vI x12), none] [] s33 o)
    refine g_p q148 2 166 [some (oR 0 0), some (vI y5), some (vI y6), some (vI y7), some (vI y8), none, some (vL z31), none, some (vI z32), some (vI x11), some (vI x12), none] [oR 0 0, vI x11] rfl ?_
    refine g_m (S := [oR 9 0, vI x11]) (some (oR 9 0)) q148 rfl rfl rfl (fun _ => rfl) rfl ?_
    refine g_cPI q148 rfl (g149 X s33) rfl rfl rfl rfl rfl (fun r34 => ?_)
    refine g_p q148 1 173 [some (oR 0 0), some (vI y5), some (vI y6), some (vI y7), some (vI y8), none, some (vL z31), none, some (vI z32), some (vI x11), some (vI x12), none] [vI (jadd x11 r34)] rfl ?_
    refine g_top (fun v35 => ?_)
    refine g_p q148 1 175 [some (oR 0 0), some (vI y5), some (vI y6), some (vI y7), some (vI y8), none, some (vL z31), none, some (vI z32), some (vI v35), some (vI x12), none] [] rfl ?_
    refine g_inc (fun v36 => [some (oR 0 0), some (vI y5), some (vI y6), some (vI y7), some (vI y8), none, some (vL z31), none, some (vI z32), some (vI v35), some (vI v36), none]) q148 rfl rfl (fun _ => rfl) (fun v36 => ?_)
    refine g_p q148 1 89 [some (oR 0 0), some (vI y5), some (vI y6), some (vI y7), some (vI y8), none, some (vL z31), none, some (vI z32), some (vI v35), some (vI v36), none] [] rfl ?_
    exact g_end (fun h => g_wk [true, true, true, true, true, false, true, false, true, true, true, false] rfl h)
theorem g148 (X : X2) (a1 : Int) (a2 : Int) (a3 : Int) (a4 : Int) (s : S2) (o : Option (AV R2) × S2) : J (f148 a1 a2 a3 a4 s) (fun (r : Int × S2) => o = (some (vI r.1), r.2)) (Go X 5 148 0 (am_loc (am_nl 148) [oR 0 0, vI a1, vI a2, vI a3, vI a4]) [] s o) := by
  show J _ _ (Go X 5 148 0 [some (oR 0 0), some (vI a1), some (vI a2), some (vI a3), some (vI a4), none, none, none, none, none, none, none] [] s o)
  unfold f148
  refine g_p q148 2 2 [some (oR 0 0), some (vI a1), some (vI a2), some (vI a3), some (vI a4), none, none, none, none, none, none, none] [vI 1, vI a1] rfl ?_
  refine g_jn (fun j48 => ∀ (x1 : Int), J (j48 x1) (fun (r : Int × S2) => o = (some (vI r.1), r.2)) (Go X 5 148 48 [some (oR 0 0), some (vI a1), some (vI a2), some (vI a3), some (vI a4), none, none, none, none, none, none, none] [vI x1] s o)) ?_ (fun j48 hj48 => ?_)
  ·
    intro x1
    refine g_p q148 2 51 [some (oR 0 0), some (vI a1), some (vI a2), some (vI a3), some (vI a4), some (vI x1), none, none, none, none, none, none] [oR 0 0] rfl ?_
    refine g_m (S := [oR 8 0]) (some (oR 8 0)) q148 rfl rfl rfl (fun _ => rfl) rfl ?_
    refine g_m (S := [oR 3 0]) (some (oR 3 0)) q148 rfl rfl rfl (fun _ => rfl) rfl ?_
    refine g_get q148 rfl rfl rfl (fun _ => rfl) (fun v2 => ?_)
    refine g_i1 q148 rfl rfl ?_ ?_
    ·
      refine g_p q148 1 69 [some (oR 0 0), some (vI a1), some (vI a2), some (vI a3), some (vI a4), some (vI x1), none, none, none, none, none, none] [vI (-1)] rfl ?_
      exact g_ret q148 rfl rfl rfl
    ·
      refine g_p q148 1 65 [some (oR 0 0), some (vI a1), some (vI a2), some (vI a3), some (vI a4), some (vI x1), none, none, none, none, none, none] [vI x1] rfl ?_
      refine g_i1 q148 rfl rfl ?_ ?_
      ·
        refine g_p q148 1 71 [some (oR 0 0), some (vI a1), some (vI a2), some (vI a3), some (vI a4), some (vI x1), none, none, none, none, none, none] [oR 0 0] rfl ?_
        refine g_m (S := [oR 8 0]) (some (oR 8 0)) q148 rfl rfl rfl (fun _ => rfl) rfl ?_
        refine g_get q148 rfl rfl rfl (fun _ => rfl) (fun v3 => ?_)
        refine g_p q148 1 78 [some (oR 0 0), some (vI a1), some (vI a2), some (vI a3), some (vI a4), some (vI x1), none, none, none, none, none, none] [vL (ji2l v3)] rfl ?_
        refine g_topl (fun v4 => ?_)
        refine g_p q148 7 89 [some (oR 0 0), some (vI a1), some (vI a2), some (vI a3), some (vI a4), some (vI x1), some (vL v4), none, some (vI 0), some (vI 0), some (vI 0), none] [] rfl ?_
        refine g_wkJ [true, true, true, true, true, false, true, false, true, true, true, false] (L0 := [some (oR 0 0), some (vI a1), some (vI a2), some (vI a3), some (vI a4), none, some (vL v4), none, some (vI 0), some (vI 0), some (vI 0), none]) rfl ?_
        refine g_itr (H148_a X a1 a2 a3 a4 o) (E148_a X a1 a2 a3 a4 o) (fun | (x9, x10, x11, x12, s13) => g148_a X a1 a2 a3 a4 x9 x10 x11 x12 s13 o) ?_
        rintro ⟨z37, z38, s39⟩
        show J _ _ (Go X 5 148 181 [none, none, none, none, some (vI a4), none, none, none, some (vI z37), some (vI z38), none, none] [] s39 o)
        refine g_p q148 1 183 [none, none, none, none, some (vI a4), none, none, none, some (vI z37), some (vI z38), none, none] [vI a4] rfl ?_
        refine g_i1 q148 rfl rfl ?_ ?_
        ·
          refine g_p q148 1 193 [none, none, none, none, some (vI a4), none, none, none, some (vI z37), some (vI z38), none, none] [vI z38] rfl ?_
          exact g_ret q148 rfl rfl rfl
        ·
          refine g_p q148 2 193 [none, none, none, none, some (vI a4), none, none, none, some (vI z37), some (vI z38), none, none] [vI z37] rfl ?_
          exact g_ret q148 rfl rfl rfl
      ·
        refine g_p q148 1 69 [some (oR 0 0), some (vI a1), some (vI a2), some (vI a3), some (vI a4), some (vI x1), none, none, none, none, none, none] [vI (-1)] rfl ?_
        exact g_ret q148 rfl rfl rfl
  ·
    refine g_jn (fun j47 => ∀ (_ : Unit), J (j47 ()) (fun (r : Int × S2) => o = (some (vI r.1), r.2)) (Go X 5 148 47 [some (oR 0 0), some (vI a1), some (vI a2), some (vI a3), some (vI a4), none, none, none, none, none, none, none] [] s o)) ?_ (fun j47 hj47 => ?_)
    ·
      intro _
      refine g_p q148 1 48 [some (oR 0 0), some (vI a1), some (vI a2), some (vI a3), some (vI a4), none, none, none, none, none, none, none] [vI 0] rfl ?_
      exact g_wkJ [true, true, true, true, true, false, false, false, false, false, false, false] rfl (hj48 0)
    ·
      refine g_i2 q148 rfl rfl ?_ ?_
      ·
        exact g_wkJ [true, true, true, true, true, false, false, false, false, false, false, false] rfl (hj47 ())
      ·
        refine g_p q148 2 8 [some (oR 0 0), some (vI a1), some (vI a2), some (vI a3), some (vI a4), none, none, none, none, none, none, none] [vI 10, vI a1] rfl ?_
        refine g_i2 q148 rfl rfl ?_ ?_
        ·
          exact g_wkJ [true, true, true, true, true, false, false, false, false, false, false, false] rfl (hj47 ())
        ·
          refine g_p q148 2 13 [some (oR 0 0), some (vI a1), some (vI a2), some (vI a3), some (vI a4), none, none, none, none, none, none, none] [vI 1, vI a2] rfl ?_
          refine g_i2 q148 rfl rfl ?_ ?_
          ·
            exact g_wkJ [true, true, true, true, true, false, false, false, false, false, false, false] rfl (hj47 ())
          ·
            refine g_p q148 2 19 [some (oR 0 0), some (vI a1), some (vI a2), some (vI a3), some (vI a4), none, none, none, none, none, none, none] [vI 60, vI a2] rfl ?_
            refine g_i2 q148 rfl rfl ?_ ?_
            ·
              exact g_wkJ [true, true, true, true, true, false, false, false, false, false, false, false] rfl (hj47 ())
            ·
              refine g_p q148 1 23 [some (oR 0 0), some (vI a1), some (vI a2), some (vI a3), some (vI a4), none, none, none, none, none, none, none] [vI a3] rfl ?_
              refine g_i1 q148 rfl rfl ?_ ?_
              ·
                exact g_wkJ [true, true, true, true, true, false, false, false, false, false, false, false] rfl (hj47 ())
              ·
                refine g_p q148 2 29 [some (oR 0 0), some (vI a1), some (vI a2), some (vI a3), some (vI a4), none, none, none, none, none, none, none] [vI 100, vI a3] rfl ?_
                refine g_i2 q148 rfl rfl ?_ ?_
                ·
                  exact g_wkJ [true, true, true, true, true, false, false, false, false, false, false, false] rfl (hj47 ())
                ·
                  refine g_p q148 1 34 [some (oR 0 0), some (vI a1), some (vI a2), some (vI a3), some (vI a4), none, none, none, none, none, none, none] [vI a4] rfl ?_
                  refine g_i1 q148 rfl rfl ?_ ?_
                  ·
                    exact g_wkJ [true, true, true, true, true, false, false, false, false, false, false, false] rfl (hj47 ())
                  ·
                    refine g_p q148 2 40 [some (oR 0 0), some (vI a1), some (vI a2), some (vI a3), some (vI a4), none, none, none, none, none, none, none] [vI 1, vI a4] rfl ?_
                    refine g_i2 q148 rfl rfl ?_ ?_
                    ·
                      exact g_wkJ [true, true, true, true, true, false, false, false, false, false, false, false] rfl (hj47 ())
                    ·
                      refine g_p q148 2 48 [some (oR 0 0), some (vI a1), some (vI a2), some (vI a3), some (vI a4), none, none, none, none, none, none, none] [vI 1] rfl ?_
                      exact g_wkJ [true, true, true, true, true, false, false, false, false, false, false, false] rfl (hj48 1)
