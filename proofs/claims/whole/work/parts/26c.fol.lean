/-! THE SMALL MACHINE FOLLOWS THE FUNCTIONS, written by a program (gen_fn.py) -/
theorem q94 : am_cd 94 = am_c94 := rfl
def H94_a (X : X2) (o : Option (AV R2) × S2) (a : Int × S2) : Prop := Go X 4 94 7 [some (oR 9 0), none, some (vI (a.1)), none, none] [] (a.2) o
def E94_a (X : X2) (o : Option (AV R2) × S2) : (S2) → Prop := (fun (r : S2) => Go X 4 94 30 [some (oR 9 0), none, none, none, none] [] r o)
theorem g94_a (X : X2) (x2 : Int) (s3 : S2) (o : Option (AV R2) × S2) : J (f94_a x2 s3) (am_kx (H94_a X o) (E94_a X o)) (Go X 4 94 7 [some (oR 9 0), none, some (vI x2), none, none] [] s3 o) := by
  unfold f94_a
  refine g_p q94 2 10 [some (oR 9 0), none, some (vI x2), none, none] [vI 6, vI x2] rfl ?_
  refine g_i2 q94 rfl rfl ?_ ?_
  ·
    exact g_end (fun h => g_wk [true, false, false, false, false] rfl h)
  ·
    refine g_p q94 1 14 [some (oR 9 0), none, some (vI x2), none, none] [oR 9 0] rfl ?_
    refine g_m (S := [aR 1161 0]) (some (aR 1161 0)) q94 rfl rfl rfl (fun _ => rfl) rfl ?_
    refine g_p q94 3 20 [some (oR 9 0), none, some (vI x2), none, none] [vI x2, oR 9 0, vI x2, aR 1161 0] rfl ?_
    refine g_cRI q94 rfl (g81 X x2 s3) rfl rfl rfl rfl rfl (fun r4 s5 => ?_)
    refine g_sto q94 rfl rfl rfl rfl (fun s6 => ?_)
    refine g_inc (fun v7 => [some (oR 9 0), none, some (vI v7), none, none]) q94 rfl rfl (fun _ => rfl) (fun v7 => ?_)
    refine g_p q94 1 7 [some (oR 9 0), none, some (vI v7), none, none] [] rfl ?_
    exact g_end (fun h => g_wk [true, false, true, false, false] rfl h)
def H94_b (X : X2) (o : Option (AV R2) × S2) (a : Int × Int × S2) : Prop := Go X 4 94 34 [some (oR 9 0), none, some (vI (a.1)), some (vI (a.2.1)), none] [] (a.2.2) o
def E94_b (X : X2) (o : Option (AV R2) × S2) : (Int × S2) → Prop := (fun (r : Int × S2) => Go X 4 94 111 [some (oR 9 0), none, some (vI (r.1)), none, none] [] (r.2) o)
theorem g94_b (X : X2) (x9 : Int) (x10 : Int) (s11 : S2) (o : Option (AV R2) × S2) : J (f94_b x9 x10 s11) (am_kx (H94_b X o) (E94_b X o)) (Go X 4 94 34 [some (oR 9 0), none, some (vI x9), some (vI x10), none] [] s11 o) := by
  unfold f94_b
  refine g_p q94 2 37 [some (oR 9 0), none, some (vI x9), some (vI x10), none] [vI 6, vI x10] rfl ?_
  refine g_i2 q94 rfl rfl ?_ ?_
  ·
    exact g_end (fun h => g_wk [true, false, true, false, false] rfl h)
  ·
    refine g_p q94 1 41 [some (oR 9 0), none, some (vI x9), some (vI x10), none] [oR 9 0] rfl ?_
    refine g_m (S := [aR 1161 0]) (some (aR 1161 0)) q94 rfl rfl rfl (fun _ => rfl) rfl ?_
    refine g_p q94 1 45 [some (oR 9 0), none, some (vI x9), some (vI x10), none] [vI x10, aR 1161 0] rfl ?_
    refine g_ld q94 rfl rfl rfl rfl rfl rfl (fun v12 => ?_)
    refine g_p q94 2 49 [some (oR 9 0), none, some (vI x9), some (vI x10), some (vI v12)] [oR 9 0] rfl ?_
    refine g_m (S := [oR 4 160]) (some (oR 4 160)) q94 rfl rfl rfl (fun _ => rfl) rfl ?_
    refine g_m (S := [aR 513 160]) (some (aR 513 160)) q94 rfl rfl rfl (fun _ => rfl) rfl ?_
    refine g_p q94 2 58 [some (oR 9 0), none, some (vI x9), some (vI x10), some (vI v12)] [vI v12, vI x10, aR 513 160] rfl ?_
    refine g_sto q94 rfl rfl rfl rfl (fun s13 => ?_)
    refine g_p q94 1 60 [some (oR 9 0), none, some (vI x9), some (vI x10), some (vI v12)] [oR 9 0] rfl ?_
    refine g_dyn q94 rfl rfl rfl (fun _ => rfl) (fun i14 => ?_)
    refine g_p q94 1 65 [some (oR 9 0), none, some (vI x9), some (vI x10), some (vI v12)] [vI v12, oR 3 i14] rfl ?_
    refine g_cPI q94 rfl (g51 X i14 v12 s13) rfl rfl rfl rfl rfl (fun r15 => ?_)
    refine g_i1 q94 rfl rfl ?_ ?_
    ·
      refine g_inc (fun v16 => [some (oR 9 0), none, some (vI x9), some (vI v16), some (vI v12)]) q94 rfl rfl (fun _ => rfl) (fun v16 => ?_)
      refine g_p q94 1 34 [some (oR 9 0), none, some (vI x9), some (vI v16), some (vI v12)] [] rfl ?_
      exact g_end (fun h => g_wk [true, false, true, true, false] rfl h)
    ·
      refine g_p q94 1 72 [some (oR 9 0), none, some (vI x9), some (vI x10), some (vI v12)] [oR 9 0] rfl ?_
      refine g_m (S := [oR 4 160]) (some (oR 4 160)) q94 rfl rfl rfl (fun _ => rfl) rfl ?_
      refine g_m (S := [aR 518 160]) (some (aR 518 160)) q94 rfl rfl rfl (fun _ => rfl) rfl ?_
      refine g_p q94 2 81 [some (oR 9 0), none, some (vI x9), some (vI x10), some (vI v12)] [vI v12, aR 518 160, vI v12, aR 518 160] rfl ?_
      refine g_ld q94 rfl rfl rfl rfl rfl rfl (fun v17 => ?_)
      refine g_p q94 1 83 [some (oR 9 0), none, some (vI x9), some (vI x10), some (vI v12)] [oR 9 0, vI v17, vI v12, aR 518 160] rfl ?_
      refine g_dyn q94 rfl rfl rfl (fun _ => rfl) (fun i18 => ?_)
      refine g_m (S := [aR 393 i18, vI v17, vI v12, aR 518 160]) (some (aR 393 i18)) q94 rfl rfl rfl (fun _ => rfl) rfl ?_
      refine g_p q94 1 90 [some (oR 9 0), none, some (vI x9), some (vI x10), some (vI v12)] [vI x10, aR 393 i18, vI v17, vI v12, aR 518 160] rfl ?_
      refine g_ld q94 rfl rfl rfl rfl rfl rfl (fun v19 => ?_)
      refine g_p q94 1 92 [some (oR 9 0), none, some (vI x9), some (vI x10), some (vI v12)] [vI (jadd v17 v19), vI v12, aR 518 160] rfl ?_
      refine g_sto q94 rfl rfl rfl rfl (fun s20 => ?_)
      refine g_p q94 2 95 [some (oR 9 0), none, some (vI x9), some (vI x10), some (vI v12)] [oR 9 0, vI x9] rfl ?_
      refine g_dyn q94 rfl rfl rfl (fun _ => rfl) (fun i21 => ?_)
      refine g_m (S := [aR 393 i21, vI x9]) (some (aR 393 i21)) q94 rfl rfl rfl (fun _ => rfl) rfl ?_
      refine g_p q94 1 102 [some (oR 9 0), none, some (vI x9), some (vI x10), some (vI v12)] [vI x10, aR 393 i21, vI x9] rfl ?_
      refine g_ld q94 rfl rfl rfl rfl rfl rfl (fun v22 => ?_)
      refine g_p q94 1 104 [some (oR 9 0), none, some (vI x9), some (vI x10), some (vI v12)] [vI (jadd x9 v22)] rfl ?_
      refine g_top (fun v23 => ?_)
      refine g_p q94 1 105 [some (oR 9 0), none, some (vI v23), some (vI x10), some (vI v12)] [] rfl ?_
      refine g_inc (fun v24 => [some (oR 9 0), none, some (vI v23), some (vI v24), some (vI v12)]) q94 rfl rfl (fun _ => rfl) (fun v24 => ?_)
      refine g_p q94 1 34 [some (oR 9 0), none, some (vI v23), some (vI v24), some (vI v12)] [] rfl ?_
      exact g_end (fun h => g_wk [true, false, true, true, false] rfl h)
def H94_c (X : X2) (y27 : Int) (o : Option (AV R2) × S2) (a : Int × S2) : Prop := Go X 4 94 113 [some (oR 9 0), none, some (vI y27), some (vI (a.1)), none] [] (a.2) o
def E94_c (X : X2) (y27 : Int) (o : Option (AV R2) × S2) : (S2) → Prop := (fun (r : S2) => Go X 4 94 160 [some (oR 9 0), none, some (vI y27), none, none] [] r o)
theorem g94_c (X : X2) (y27 : Int) (x28 : Int) (s29 : S2) (o : Option (AV R2) × S2) : J (f94_c x28 s29) (am_kx (H94_c X y27 o) (E94_c X y27 o)) (Go X 4 94 113 [some (oR 9 0), none, some (vI y27), some (vI x28), none] [] s29 o) := by
  unfold f94_c
  refine g_p q94 2 116 [some (oR 9 0), none, some (vI y27), some (vI x28), none] [vI 10, vI x28] rfl ?_
  refine g_i2 q94 rfl rfl ?_ ?_
  ·
    exact g_end (fun h => g_wk [true, false, true, false, false] rfl h)
  ·
    refine g_p q94 1 120 [some (oR 9 0), none, some (vI y27), some (vI x28), none] [oR 9 0] rfl ?_
    refine g_m (S := [oR 4 160]) (some (oR 4 160)) q94 rfl rfl rfl (fun _ => rfl) rfl ?_
    refine g_m (S := [aR 515 160]) (some (aR 515 160)) q94 rfl rfl rfl (fun _ => rfl) rfl ?_
    refine g_p q94 1 127 [some (oR 9 0), none, some (vI y27), some (vI x28), none] [vI x28, aR 515 160] rfl ?_
    refine g_ld q94 rfl rfl rfl rfl rfl rfl (fun v30 => ?_)
    refine g_p q94 1 129 [some (oR 9 0), none, some (vI y27), some (vI x28), none] [vI (-1), vI v30] rfl ?_
    refine g_i2 q94 rfl rfl ?_ ?_
    ·
      refine g_inc (fun v31 => [some (oR 9 0), none, some (vI y27), some (vI v31), none]) q94 rfl rfl (fun _ => rfl) (fun v31 => ?_)
      refine g_p q94 1 113 [some (oR 9 0), none, some (vI y27), some (vI v31), none] [] rfl ?_
      exact g_end (fun h => g_wk [true, false, true, true, false] rfl h)
    ·
      refine g_p q94 1 133 [some (oR 9 0), none, some (vI y27), some (vI x28), none] [oR 9 0] rfl ?_
      refine g_m (S := [oR 4 160]) (some (oR 4 160)) q94 rfl rfl rfl (fun _ => rfl) rfl ?_
      refine g_m (S := [aR 516 160]) (some (aR 516 160)) q94 rfl rfl rfl (fun _ => rfl) rfl ?_
      refine g_p q94 3 142 [some (oR 9 0), none, some (vI y27), some (vI x28), none] [oR 9 0, oR 9 0, vI x28, aR 516 160] rfl ?_
      refine g_m (S := [oR 4 160, oR 9 0, vI x28, aR 516 160]) (some (oR 4 160)) q94 rfl rfl rfl (fun _ => rfl) rfl ?_
      refine g_m (S := [aR 516 160, oR 9 0, vI x28, aR 516 160]) (some (aR 516 160)) q94 rfl rfl rfl (fun _ => rfl) rfl ?_
      refine g_p q94 1 149 [some (oR 9 0), none, some (vI y27), some (vI x28), none] [vI x28, aR 516 160, oR 9 0, vI x28, aR 516 160] rfl ?_
      refine g_ld q94 rfl rfl rfl rfl rfl rfl (fun v32 => ?_)
      refine g_cPI q94 rfl (g95 X v32 s29) rfl rfl rfl rfl rfl (fun r33 => ?_)
      refine g_sto q94 rfl rfl rfl rfl (fun s34 => ?_)
      refine g_inc (fun v35 => [some (oR 9 0), none, some (vI y27), some (vI v35), none]) q94 rfl rfl (fun _ => rfl) (fun v35 => ?_)
      refine g_p q94 1 113 [some (oR 9 0), none, some (vI y27), some (vI v35), none] [] rfl ?_
      exact g_end (fun h => g_wk [true, false, true, true, false] rfl h)
theorem g94 (X : X2) (a1 : Int) (s : S2) (o : Option (AV R2) × S2) : J (f94 a1 s) (fun (r : Int × S2) => o = (some (vI r.1), r.2)) (Go X 4 94 0 (am_loc (am_nl 94) [oR 9 0, vI a1]) [] s o) := by
  show J _ _ (Go X 4 94 0 [some (oR 9 0), some (vI a1), none, none, none] [] s o)
  unfold f94
  refine g_p q94 2 2 [some (oR 9 0), some (vI a1), none, none, none] [vI a1, oR 9 0] rfl ?_
  refine g_cV q94 rfl (g78 X a1 s) rfl rfl rfl rfl rfl (fun s1 => ?_)
  refine g_p q94 2 7 [some (oR 9 0), some (vI a1), some (vI 0), none, none] [] rfl ?_
  refine g_wkJ [true, false, true, false, false] (L0 := [some (oR 9 0), none, some (vI 0), none, none]) rfl ?_
  refine g_itr (H94_a X o) (E94_a X o) (fun | (x2, s3) => g94_a X x2 s3 o) ?_
  intro s8
  show J _ _ (Go X 4 94 30 [some (oR 9 0), none, none, none, none] [] s8 o)
  refine g_p q94 4 34 [some (oR 9 0), none, some (vI 0), some (vI 0), none] [] rfl ?_
  refine g_wkJ [true, false, true, true, false] (L0 := [some (oR 9 0), none, some (vI 0), some (vI 0), none]) rfl ?_
  refine g_itr (H94_b X o) (E94_b X o) (fun | (x9, x10, s11) => g94_b X x9 x10 s11 o) ?_
  rintro ⟨z25, s26⟩
  show J _ _ (Go X 4 94 111 [some (oR 9 0), none, some (vI z25), none, none] [] s26 o)
  refine g_p q94 2 113 [some (oR 9 0), none, some (vI z25), some (vI 0), none] [] rfl ?_
  refine g_wkJ [true, false, true, true, false] (L0 := [some (oR 9 0), none, some (vI z25), some (vI 0), none]) rfl ?_
  refine g_itr (H94_c X z25 o) (E94_c X z25 o) (fun | (x28, s29) => g94_c X z25 x28 s29 o) ?_
  intro s36
  show J _ _ (Go X 4 94 160 [some (oR 9 0), none, some (vI z25), none, none] [] s36 o)
  refine g_p q94 1 161 [some (oR 9 0), none, some (vI z25), none, none] [oR 9 0] rfl ?_
  refine g_m (S := [oR 4 160]) (some (oR 4 160)) q94 rfl rfl rfl (fun _ => rfl) rfl ?_
  refine g_p q94 1 165 [some (oR 9 0), none, some (vI z25), none, none] [oR 4 160, oR 4 160] rfl ?_
  refine g_get q94 rfl rfl rfl (fun _ => rfl) (fun v37 => ?_)
  refine g_p q94 2 170 [some (oR 9 0), none, some (vI z25), none, none] [vI (jadd v37 1), oR 4 160] rfl ?_
  refine g_put q94 rfl rfl rfl (fun _ => rfl) (fun s38 => ?_)
  refine g_p q94 1 174 [some (oR 9 0), none, some (vI z25), none, none] [vI z25] rfl ?_
  exact g_ret q94 rfl rfl rfl
theorem q92 : am_cd 92 = am_c92 := rfl
theorem g92 (X : X2) (s : S2) (o : Option (AV R2) × S2) : J (f92 s) (fun (r : Int × S2) => o = (some (vI r.1), r.2)) (Go X 5 92 0 (am_loc (am_nl 92) [oR 0 0]) [] s o) := by
  show J _ _ (Go X 5 92 0 [some (oR 0 0), none] [] s o)
  unfold f92
  refine g_p q92 1 1 [some (oR 0 0), none] [oR 0 0] rfl ?_
  refine g_m (S := [oR 8 0]) (some (oR 8 0)) q92 rfl rfl rfl (fun _ => rfl) rfl ?_
  refine g_m (S := [oR 3 0]) (some (oR 3 0)) q92 rfl rfl rfl (fun _ => rfl) rfl ?_
  refine g_get q92 rfl rfl rfl (fun _ => rfl) (fun v1 => ?_)
  refine g_i1 q92 rfl rfl ?_ ?_
  ·
    refine g_p q92 1 30 [some (oR 0 0), none] [vI (-1)] rfl ?_
    exact g_ret q92 rfl rfl rfl
  ·
    refine g_p q92 1 14 [some (oR 0 0), none] [oR 0 0] rfl ?_
    refine g_m (S := [oR 8 0]) (some (oR 8 0)) q92 rfl rfl rfl (fun _ => rfl) rfl ?_
    refine g_m (S := [oR 4 0]) (some (oR 4 0)) q92 rfl rfl rfl (fun _ => rfl) rfl ?_
    refine g_get q92 rfl rfl rfl (fun _ => rfl) (fun v2 => ?_)
    refine g_p q92 1 26 [some (oR 0 0), none] [vI 999, vI v2] rfl ?_
    refine g_i2 q92 rfl rfl ?_ ?_
    ·
      refine g_p q92 1 32 [some (oR 0 0), none] [oR 0 0] rfl ?_
      refine g_m (S := [oR 8 0]) (some (oR 8 0)) q92 rfl rfl rfl (fun _ => rfl) rfl ?_
      refine g_cV q92 rfl (g93 X 0 s) rfl rfl rfl rfl rfl (fun s3 => ?_)
      refine g_p q92 1 39 [some (oR 0 0), none] [oR 0 0] rfl ?_
      refine g_cV q92 rfl (g75 X s3) rfl rfl rfl rfl rfl (fun s4 => ?_)
      refine g_p q92 1 43 [some (oR 0 0), none] [oR 0 0] rfl ?_
      refine g_m (S := [oR 9 0]) (some (oR 9 0)) q92 rfl rfl rfl (fun _ => rfl) rfl ?_
      refine g_p q92 1 47 [some (oR 0 0), none] [vI 0, oR 9 0] rfl ?_
      refine g_cRI q92 rfl (g94 X 0 s4) rfl rfl rfl rfl rfl (fun r5 s6 => ?_)
      refine g_p q92 2 52 [some (oR 0 0), some (vI r5)] [oR 0 0] rfl ?_
      refine g_m (S := [oR 8 0]) (some (oR 8 0)) q92 rfl rfl rfl (fun _ => rfl) rfl ?_
      refine g_m (S := [oR 4 0]) (some (oR 4 0)) q92 rfl rfl rfl (fun _ => rfl) rfl ?_
      refine g_p q92 1 59 [some (oR 0 0), some (vI r5)] [oR 0 0, oR 4 0] rfl ?_
      refine g_m (S := [oR 9 0, oR 4 0]) (some (oR 9 0)) q92 rfl rfl rfl (fun _ => rfl) rfl ?_
      refine g_m (S := [oR 4 160, oR 4 0]) (some (oR 4 160)) q92 rfl rfl rfl (fun _ => rfl) rfl ?_
      refine g_cV q92 rfl (g58 X 0 160 s6) rfl rfl rfl rfl rfl (fun s7 => ?_)
      refine g_p q92 1 69 [some (oR 0 0), some (vI r5)] [vI r5] rfl ?_
      exact g_ret q92 rfl rfl rfl
    ·
      refine g_p q92 1 30 [some (oR 0 0), none] [vI (-1)] rfl ?_
      exact g_ret q92 rfl rfl rfl
theorem q96 : am_cd 96 = am_c96 := rfl
theorem g96 (X : X2) (a1 : Int) (a2 : Int) (s : S2) (o : Option (AV R2) × S2) : J (f96 a1 a2 s) (fun (r : Int × S2) => o = (some (vI r.1), r.2)) (Go X 5 96 0 (am_loc (am_nl 96) [oR 0 0, vI a1, vI a2]) [] s o) := by
  show J _ _ (Go X 5 96 0 [some (oR 0 0), some (vI a1), some (vI a2)] [] s o)
  unfold f96
  refine g_p q96 1 1 [some (oR 0 0), some (vI a1), some (vI a2)] [oR 0 0] rfl ?_
  refine g_m (S := [oR 8 0]) (some (oR 8 0)) q96 rfl rfl rfl (fun _ => rfl) rfl ?_
  refine g_m (S := [oR 4 0]) (some (oR 4 0)) q96 rfl rfl rfl (fun _ => rfl) rfl ?_
  refine g_p q96 1 8 [some (oR 0 0), some (vI a1), some (vI a2)] [oR 0 0, oR 4 0] rfl ?_
  refine g_m (S := [oR 8 0, oR 4 0]) (some (oR 8 0)) q96 rfl rfl rfl (fun _ => rfl) rfl ?_
  refine g_m (S := [oR 3 0, oR 4 0]) (some (oR 3 0)) q96 rfl rfl rfl (fun _ => rfl) rfl ?_
  refine g_p q96 2 16 [some (oR 0 0), some (vI a1), some (vI a2)] [vI a2, vI a1, oR 3 0, oR 4 0] rfl ?_
  refine g_cPI q96 rfl (g48 X 0 0 a1 a2 s) rfl rfl rfl rfl rfl (fun r1 => ?_)
  refine g_i1 q96 rfl rfl ?_ ?_
  ·
    refine g_p q96 1 25 [some (oR 0 0), some (vI a1), some (vI a2)] [oR 0 0] rfl ?_
    refine g_m (S := [oR 8 0]) (some (oR 8 0)) q96 rfl rfl rfl (fun _ => rfl) rfl ?_
    refine g_cV q96 rfl (g93 X 0 s) rfl rfl rfl rfl rfl (fun s2 => ?_)
    refine g_p q96 1 32 [some (oR 0 0), some (vI a1), some (vI a2)] [oR 0 0] rfl ?_
    refine g_m (S := [oR 8 0]) (some (oR 8 0)) q96 rfl rfl rfl (fun _ => rfl) rfl ?_
    refine g_m (S := [oR 4 0]) (some (oR 4 0)) q96 rfl rfl rfl (fun _ => rfl) rfl ?_
    refine g_p q96 1 39 [some (oR 0 0), some (vI a1), some (vI a2)] [oR 0 0, oR 4 0] rfl ?_
    refine g_m (S := [oR 8 0, oR 4 0]) (some (oR 8 0)) q96 rfl rfl rfl (fun _ => rfl) rfl ?_
    refine g_m (S := [oR 3 0, oR 4 0]) (some (oR 3 0)) q96 rfl rfl rfl (fun _ => rfl) rfl ?_
    refine g_p q96 2 47 [some (oR 0 0), some (vI a1), some (vI a2)] [vI a2, vI a1, oR 3 0, oR 4 0] rfl ?_
    refine g_cV q96 rfl (g54 X 0 0 a1 a2 s2) rfl rfl rfl rfl rfl (fun s3 => ?_)
    refine g_p q96 1 51 [some (oR 0 0), some (vI a1), some (vI a2)] [oR 0 0] rfl ?_
    refine g_m (S := [oR 8 0]) (some (oR 8 0)) q96 rfl rfl rfl (fun _ => rfl) rfl ?_
    refine g_m (S := [oR 4 0]) (some (oR 4 0)) q96 rfl rfl rfl (fun _ => rfl) rfl ?_
    refine g_p q96 1 58 [some (oR 0 0), some (vI a1), some (vI a2)] [oR 0 0, oR 4 0] rfl ?_
    refine g_m (S := [oR 8 0, oR 4 0]) (some (oR 8 0)) q96 rfl rfl rfl (fun _ => rfl) rfl ?_
    refine g_m (S := [oR 3 0, oR 4 0]) (some (oR 3 0)) q96 rfl rfl rfl (fun _ => rfl) rfl ?_
    refine g_p q96 1 65 [some (oR 0 0), some (vI a1), some (vI a2)] [vI a2, oR 3 0, oR 4 0] rfl ?_
    refine g_cPI q96 rfl (g52 X 0 0 a2 s3) rfl rfl rfl rfl rfl (fun r4 => ?_)
    exact g_ret q96 rfl rfl rfl
  ·
    refine g_p q96 1 23 [some (oR 0 0), some (vI a1), some (vI a2)] [vI (-1)] rfl ?_
    exact g_ret q96 rfl rfl rfl
theorem q98 : am_cd 98 = am_c98 := rfl
theorem g98 (X : X2) (a0 : Nat) (a1 : Int) (s : S2) (o : Option (AV R2) × S2) : J (f98 a0 a1 s) (fun (r : Int) => o = (some (vI r), s)) (Go X 2 98 0 (am_loc (am_nl 98) [oR 8 a0, vI a1]) [] s o) := by
  show J _ _ (Go X 2 98 0 [some (oR 8 a0), some (vI a1)] [] s o)
  unfold f98
  refine g_p q98 1 1 [some (oR 8 a0), some (vI a1)] [oR 8 a0] rfl ?_
  refine g_m (S := [oR 3 a0]) (some (oR 3 a0)) q98 rfl rfl rfl (fun _ => rfl) rfl ?_
  refine g_p q98 1 5 [some (oR 8 a0), some (vI a1)] [vI a1, oR 3 a0] rfl ?_
  refine g_cPI q98 rfl (g49 X a0 a1 s) rfl rfl rfl rfl rfl (fun r1 => ?_)
  refine g_i1 q98 rfl rfl ?_ ?_
  ·
    refine g_p q98 1 29 [some (oR 8 a0), some (vI a1)] [vI 0] rfl ?_
    exact g_ret q98 rfl rfl rfl
  ·
    refine g_p q98 1 12 [some (oR 8 a0), some (vI a1)] [oR 8 a0] rfl ?_
    refine g_m (S := [oR 4 (32 * a0 + 0)]) (some (oR 4 (32 * a0 + 0))) q98 rfl rfl rfl (fun _ => rfl) rfl ?_
    refine g_m (S := [aR 515 (32 * a0 + 0)]) (some (aR 515 (32 * a0 + 0))) q98 rfl rfl rfl (fun _ => rfl) rfl ?_
    refine g_p q98 1 19 [some (oR 8 a0), some (vI a1)] [vI a1, aR 515 (32 * a0 + 0)] rfl ?_
    refine g_ld q98 rfl rfl rfl rfl rfl rfl (fun v2 => ?_)
    refine g_p q98 1 21 [some (oR 8 a0), some (vI a1)] [vI (-1), vI v2] rfl ?_
    refine g_i2 q98 rfl rfl ?_ ?_
    ·
      refine g_p q98 1 29 [some (oR 8 a0), some (vI a1)] [vI 0] rfl ?_
      exact g_ret q98 rfl rfl rfl
    ·
      refine g_p q98 2 29 [some (oR 8 a0), some (vI a1)] [vI 1] rfl ?_
      exact g_ret q98 rfl rfl rfl
theorem q99 : am_cd 99 = am_c99 := rfl
theorem g99 (X : X2) (a0 : Nat) (a1 : Nat) (a2 : Int) (s : S2) (o : Option (AV R2) × S2) : J (f99 a0 a1 a2 s) (fun (r : S2) => o = (none, r)) (Go X 2 99 0 (am_loc (am_nl 99) [oR 4 a0, oR 3 a1, vI a2]) [] s o) := by
  show J _ _ (Go X 2 99 0 [some (oR 4 a0), some (oR 3 a1), some (vI a2)] [] s o)
  unfold f99
  refine g_p q99 2 2 [some (oR 4 a0), some (oR 3 a1), some (vI a2)] [vI a2, oR 3 a1] rfl ?_
  refine g_cPI q99 rfl (g49 X a1 a2 s) rfl rfl rfl rfl rfl (fun r1 => ?_)
  refine g_i1 q99 rfl rfl ?_ ?_
  ·
    exact g_retV q99 rfl rfl
  ·
    refine g_p q99 1 9 [some (oR 4 a0), some (oR 3 a1), some (vI a2)] [oR 4 a0] rfl ?_
    refine g_m (S := [aR 515 a0]) (some (aR 515 a0)) q99 rfl rfl rfl (fun _ => rfl) rfl ?_
    refine g_p q99 1 13 [some (oR 4 a0), some (oR 3 a1), some (vI a2)] [vI a2, aR 515 a0] rfl ?_
    refine g_ld q99 rfl rfl rfl rfl rfl rfl (fun v2 => ?_)
    refine g_p q99 1 15 [some (oR 4 a0), some (oR 3 a1), some (vI a2)] [vI (-1), vI v2] rfl ?_
    refine g_i2 q99 rfl rfl ?_ ?_
    ·
      exact g_retV q99 rfl rfl
    ·
      refine g_p q99 2 20 [some (oR 4 a0), some (oR 3 a1), some (vI a2)] [oR 3 a1, oR 3 a1] rfl ?_
      refine g_m (S := [aR 395 a1, oR 3 a1]) (some (aR 395 a1)) q99 rfl rfl rfl (fun _ => rfl) rfl ?_
      refine g_p q99 1 24 [some (oR 4 a0), some (oR 3 a1), some (vI a2)] [vI a2, aR 395 a1, oR 3 a1] rfl ?_
      refine g_ld q99 rfl rfl rfl rfl rfl rfl (fun v3 => ?_)
      refine g_cPI q99 rfl (g51 X a1 v3 s) rfl rfl rfl rfl rfl (fun r4 => ?_)
      refine g_i1 q99 rfl rfl ?_ ?_
      ·
        exact g_retV q99 rfl rfl
      ·
        refine g_p q99 1 32 [some (oR 4 a0), some (oR 3 a1), some (vI a2)] [oR 4 a0] rfl ?_
        refine g_m (S := [aR 515 a0]) (some (aR 515 a0)) q99 rfl rfl rfl (fun _ => rfl) rfl ?_
        refine g_p q99 2 37 [some (oR 4 a0), some (oR 3 a1), some (vI a2)] [vI (-1), vI a2, aR 515 a0] rfl ?_
        refine g_sto q99 rfl rfl rfl rfl (fun s5 => ?_)
        refine g_p q99 1 39 [some (oR 4 a0), some (oR 3 a1), some (vI a2)] [oR 4 a0] rfl ?_
        refine g_m (S := [aR 517 a0]) (some (aR 517 a0)) q99 rfl rfl rfl (fun _ => rfl) rfl ?_
        refine g_p q99 1 43 [some (oR 4 a0), some (oR 3 a1), some (vI a2)] [oR 3 a1, aR 517 a0] rfl ?_
        refine g_m (S := [aR 395 a1, aR 517 a0]) (some (aR 395 a1)) q99 rfl rfl rfl (fun _ => rfl) rfl ?_
        refine g_p q99 1 47 [some (oR 4 a0), some (oR 3 a1), some (vI a2)] [vI a2, aR 395 a1, aR 517 a0] rfl ?_
        refine g_ld q99 rfl rfl rfl rfl rfl rfl (fun v6 => ?_)
        refine g_p q99 1 49 [some (oR 4 a0), some (oR 3 a1), some (vI a2)] [vI v6, aR 517 a0, vI v6, aR 517 a0] rfl ?_
        refine g_ld q99 rfl rfl rfl rfl rfl rfl (fun v7 => ?_)
        refine g_p q99 2 52 [some (oR 4 a0), some (oR 3 a1), some (vI a2)] [vI (jadd v7 2), vI v6, aR 517 a0] rfl ?_
        refine g_sto q99 rfl rfl rfl rfl (fun s8 => ?_)
        exact g_retV q99 rfl rfl
theorem q97 : am_cd 97 = am_c97 := rfl
theorem g97 (X : X2) (a1 : Int) (s : S2) (o : Option (AV R2) × S2) : J (f97 a1 s) (fun (r : Int × S2) => o = (some (vI r.1), r.2)) (Go X 4 97 0 (am_loc (am_nl 97) [oR 0 0, vI a1]) [] s o) := by
  show J _ _ (Go X 4 97 0 [some (oR 0 0), some (vI a1), none] [] s o)
  unfold f97
  refine g_p q97 1 1 [some (oR 0 0), some (vI a1), none] [oR 0 0] rfl ?_
  refine g_m (S := [oR 8 0]) (some (oR 8 0)) q97 rfl rfl rfl (fun _ => rfl) rfl ?_
  refine g_p q97 1 5 [some (oR 0 0), some (vI a1), none] [vI a1, oR 8 0] rfl ?_
  refine g_cPI q97 rfl (g98 X 0 a1 s) rfl rfl rfl rfl rfl (fun r1 => ?_)
  refine g_i1 q97 rfl rfl ?_ ?_
  ·
    refine g_p q97 1 14 [some (oR 0 0), some (vI a1), none] [oR 0 0] rfl ?_
    refine g_m (S := [oR 8 0]) (some (oR 8 0)) q97 rfl rfl rfl (fun _ => rfl) rfl ?_
    refine g_cV q97 rfl (g93 X 0 s) rfl rfl rfl rfl rfl (fun s2 => ?_)
    refine g_p q97 1 21 [some (oR 0 0), some (vI a1), none] [oR 0 0] rfl ?_
    refine g_m (S := [oR 8 0]) (some (oR 8 0)) q97 rfl rfl rfl (fun _ => rfl) rfl ?_
    refine g_m (S := [oR 4 0]) (some (oR 4 0)) q97 rfl rfl rfl (fun _ => rfl) rfl ?_
    refine g_m (S := [aR 515 0]) (some (aR 515 0)) q97 rfl rfl rfl (fun _ => rfl) rfl ?_
    refine g_p q97 1 31 [some (oR 0 0), some (vI a1), none] [vI a1, aR 515 0] rfl ?_
    refine g_ld q97 rfl rfl rfl rfl rfl rfl (fun v3 => ?_)
    refine g_p q97 2 34 [some (oR 0 0), some (vI a1), some (vI v3)] [oR 0 0] rfl ?_
    refine g_m (S := [oR 8 0]) (some (oR 8 0)) q97 rfl rfl rfl (fun _ => rfl) rfl ?_
    refine g_m (S := [oR 4 0]) (some (oR 4 0)) q97 rfl rfl rfl (fun _ => rfl) rfl ?_
    refine g_p q97 1 41 [some (oR 0 0), some (vI a1), some (vI v3)] [oR 0 0, oR 4 0] rfl ?_
    refine g_m (S := [oR 8 0, oR 4 0]) (some (oR 8 0)) q97 rfl rfl rfl (fun _ => rfl) rfl ?_
    refine g_m (S := [oR 3 0, oR 4 0]) (some (oR 3 0)) q97 rfl rfl rfl (fun _ => rfl) rfl ?_
    refine g_p q97 1 48 [some (oR 0 0), some (vI a1), some (vI v3)] [vI a1, oR 3 0, oR 4 0] rfl ?_
    refine g_cV q97 rfl (g99 X 0 0 a1 s2) rfl rfl rfl rfl rfl (fun s4 => ?_)
    refine g_p q97 1 52 [some (oR 0 0), some (vI a1), some (vI v3)] [vI v3] rfl ?_
    exact g_ret q97 rfl rfl rfl
  ·
    refine g_p q97 1 12 [some (oR 0 0), some (vI a1), none] [vI (-1)] rfl ?_
    exact g_ret q97 rfl rfl rfl
theorem q100 : am_cd 100 = am_c100 := rfl
theorem g100 (X : X2) (a1 : Int) (s : S2) (o : Option (AV R2) × S2) : J (f100 a1 s) (fun (r : Int × S2) => o = (some (vI r.1), r.2)) (Go X 4 100 0 (am_loc (am_nl 100) [oR 0 0, vI a1]) [] s o) := by
  show J _ _ (Go X 4 100 0 [some (oR 0 0), some (vI a1), none] [] s o)
  unfold f100
  refine g_p q100 1 1 [some (oR 0 0), some (vI a1), none] [oR 0 0] rfl ?_
  refine g_m (S := [oR 8 0]) (some (oR 8 0)) q100 rfl rfl rfl (fun _ => rfl) rfl ?_
  refine g_m (S := [oR 3 0]) (some (oR 3 0)) q100 rfl rfl rfl (fun _ => rfl) rfl ?_
  refine g_p q100 1 8 [some (oR 0 0), some (vI a1), none] [vI a1, oR 3 0] rfl ?_
  refine g_cPI q100 rfl (g49 X 0 a1 s) rfl rfl rfl rfl rfl (fun r1 => ?_)
  refine g_i1 q100 rfl rfl ?_ ?_
  ·
    refine g_p q100 1 26 [some (oR 0 0), some (vI a1), none] [vI (-1)] rfl ?_
    exact g_ret q100 rfl rfl rfl
  ·
    refine g_p q100 1 15 [some (oR 0 0), some (vI a1), none] [oR 0 0] rfl ?_
    refine g_m (S := [oR 8 0]) (some (oR 8 0)) q100 rfl rfl rfl (fun _ => rfl) rfl ?_
    refine g_p q100 1 19 [some (oR 0 0), some (vI a1), none] [vI a1, oR 8 0] rfl ?_
    refine g_cPI q100 rfl (g98 X 0 a1 s) rfl rfl rfl rfl rfl (fun r2 => ?_)
    refine g_i1 q100 rfl rfl ?_ ?_
    ·
      refine g_p q100 1 28 [some (oR 0 0), some (vI a1), none] [oR 0 0] rfl ?_
      refine g_m (S := [oR 8 0]) (some (oR 8 0)) q100 rfl rfl rfl (fun _ => rfl) rfl ?_
      refine g_m (S := [oR 3 0]) (some (oR 3 0)) q100 rfl rfl rfl (fun _ => rfl) rfl ?_
      refine g_m (S := [aR 397 0]) (some (aR 397 0)) q100 rfl rfl rfl (fun _ => rfl) rfl ?_
      refine g_p q100 1 38 [some (oR 0 0), some (vI a1), none] [vI a1, aR 397 0] rfl ?_
      refine g_ld q100 rfl rfl rfl rfl rfl rfl (fun v3 => ?_)
      refine g_p q100 2 41 [some (oR 0 0), some (vI a1), some (vI v3)] [oR 0 0] rfl ?_
      refine g_m (S := [oR 8 0]) (some (oR 8 0)) q100 rfl rfl rfl (fun _ => rfl) rfl ?_
      refine g_m (S := [oR 4 0]) (some (oR 4 0)) q100 rfl rfl rfl (fun _ => rfl) rfl ?_
      refine g_m (S := [aR 516 0]) (some (aR 516 0)) q100 rfl rfl rfl (fun _ => rfl) rfl ?_
      refine g_p q100 1 51 [some (oR 0 0), some (vI a1), some (vI v3)] [vI a1, aR 516 0] rfl ?_
      refine g_ld q100 rfl rfl rfl rfl rfl rfl (fun v4 => ?_)
      refine g_p q100 1 53 [some (oR 0 0), some (vI a1), some (vI v3)] [vI v3, vI v4] rfl ?_
      refine g_i2 q100 rfl rfl ?_ ?_
      ·
        refine g_p q100 1 59 [some (oR 0 0), some (vI a1), some (vI v3)] [oR 0 0] rfl ?_
        refine g_m (S := [oR 8 0]) (some (oR 8 0)) q100 rfl rfl rfl (fun _ => rfl) rfl ?_
        refine g_cV q100 rfl (g93 X 0 s) rfl rfl rfl rfl rfl (fun s5 => ?_)
        refine g_p q100 1 66 [some (oR 0 0), some (vI a1), some (vI v3)] [oR 0 0] rfl ?_
        refine g_m (S := [oR 8 0]) (some (oR 8 0)) q100 rfl rfl rfl (fun _ => rfl) rfl ?_
        refine g_m (S := [oR 4 0]) (some (oR 4 0)) q100 rfl rfl rfl (fun _ => rfl) rfl ?_
        refine g_m (S := [aR 516 0]) (some (aR 516 0)) q100 rfl rfl rfl (fun _ => rfl) rfl ?_
        refine g_p q100 2 77 [some (oR 0 0), some (vI a1), some (vI v3)] [vI v3, vI a1, aR 516 0] rfl ?_
        refine g_sto q100 rfl rfl rfl rfl (fun s6 => ?_)
        refine g_p q100 1 79 [some (oR 0 0), some (vI a1), some (vI v3)] [vI v3] rfl ?_
        exact g_ret q100 rfl rfl rfl
      ·
        refine g_p q100 1 57 [some (oR 0 0), some (vI a1), some (vI v3)] [vI (-1)] rfl ?_
        exact g_ret q100 rfl rfl rfl
    ·
      refine g_p q100 1 26 [some (oR 0 0), some (vI a1), none] [vI (-1)] rfl ?_
      exact g_ret q100 rfl rfl rfl
theorem q102 : am_cd 102 = am_c102 := rfl
def H102_a (X : X2) (y1 : Nat) (y2 : Nat) (y3 : Int) (o : Option (AV R2) × S2) (a : Int × Int × S2) : Prop := Go X 3 102 5 [some (oR 4 y1), some (oR 3 y2), some (vI y3), some (vI (a.1)), some (vI (a.2.1))] [] (a.2.2) o
def E102_a (X : X2) (y1 : Nat) (y2 : Nat) (y3 : Int) (o : Option (AV R2) × S2) : (Int × S2) → Prop := (fun (r : Int × S2) => Go X 3 102 39 [some (oR 4 y1), some (oR 3 y2), some (vI y3), some (vI (r.1)), none] [] (r.2) o)
theorem g102_a (X : X2) (y1 : Nat) (y2 : Nat) (y3 : Int) (x4 : Int) (x5 : Int) (s6 : S2) (o : Option (AV R2) × S2) : J (f102_a y1 y2 y3 x4 x5 s6) (am_kx (H102_a X y1 y2 y3 o) (E102_a X y1 y2 y3 o)) (Go X 3 102 5 [some (oR 4 y1), some (oR 3 y2), some (vI y3), some (vI x4), some (vI x5)] [] s6 o) := by
  unfold f102_a
  refine g_p q102 2 9 [some (oR 4 y1), some (oR 3 y2), some (vI y3), some (vI x4), some (vI x5)] [vI 10, vI x5] rfl ?_
  refine g_i2 q102 rfl rfl ?_ ?_
  ·
    exact g_end (fun h => g_wk [true, true, true, true, false] rfl h)
  ·
    refine g_p q102 1 13 [some (oR 4 y1), some (oR 3 y2), some (vI y3), some (vI x4), some (vI x5)] [oR 4 y1] rfl ?_
    refine g_m (S := [aR 515 y1]) (some (aR 515 y1)) q102 rfl rfl rfl (fun _ => rfl) rfl ?_
    refine g_p q102 1 18 [some (oR 4 y1), some (oR 3 y2), some (vI y3), some (vI x4), some (vI x5)] [vI x5, aR 515 y1] rfl ?_
    refine g_ld q102 rfl rfl rfl rfl rfl rfl (fun v7 => ?_)
    refine g_p q102 1 20 [some (oR 4 y1), some (oR 3 y2), some (vI y3), some (vI x4), some (vI x5)] [vI y3, vI v7] rfl ?_
    refine g_i2 q102 rfl rfl ?_ ?_
    ·
      refine g_inc (fun v8 => [some (oR 4 y1), some (oR 3 y2), some (vI y3), some (vI x4), some (vI v8)]) q102 rfl rfl (fun _ => rfl) (fun v8 => ?_)
      refine g_p q102 1 5 [some (oR 4 y1), some (oR 3 y2), some (vI y3), some (vI x4), some (vI v8)] [] rfl ?_
      exact g_end (fun h => g_wk [true, true, true, true, true] rfl h)
    ·
      refine g_p q102 3 27 [some (oR 4 y1), some (oR 3 y2), some (vI y3), some (vI x4), some (vI x5)] [vI x5, oR 3 y2, oR 4 y1] rfl ?_
      refine g_cV q102 rfl (g99 X y1 y2 x5 s6) rfl rfl rfl rfl rfl (fun s9 => ?_)
      refine g_inc (fun v10 => [some (oR 4 y1), some (oR 3 y2), some (vI y3), some (vI v10), some (vI x5)]) q102 rfl rfl (fun _ => rfl) (fun v10 => ?_)
      refine g_inc (fun v11 => [some (oR 4 y1), some (oR 3 y2), some (vI y3), some (vI v10), some (vI v11)]) q102 rfl rfl (fun _ => rfl) (fun v11 => ?_)
      refine g_p q102 1 5 [some (oR 4 y1), some (oR 3 y2), some (vI y3), some (vI v10), some (vI v11)] [] rfl ?_
      exact g_end (fun h => g_wk [true, true, true, true, true] rfl h)
theorem g102 (X : X2) (a0 : Nat) (a1 : Nat) (a2 : Int) (s : S2) (o : Option (AV R2) × S2) : J (f102 a0 a1 a2 s) (fun (r : Int × S2) => o = (some (vI r.1), r.2)) (Go X 3 102 0 (am_loc (am_nl 102) [oR 4 a0, oR 3 a1, vI a2]) [] s o) := by
  show J _ _ (Go X 3 102 0 [some (oR 4 a0), some (oR 3 a1), some (vI a2), none, none] [] s o)
  unfold f102
  refine g_p q102 4 5 [some (oR 4 a0), some (oR 3 a1), some (vI a2), some (vI 0), some (vI 0)] [] rfl ?_
  refine g_wkJ [true, true, true, true, true] (L0 := [some (oR 4 a0), some (oR 3 a1), some (vI a2), some (vI 0), some (vI 0)]) rfl ?_
  refine g_itr (H102_a X a0 a1 a2 o) (E102_a X a0 a1 a2 o) (fun | (x4, x5, s6) => g102_a X a0 a1 a2 x4 x5 s6 o) ?_
  rintro ⟨z12, s13⟩
  show J _ _ (Go X 3 102 39 [some (oR 4 a0), some (oR 3 a1), some (vI a2), some (vI z12), none] [] s13 o)
  refine g_p q102 2 41 [some (oR 4 a0), some (oR 3 a1), some (vI a2), some (vI z12), none] [vI a2, oR 3 a1] rfl ?_
  refine g_cPI q102 rfl (g50 X a1 a2 s13) rfl rfl rfl rfl rfl (fun r14 => ?_)
  refine g_i1 q102 rfl rfl ?_ ?_
  ·
    refine g_p q102 1 62 [some (oR 4 a0), some (oR 3 a1), some (vI a2), some (vI z12), none] [vI z12] rfl ?_
    exact g_ret q102 rfl rfl rfl
  ·
    refine g_p q102 1 48 [some (oR 4 a0), some (oR 3 a1), some (vI a2), some (vI z12), none] [oR 4 a0] rfl ?_
    refine g_m (S := [aR 514 a0]) (some (aR 514 a0)) q102 rfl rfl rfl (fun _ => rfl) rfl ?_
    refine g_p q102 2 53 [some (oR 4 a0), some (oR 3 a1), some (vI a2), some (vI z12), none] [vI 1, vI a2, aR 514 a0] rfl ?_
    refine g_sto q102 rfl rfl rfl rfl (fun s15 => ?_)
    refine g_p q102 1 55 [some (oR 4 a0), some (oR 3 a1), some (vI a2), some (vI z12), none] [oR 4 a0] rfl ?_
    refine g_m (S := [aR 513 a0]) (some (aR 513 a0)) q102 rfl rfl rfl (fun _ => rfl) rfl ?_
    refine g_p q102 2 60 [some (oR 4 a0), some (oR 3 a1), some (vI a2), some (vI z12), none] [vI (-1), vI a2, aR 513 a0] rfl ?_
    refine g_sto q102 rfl rfl rfl rfl (fun s16 => ?_)
    refine g_p q102 1 62 [some (oR 4 a0), some (oR 3 a1), some (vI a2), some (vI z12), none] [vI z12] rfl ?_
    exact g_ret q102 rfl rfl rfl
theorem q101 : am_cd 101 = am_c101 := rfl
theorem g101 (X : X2) (a1 : Int) (s : S2) (o : Option (AV R2) × S2) : J (f101 a1 s) (fun (r : Int × S2) => o = (some (vI r.1), r.2)) (Go X 4 101 0 (am_loc (am_nl 101) [oR 0 0, vI a1]) [] s o) := by
  show J _ _ (Go X 4 101 0 [some (oR 0 0), some (vI a1)] [] s o)
  unfold f101
  refine g_p q101 1 1 [some (oR 0 0), some (vI a1)] [oR 0 0] rfl ?_
  refine g_m (S := [oR 8 0]) (some (oR 8 0)) q101 rfl rfl rfl (fun _ => rfl) rfl ?_
  refine g_m (S := [oR 3 0]) (some (oR 3 0)) q101 rfl rfl rfl (fun _ => rfl) rfl ?_
  refine g_p q101 1 8 [some (oR 0 0), some (vI a1)] [vI a1, oR 3 0] rfl ?_
  refine g_cPI q101 rfl (g50 X 0 a1 s) rfl rfl rfl rfl rfl (fun r1 => ?_)
  refine g_i1 q101 rfl rfl ?_ ?_
  ·
    refine g_p q101 1 30 [some (oR 0 0), some (vI a1)] [vI (-1)] rfl ?_
    exact g_ret q101 rfl rfl rfl
  ·
    refine g_p q101 1 15 [some (oR 0 0), some (vI a1)] [oR 0 0] rfl ?_
    refine g_m (S := [oR 8 0]) (some (oR 8 0)) q101 rfl rfl rfl (fun _ => rfl) rfl ?_
    refine g_m (S := [oR 4 0]) (some (oR 4 0)) q101 rfl rfl rfl (fun _ => rfl) rfl ?_
    refine g_m (S := [aR 514 0]) (some (aR 514 0)) q101 rfl rfl rfl (fun _ => rfl) rfl ?_
    refine g_p q101 1 25 [some (oR 0 0), some (vI a1)] [vI a1, aR 514 0] rfl ?_
    refine g_ld q101 rfl rfl rfl rfl rfl rfl (fun v2 => ?_)
    refine g_i1 q101 rfl rfl ?_ ?_
    ·
      refine g_p q101 1 32 [some (oR 0 0), some (vI a1)] [oR 0 0] rfl ?_
      refine g_m (S := [oR 8 0]) (some (oR 8 0)) q101 rfl rfl rfl (fun _ => rfl) rfl ?_
      refine g_cV q101 rfl (g93 X 0 s) rfl rfl rfl rfl rfl (fun s3 => ?_)
      refine g_p q101 1 39 [some (oR 0 0), some (vI a1)] [oR 0 0] rfl ?_
      refine g_m (S := [oR 8 0]) (some (oR 8 0)) q101 rfl rfl rfl (fun _ => rfl) rfl ?_
      refine g_m (S := [oR 4 0]) (some (oR 4 0)) q101 rfl rfl rfl (fun _ => rfl) rfl ?_
      refine g_p q101 1 46 [some (oR 0 0), some (vI a1)] [oR 0 0, oR 4 0] rfl ?_
      refine g_m (S := [oR 8 0, oR 4 0]) (some (oR 8 0)) q101 rfl rfl rfl (fun _ => rfl) rfl ?_
      refine g_m (S := [oR 3 0, oR 4 0]) (some (oR 3 0)) q101 rfl rfl rfl (fun _ => rfl) rfl ?_
      refine g_p q101 1 53 [some (oR 0 0), some (vI a1)] [vI a1, oR 3 0, oR 4 0] rfl ?_
      refine g_cRI q101 rfl (g102 X 0 0 a1 s3) rfl rfl rfl rfl rfl (fun r4 s5 => ?_)
      exact g_ret q101 rfl rfl rfl
    ·
      refine g_p q101 1 30 [some (oR 0 0), some (vI a1)] [vI (-1)] rfl ?_
      exact g_ret q101 rfl rfl rfl
theorem q103 : am_cd 103 = am_c103 := rfl
theorem g103 (X : X2) (a1 : Int) (s : S2) (o : Option (AV R2) × S2) : J (f103 a1 s) (fun (r : Int × S2) => o = (some (vI r.1), r.2)) (Go X 4 103 0 (am_loc (am_nl 103) [oR 0 0, vI a1]) [] s o) := by
  show J _ _ (Go X 4 103 0 [some (oR 0 0), some (vI a1)] [] s o)
  unfold f103
  refine g_p q103 1 1 [some (oR 0 0), some (vI a1)] [oR 0 0] rfl ?_
  refine g_m (S := [oR 8 0]) (some (oR 8 0)) q103 rfl rfl rfl (fun _ => rfl) rfl ?_
  refine g_m (S := [oR 3 0]) (some (oR 3 0)) q103 rfl rfl rfl (fun _ => rfl) rfl ?_
  refine g_p q103 1 8 [some (oR 0 0), some (vI a1)] [vI a1, oR 3 0] rfl ?_
  refine g_cPI q103 rfl (g50 X 0 a1 s) rfl rfl rfl rfl rfl (fun r1 => ?_)
  refine g_i1 q103 rfl rfl ?_ ?_
  ·
    refine g_p q103 1 30 [some (oR 0 0), some (vI a1)] [vI 0] rfl ?_
    exact g_ret q103 rfl rfl rfl
  ·
    refine g_p q103 1 15 [some (oR 0 0), some (vI a1)] [oR 0 0] rfl ?_
    refine g_m (S := [oR 8 0]) (some (oR 8 0)) q103 rfl rfl rfl (fun _ => rfl) rfl ?_
    refine g_m (S := [oR 4 0]) (some (oR 4 0)) q103 rfl rfl rfl (fun _ => rfl) rfl ?_
    refine g_m (S := [aR 514 0]) (some (aR 514 0)) q103 rfl rfl rfl (fun _ => rfl) rfl ?_
    refine g_p q103 1 25 [some (oR 0 0), some (vI a1)] [vI a1, aR 514 0] rfl ?_
    refine g_ld q103 rfl rfl rfl rfl rfl rfl (fun v2 => ?_)
    refine g_i1 q103 rfl rfl ?_ ?_
    ·
      refine g_p q103 1 32 [some (oR 0 0), some (vI a1)] [oR 0 0] rfl ?_
      refine g_m (S := [oR 8 0]) (some (oR 8 0)) q103 rfl rfl rfl (fun _ => rfl) rfl ?_
      refine g_cV q103 rfl (g93 X 0 s) rfl rfl rfl rfl rfl (fun s3 => ?_)
      refine g_p q103 1 39 [some (oR 0 0), some (vI a1)] [oR 0 0] rfl ?_
      refine g_m (S := [oR 8 0]) (some (oR 8 0)) q103 rfl rfl rfl (fun _ => rfl) rfl ?_
      refine g_m (S := [oR 4 0]) (some (oR 4 0)) q103 rfl rfl rfl (fun _ => rfl) rfl ?_
      refine g_m (S := [aR 514 0]) (some (aR 514 0)) q103 rfl rfl rfl (fun _ => rfl) rfl ?_
      refine g_p q103 2 50 [some (oR 0 0), some (vI a1)] [vI 0, vI a1, aR 514 0] rfl ?_
      refine g_sto q103 rfl rfl rfl rfl (fun s4 => ?_)
      refine g_p q103 1 52 [some (oR 0 0), some (vI a1)] [vI 1] rfl ?_
      exact g_ret q103 rfl rfl rfl
    ·
      refine g_p q103 1 30 [some (oR 0 0), some (vI a1)] [vI 0] rfl ?_
      exact g_ret q103 rfl rfl rfl
theorem q105 : am_cd 105 = am_c105 := rfl
theorem g105 (X : X2) (a0 : Nat) (s : S2) (o : Option (AV R2) × S2) : J (f105 a0 s) (fun (r : Int × S2) => o = (some (vI r.1), r.2)) (Go X 3 105 0 (am_loc (am_nl 105) [oR 8 a0]) [] s o) := by
  show J _ _ (Go X 3 105 0 [some (oR 8 a0), none] [] s o)
  unfold f105
  refine g_p q105 1 1 [some (oR 8 a0), none] [oR 8 a0] rfl ?_
  refine g_get q105 rfl rfl rfl (fun _ => rfl) (fun v1 => ?_)
  refine g_i1 q105 rfl rfl ?_ ?_
  ·
    refine g_p q105 1 10 [some (oR 8 a0), none] [oR 8 a0] rfl ?_
    refine g_get q105 rfl rfl rfl (fun _ => rfl) (fun v2 => ?_)
    refine g_p q105 3 17 [some (oR 8 a0), none] [vI 20, vI (jsub v2 1)] rfl ?_
    refine g_cPI q105 rfl (g272 X (jsub v2 1) 20 s) rfl rfl rfl rfl rfl (fun r3 => ?_)
    refine g_p q105 2 22 [some (oR 8 a0), some (vI r3)] [oR 8 a0] rfl ?_
    refine g_m (S := [aR 1026 a0]) (some (aR 1026 a0)) q105 rfl rfl rfl (fun _ => rfl) rfl ?_
    refine g_p q105 1 26 [some (oR 8 a0), some (vI r3)] [vI r3, aR 1026 a0] rfl ?_
    refine g_ldr q105 rfl rfl rfl rfl rfl (fun i5 => ?_)
    refine g_p q105 1 28 [some (oR 8 a0), some (vI r3)] [oR 8 a0, oR 4 i5] rfl ?_
    refine g_m (S := [oR 4 (32 * a0 + 0), oR 4 i5]) (some (oR 4 (32 * a0 + 0))) q105 rfl rfl rfl (fun _ => rfl) rfl ?_
    refine g_cV q105 rfl (g286 X i5 (32 * a0 + 0) s) rfl rfl rfl rfl rfl (fun s6 => ?_)
    refine g_p q105 2 36 [some (oR 8 a0), some (vI r3)] [vI r3, oR 8 a0] rfl ?_
    refine g_put q105 rfl rfl rfl (fun _ => rfl) (fun s7 => ?_)
    refine g_p q105 2 41 [some (oR 8 a0), some (vI r3)] [oR 8 a0, oR 8 a0] rfl ?_
    refine g_get q105 rfl rfl rfl (fun _ => rfl) (fun v8 => ?_)
    refine g_p q105 2 46 [some (oR 8 a0), some (vI r3)] [vI (jsub v8 1), oR 8 a0] rfl ?_
    refine g_put q105 rfl rfl rfl (fun _ => rfl) (fun s9 => ?_)
    refine g_p q105 1 50 [some (oR 8 a0), some (vI r3)] [vI 1] rfl ?_
    exact g_ret q105 rfl rfl rfl
  ·
    refine g_p q105 1 8 [some (oR 8 a0), none] [vI 0] rfl ?_
    exact g_ret q105 rfl rfl rfl
theorem q104 : am_cd 104 = am_c104 := rfl
theorem g104 (X : X2) (s : S2) (o : Option (AV R2) × S2) : J (f104 s) (fun (r : Int × S2) => o = (some (vI r.1), r.2)) (Go X 4 104 0 (am_loc (am_nl 104) [oR 0 0]) [] s o) := by
  show J _ _ (Go X 4 104 0 [some (oR 0 0)] [] s o)
  unfold f104
  refine g_p q104 1 1 [some (oR 0 0)] [oR 0 0] rfl ?_
  refine g_m (S := [oR 8 0]) (some (oR 8 0)) q104 rfl rfl rfl (fun _ => rfl) rfl ?_
  refine g_cRI q104 rfl (g105 X 0 s) rfl rfl rfl rfl rfl (fun r1 s2 => ?_)
  refine g_i1 q104 rfl rfl ?_ ?_
  ·
    refine g_p q104 1 22 [some (oR 0 0)] [vI (-2)] rfl ?_
    exact g_ret q104 rfl rfl rfl
  ·
    refine g_p q104 1 11 [some (oR 0 0)] [oR 0 0] rfl ?_
    refine g_m (S := [oR 8 0]) (some (oR 8 0)) q104 rfl rfl rfl (fun _ => rfl) rfl ?_
    refine g_get q104 rfl rfl rfl (fun _ => rfl) (fun v3 => ?_)
    refine g_p q104 1 22 [some (oR 0 0)] [vI v3] rfl ?_
    exact g_ret q104 rfl rfl rfl
theorem q107 : am_cd 107 = am_c107 := rfl
def H107_a (X : X2) (y1 : Int) (o : Option (AV R2) × S2) (a : Int × S2) : Prop := Go X 5 107 2 [some (oR 9 0), some (vI y1), some (vI (a.1))] [] (a.2) o
def E107_a (X : X2) (y1 : Int) (o : Option (AV R2) × S2) : (S2) → Prop := (fun (r : S2) => Go X 5 107 19 [none, none, none] [] r o)
theorem g107_a (X : X2) (y1 : Int) (x2 : Int) (s3 : S2) (o : Option (AV R2) × S2) : J (f107_a y1 x2 s3) (am_kx (H107_a X y1 o) (E107_a X y1 o)) (Go X 5 107 2 [some (oR 9 0), some (vI y1), some (vI x2)] [] s3 o) := by
  unfold f107_a
  refine g_p q107 2 4 [some (oR 9 0), some (vI y1), some (vI x2)] [vI y1, vI x2] rfl ?_
  refine g_i2 q107 rfl rfl ?_ ?_
  ·
    exact g_end (fun h => g_wk [false, false, false] rfl h)
  ·
    refine g_p q107 2 9 [some (oR 9 0), some (vI y1), some (vI x2)] [vI 0, oR 9 0] rfl ?_
    refine g_cRI q107 rfl (g94 X 0 s3) rfl rfl rfl rfl rfl (fun r4 s5 => ?_)
    refine g_p q107 1 13 [some (oR 9 0), some (vI y1), some (vI x2)] [] rfl ?_
    refine g_inc (fun v6 => [some (oR 9 0), some (vI y1), some (vI v6)]) q107 rfl rfl (fun _ => rfl) (fun v6 => ?_)
    refine g_p q107 1 2 [some (oR 9 0), some (vI y1), some (vI v6)] [] rfl ?_
    exact g_end (fun h => g_wk [true, true, true] rfl h)
theorem g107 (X : X2) (a1 : Int) (s : S2) (o : Option (AV R2) × S2) : J (f107 a1 s) (fun (r : S2) => o = (none, r)) (Go X 5 107 0 (am_loc (am_nl 107) [oR 9 0, vI a1]) [] s o) := by
  show J _ _ (Go X 5 107 0 [some (oR 9 0), some (vI a1), none] [] s o)
  unfold f107
  refine g_p q107 2 2 [some (oR 9 0), some (vI a1), some (vI 0)] [] rfl ?_
  refine g_wkJ [true, true, true] (L0 := [some (oR 9 0), some (vI a1), some (vI 0)]) rfl ?_
  refine g_itr (H107_a X a1 o) (E107_a X a1 o) (fun | (x2, s3) => g107_a X a1 x2 s3 o) ?_
  intro s7
  show J _ _ (Go X 5 107 19 [none, none, none] [] s7 o)
  exact g_retV q107 rfl rfl
theorem q106 : am_cd 106 = am_c106 := rfl
theorem g106 (X : X2) (a1 : Int) (a2 : Int) (a3 : Int) (s : S2) (o : Option (AV R2) × S2) : J (f106 a1 a2 a3 s) (fun (r : Int × S2) => o = (some (vI r.1), r.2)) (Go X 6 106 0 (am_loc (am_nl 106) [oR 0 0, vI a1, vI a2, vI a3]) [] s o) := by
  show J _ _ (Go X 6 106 0 [some (oR 0 0), some (vI a1), some (vI a2), some (vI a3), none, none] [] s o)
  unfold f106
  refine g_p q106 1 1 [some (oR 0 0), some (vI a1), some (vI a2), some (vI a3), none, none] [oR 0 0] rfl ?_
  refine g_m (S := [oR 8 0]) (some (oR 8 0)) q106 rfl rfl rfl (fun _ => rfl) rfl ?_
  refine g_m (S := [oR 3 0]) (some (oR 3 0)) q106 rfl rfl rfl (fun _ => rfl) rfl ?_
  refine g_p q106 2 10 [some (oR 0 0), some (vI a1), some (vI a2), some (vI a3), some (oR 3 0), none] [vI a3] rfl ?_
  refine g_jn (fun j55 => ∀ (x1 : Int), J (j55 x1) (fun (r : Int × S2) => o = (some (vI r.1), r.2)) (Go X 6 106 55 [some (oR 0 0), some (vI a1), some (vI a2), some (vI a3), none, none] [vI x1] s o)) ?_ (fun j55 hj55 => ?_)
  ·
    intro x1
    refine g_p q106 2 59 [some (oR 0 0), some (vI a1), some (vI a2), some (vI a3), none, some (vI x1)] [vI x1] rfl ?_
    refine g_i1 q106 rfl rfl ?_ ?_
    ·
      refine g_p q106 1 74 [some (oR 0 0), some (vI a1), some (vI a2), some (vI a3), none, some (vI x1)] [vI (-2)] rfl ?_
      exact g_ret q106 rfl rfl rfl
    ·
      refine g_p q106 1 63 [some (oR 0 0), some (vI a1), some (vI a2), some (vI a3), none, some (vI x1)] [vI a2] rfl ?_
      refine g_i1 q106 rfl rfl ?_ ?_
      ·
        refine g_p q106 1 74 [some (oR 0 0), some (vI a1), some (vI a2), some (vI a3), none, some (vI x1)] [vI (-2)] rfl ?_
        exact g_ret q106 rfl rfl rfl
      ·
        refine g_p q106 2 69 [some (oR 0 0), some (vI a1), some (vI a2), some (vI a3), none, some (vI x1)] [vI 100, vI a2] rfl ?_
        refine g_i2 q106 rfl rfl ?_ ?_
        ·
          refine g_p q106 1 76 [some (oR 0 0), some (vI a1), some (vI a2), some (vI a3), none, some (vI x1)] [oR 0 0] rfl ?_
          refine g_cV q106 rfl (g75 X s) rfl rfl rfl rfl rfl (fun s2 => ?_)
          refine g_p q106 1 80 [some (oR 0 0), some (vI a1), some (vI a2), some (vI a3), none, some (vI x1)] [oR 0 0] rfl ?_
          refine g_m (S := [oR 9 0]) (some (oR 9 0)) q106 rfl rfl rfl (fun _ => rfl) rfl ?_
          refine g_p q106 1 84 [some (oR 0 0), some (vI a1), some (vI a2), some (vI a3), none, some (vI x1)] [vI a2, oR 9 0] rfl ?_
          refine g_cV q106 rfl (g107 X a2 s2) rfl rfl rfl rfl rfl (fun s3 => ?_)
          refine g_p q106 1 88 [some (oR 0 0), some (vI a1), some (vI a2), some (vI a3), none, some (vI x1)] [vI a3] rfl ?_
          refine g_i1 q106 rfl rfl ?_ ?_
          ·
            refine g_p q106 2 106 [some (oR 0 0), some (vI a1), some (vI a2), some (vI a3), none, some (vI x1)] [vI 1, vI a3] rfl ?_
            refine g_i2 q106 rfl rfl ?_ ?_
            ·
              refine g_p q106 1 125 [some (oR 0 0), some (vI a1), some (vI a2), some (vI a3), none, some (vI x1)] [oR 0 0] rfl ?_
              refine g_m (S := [oR 9 0]) (some (oR 9 0)) q106 rfl rfl rfl (fun _ => rfl) rfl ?_
              refine g_m (S := [oR 4 160]) (some (oR 4 160)) q106 rfl rfl rfl (fun _ => rfl) rfl ?_
              refine g_m (S := [aR 518 160]) (some (aR 518 160)) q106 rfl rfl rfl (fun _ => rfl) rfl ?_
              refine g_p q106 1 135 [some (oR 0 0), some (vI a1), some (vI a2), some (vI a3), none, some (vI x1)] [vI a1, aR 518 160] rfl ?_
              refine g_ld q106 rfl rfl rfl rfl rfl rfl (fun v4 => ?_)
              exact g_ret q106 rfl rfl rfl
            ·
              refine g_p q106 1 110 [some (oR 0 0), some (vI a1), some (vI a2), some (vI a3), none, some (vI x1)] [oR 0 0] rfl ?_
              refine g_m (S := [oR 9 0]) (some (oR 9 0)) q106 rfl rfl rfl (fun _ => rfl) rfl ?_
              refine g_m (S := [oR 4 160]) (some (oR 4 160)) q106 rfl rfl rfl (fun _ => rfl) rfl ?_
              refine g_m (S := [aR 516 160]) (some (aR 516 160)) q106 rfl rfl rfl (fun _ => rfl) rfl ?_
              refine g_p q106 1 120 [some (oR 0 0), some (vI a1), some (vI a2), some (vI a3), none, some (vI x1)] [vI a1, aR 516 160] rfl ?_
              refine g_ld q106 rfl rfl rfl rfl rfl rfl (fun v5 => ?_)
              refine g_p q106 1 136 [some (oR 0 0), some (vI a1), some (vI a2), some (vI a3), none, some (vI x1)] [vI v5] rfl ?_
              exact g_ret q106 rfl rfl rfl
          ·
            refine g_p q106 1 92 [some (oR 0 0), some (vI a1), some (vI a2), some (vI a3), none, some (vI x1)] [oR 0 0] rfl ?_
            refine g_m (S := [oR 9 0]) (some (oR 9 0)) q106 rfl rfl rfl (fun _ => rfl) rfl ?_
            refine g_m (S := [oR 4 160]) (some (oR 4 160)) q106 rfl rfl rfl (fun _ => rfl) rfl ?_
            refine g_m (S := [aR 513 160]) (some (aR 513 160)) q106 rfl rfl rfl (fun _ => rfl) rfl ?_
            refine g_p q106 1 102 [some (oR 0 0), some (vI a1), some (vI a2), some (vI a3), none, some (vI x1)] [vI a1, aR 513 160] rfl ?_
            refine g_ld q106 rfl rfl rfl rfl rfl rfl (fun v6 => ?_)
            exact g_ret q106 rfl rfl rfl
        ·
          refine g_p q106 1 74 [some (oR 0 0), some (vI a1), some (vI a2), some (vI a3), none, some (vI x1)] [vI (-2)] rfl ?_
          exact g_ret q106 rfl rfl rfl
  ·
    refine g_jn (fun j50 => ∀ (_ : Unit), J (j50 ()) (fun (r : Int × S2) => o = (some (vI r.1), r.2)) (Go X 6 106 50 [some (oR 0 0), some (vI a1), some (vI a2), some (vI a3), none, none] [] s o)) ?_ (fun j50 hj50 => ?_)
    ·
      intro _
      refine g_p q106 2 55 [some (oR 0 0), some (vI a1), some (vI a2), some (vI a3), none, none] [vI 1] rfl ?_
      exact g_wkJ [true, true, true, true, false, false] rfl (hj55 1)
    ·
      refine g_jn (fun j22 => ∀ (_ : Unit), J (j22 ()) (fun (r : Int × S2) => o = (some (vI r.1), r.2)) (Go X 6 106 22 [some (oR 0 0), some (vI a1), some (vI a2), some (vI a3), some (oR 3 0), none] [] s o)) ?_ (fun j22 hj22 => ?_)
      ·
        intro _
        refine g_p q106 2 24 [some (oR 0 0), some (vI a1), some (vI a2), some (vI a3), some (oR 3 0), none] [vI 1, vI a3] rfl ?_
        refine g_jn (fun j36 => ∀ (_ : Unit), J (j36 ()) (fun (r : Int × S2) => o = (some (vI r.1), r.2)) (Go X 6 106 36 [some (oR 0 0), some (vI a1), some (vI a2), some (vI a3), some (oR 3 0), none] [] s o)) ?_ (fun j36 hj36 => ?_)
        ·
          intro _
          refine g_p q106 2 38 [some (oR 0 0), some (vI a1), some (vI a2), some (vI a3), some (oR 3 0), none] [vI 2, vI a3] rfl ?_
          refine g_jn (fun j54 => ∀ (_ : Unit), J (j54 ()) (fun (r : Int × S2) => o = (some (vI r.1), r.2)) (Go X 6 106 54 [some (oR 0 0), some (vI a1), some (vI a2), some (vI a3), none, none] [] s o)) ?_ (fun j54 hj54 => ?_)
          ·
            intro _
            refine g_p q106 1 55 [some (oR 0 0), some (vI a1), some (vI a2), some (vI a3), none, none] [vI 0] rfl ?_
            exact g_wkJ [true, true, true, true, false, false] rfl (hj55 0)
          ·
            refine g_i2 q106 rfl rfl ?_ ?_
            ·
              exact g_wkJ [true, true, true, true, false, false] rfl (hj54 ())
            ·
              refine g_p q106 2 44 [some (oR 0 0), some (vI a1), some (vI a2), some (vI a3), some (oR 3 0), none] [vI a1, oR 3 0] rfl ?_
              refine g_cPI q106 rfl (g51 X 0 a1 s) rfl rfl rfl rfl rfl (fun r7 => ?_)
              refine g_i1 q106 rfl rfl ?_ ?_
              ·
                exact g_wkJ [true, true, true, true, false, false] rfl (hj54 ())
              ·
                exact g_wkJ [true, true, true, true, false, false] rfl (hj50 ())
        ·
          refine g_i2 q106 rfl rfl ?_ ?_
          ·
            exact g_wkJ [true, true, true, true, true, false] rfl (hj36 ())
          ·
            refine g_p q106 2 30 [some (oR 0 0), some (vI a1), some (vI a2), some (vI a3), some (oR 3 0), none] [vI a1, oR 3 0] rfl ?_
            refine g_cPI q106 rfl (g49 X 0 a1 s) rfl rfl rfl rfl rfl (fun r8 => ?_)
            refine g_i1 q106 rfl rfl ?_ ?_
            ·
              exact g_wkJ [true, true, true, true, false, false] rfl (hj50 ())
            ·
              exact g_wkJ [true, true, true, true, true, false] rfl (hj36 ())
      ·
        refine g_i1 q106 rfl rfl ?_ ?_
        ·
          exact g_wkJ [true, true, true, true, true, false] rfl (hj22 ())
        ·
          refine g_p q106 2 16 [some (oR 0 0), some (vI a1), some (vI a2), some (vI a3), some (oR 3 0), none] [vI a1, oR 3 0] rfl ?_
          refine g_cPI q106 rfl (g50 X 0 a1 s) rfl rfl rfl rfl rfl (fun r9 => ?_)
          refine g_i1 q106 rfl rfl ?_ ?_
          ·
            exact g_wkJ [true, true, true, true, false, false] rfl (hj50 ())
          ·
            exact g_wkJ [true, true, true, true, true, false] rfl (hj22 ())
theorem q109 : am_cd 109 = am_c109 := rfl
theorem g109 (X : X2) (a0 : Nat) (a1 : Int) (s : S2) (o : Option (AV R2) × S2) : J (f109 a0 a1 s) (fun (r : Int) => o = (some (vI r), s)) (Go X 1 109 0 (am_loc (am_nl 109) [oR 4 a0, vI a1]) [] s o) := by
  show J _ _ (Go X 1 109 0 [some (oR 4 a0), some (vI a1)] [] s o)
  unfold f109
  refine g_p q109 1 1 [some (oR 4 a0), some (vI a1)] [vI a1] rfl ?_
  refine g_i1 q109 rfl rfl ?_ ?_
  ·
    refine g_p q109 1 34 [some (oR 4 a0), some (vI a1)] [vI 0] rfl ?_
    exact g_ret q109 rfl rfl rfl
  ·
    refine g_p q109 2 7 [some (oR 4 a0), some (vI a1)] [vI 10, vI a1] rfl ?_
    refine g_i2 q109 rfl rfl ?_ ?_
    ·
      refine g_p q109 1 34 [some (oR 4 a0), some (vI a1)] [vI 0] rfl ?_
      exact g_ret q109 rfl rfl rfl
    ·
      refine g_p q109 1 11 [some (oR 4 a0), some (vI a1)] [oR 4 a0] rfl ?_
      refine g_m (S := [aR 515 a0]) (some (aR 515 a0)) q109 rfl rfl rfl (fun _ => rfl) rfl ?_
      refine g_p q109 1 15 [some (oR 4 a0), some (vI a1)] [vI a1, aR 515 a0] rfl ?_
      refine g_ld q109 rfl rfl rfl rfl rfl rfl (fun v1 => ?_)
      refine g_p q109 1 17 [some (oR 4 a0), some (vI a1)] [vI (-1), vI v1] rfl ?_
      refine g_i2 q109 rfl rfl ?_ ?_
      ·
        refine g_p q109 1 34 [some (oR 4 a0), some (vI a1)] [vI 0] rfl ?_
        exact g_ret q109 rfl rfl rfl
      ·
        refine g_p q109 1 21 [some (oR 4 a0), some (vI a1)] [oR 4 a0] rfl ?_
        refine g_m (S := [aR 516 a0]) (some (aR 516 a0)) q109 rfl rfl rfl (fun _ => rfl) rfl ?_
        refine g_p q109 1 25 [some (oR 4 a0), some (vI a1)] [vI a1, aR 516 a0] rfl ?_
        refine g_ld q109 rfl rfl rfl rfl rfl rfl (fun v2 => ?_)
        refine g_i1 q109 rfl rfl ?_ ?_
        ·
          refine g_p q109 1 34 [some (oR 4 a0), some (vI a1)] [vI 0] rfl ?_
          exact g_ret q109 rfl rfl rfl
        ·
          refine g_p q109 2 34 [some (oR 4 a0), some (vI a1)] [vI 1] rfl ?_
          exact g_ret q109 rfl rfl rfl
theorem q108 : am_cd 108 = am_c108 := rfl
def H108_a (X : X2) (y3 : Int) (o : Option (AV R2) × S2) (a : Int × S2) : Prop := Go X 5 108 22 [some (oR 0 0), some (vI y3), some (vI (a.1))] [] (a.2) o
def E108_a (X : X2) (y3 : Int) (o : Option (AV R2) × S2) : (S2) ⊕ (S2) → Prop := (am_kx (fun (r : S2) => Go X 5 108 43 [some (oR 0 0), none, none] [] r o) (fun (r : S2) => Go X 5 108 69 [none, none, none] [] r o))
theorem g108_a (X : X2) (y3 : Int) (x4 : Int) (s5 : S2) (o : Option (AV R2) × S2) : J (f108_a y3 x4 s5) (am_kx (H108_a X y3 o) (E108_a X y3 o)) (Go X 5 108 22 [some (oR 0 0), some (vI y3), some (vI x4)] [] s5 o) := by
  unfold f108_a
  refine g_p q108 2 26 [some (oR 0 0), some (vI y3), some (vI x4)] [vI 200, vI x4] rfl ?_
  refine g_i2 q108 rfl rfl ?_ ?_
  ·
    exact g_end (fun h => g_wk [false, false, false] rfl h)
  ·
    refine g_p q108 1 30 [some (oR 0 0), some (vI y3), some (vI x4)] [oR 0 0] rfl ?_
    refine g_m (S := [oR 9 0]) (some (oR 9 0)) q108 rfl rfl rfl (fun _ => rfl) rfl ?_
    refine g_m (S := [oR 4 160]) (some (oR 4 160)) q108 rfl rfl rfl (fun _ => rfl) rfl ?_
    refine g_p q108 1 37 [some (oR 0 0), some (vI y3), some (vI x4)] [vI y3, oR 4 160] rfl ?_
    refine g_cPI q108 rfl (g109 X 160 y3 s5) rfl rfl rfl rfl rfl (fun r6 => ?_)
    refine g_i1 q108 rfl rfl ?_ ?_
    ·
      refine g_p q108 1 55 [some (oR 0 0), some (vI y3), some (vI x4)] [oR 0 0] rfl ?_
      refine g_m (S := [oR 9 0]) (some (oR 9 0)) q108 rfl rfl rfl (fun _ => rfl) rfl ?_
      refine g_p q108 1 59 [some (oR 0 0), some (vI y3), some (vI x4)] [vI 0, oR 9 0] rfl ?_
      refine g_cRI q108 rfl (g94 X 0 s5) rfl rfl rfl rfl rfl (fun r7 s8 => ?_)
      refine g_p q108 1 63 [some (oR 0 0), some (vI y3), some (vI x4)] [] rfl ?_
      refine g_inc (fun v9 => [some (oR 0 0), some (vI y3), some (vI v9)]) q108 rfl rfl (fun _ => rfl) (fun v9 => ?_)
      refine g_p q108 1 22 [some (oR 0 0), some (vI y3), some (vI v9)] [] rfl ?_
      exact g_end (fun h => g_wk [true, true, true] rfl h)
    ·
      exact g_end (fun h => g_wk [true, false, false] rfl h)
theorem g108 (X : X2) (a1 : Int) (s : S2) (o : Option (AV R2) × S2) : J (f108 a1 s) (fun (r : Int × S2) => o = (some (vI r.1), r.2)) (Go X 5 108 0 (am_loc (am_nl 108) [oR 0 0, vI a1]) [] s o) := by
  show J _ _ (Go X 5 108 0 [some (oR 0 0), some (vI a1), none] [] s o)
  unfold f108
  refine g_p q108 1 1 [some (oR 0 0), some (vI a1), none] [oR 0 0] rfl ?_
  refine g_m (S := [oR 8 0]) (some (oR 8 0)) q108 rfl rfl rfl (fun _ => rfl) rfl ?_
  refine g_m (S := [oR 3 0]) (some (oR 3 0)) q108 rfl rfl rfl (fun _ => rfl) rfl ?_
  refine g_p q108 1 8 [some (oR 0 0), some (vI a1), none] [vI a1, oR 3 0] rfl ?_
  refine g_cPI q108 rfl (g49 X 0 a1 s) rfl rfl rfl rfl rfl (fun r1 => ?_)
  refine g_i1 q108 rfl rfl ?_ ?_
  ·
    refine g_p q108 1 17 [some (oR 0 0), some (vI a1), none] [oR 0 0] rfl ?_
    refine g_cV q108 rfl (g75 X s) rfl rfl rfl rfl rfl (fun s2 => ?_)
    refine g_p q108 2 22 [some (oR 0 0), some (vI a1), some (vI 0)] [] rfl ?_
    refine g_wkJ [true, true, true] (L0 := [some (oR 0 0), some (vI a1), some (vI 0)]) rfl ?_
    refine g_itr (H108_a X a1 o) (E108_a X a1 o) (fun | (x4, s5) => g108_a X a1 x4 s5 o) ?_
    refine g_se ?_ ?_
    ·
      intro s10
      show J _ _ (Go X 5 108 43 [some (oR 0 0), none, none] [] s10 o)
      refine g_p q108 1 44 [some (oR 0 0), none, none] [oR 0 0] rfl ?_
      refine g_m (S := [oR 9 0]) (some (oR 9 0)) q108 rfl rfl rfl (fun _ => rfl) rfl ?_
      refine g_m (S := [oR 4 160]) (some (oR 4 160)) q108 rfl rfl rfl (fun _ => rfl) rfl ?_
      refine g_get q108 rfl rfl rfl (fun _ => rfl) (fun v12 => ?_)
      exact g_ret q108 rfl rfl rfl
    ·
      intro s11
      show J _ _ (Go X 5 108 69 [none, none, none] [] s11 o)
      refine g_p q108 1 71 [none, none, none] [vI (-2)] rfl ?_
      exact g_ret q108 rfl rfl rfl
  ·
    refine g_p q108 1 15 [some (oR 0 0), some (vI a1), none] [vI (-1)] rfl ?_
    exact g_ret q108 rfl rfl rfl
theorem q112 : am_cd 112 = am_c112 := rfl
def H112_a (X : X2) (y2 : Nat) (y3 : Nat) (y4 : Int) (o : Option (AV R2) × S2) (a : Int × S2) : Prop := Go X 2 112 8 [some (oR 10 0), some (oR 3 y2), some (oR 4 y3), some (vI y4), some (vI (a.1)), none] [] (a.2) o
def E112_a (X : X2) (y2 : Nat) (y3 : Nat) (y4 : Int) (o : Option (AV R2) × S2) : (S2) → Prop := (fun (r : S2) => Go X 2 112 100 [none, none, none, none, none, none] [] r o)
theorem g112_a (X : X2) (y2 : Nat) (y3 : Nat) (y4 : Int) (x5 : Int) (s6 : S2) (o : Option (AV R2) × S2) : J (f112_a y2 y3 y4 x5 s6) (am_kx (H112_a X y2 y3 y4 o) (E112_a X y2 y3 y4 o)) (Go X 2 112 8 [some (oR 10 0), some (oR 3 y2), some (oR 4 y3), some (vI y4), some (vI x5), none] [] s6 o) := by
  unfold f112_a
  refine g_p q112 2 12 [some (oR 10 0), some (oR 3 y2), some (oR 4 y3), some (vI y4), some (vI x5), none] [vI 10, vI x5] rfl ?_
  refine g_i2 q112 rfl rfl ?_ ?_
  ·
    exact g_end (fun h => g_wk [false, false, false, false, false, false] rfl h)
  ·
    refine g_p q112 2 18 [some (oR 10 0), some (oR 3 y2), some (oR 4 y3), some (vI y4), some (vI x5), none] [vI x5, oR 3 y2] rfl ?_
    refine g_cPI q112 rfl (g49 X y2 x5 s6) rfl rfl rfl rfl rfl (fun r7 => ?_)
    refine g_jn (fun j40 => ∀ (x8 : Int), J (j40 x8) (am_kx (H112_a X y2 y3 y4 o) (E112_a X y2 y3 y4 o)) (Go X 2 112 40 [some (oR 10 0), some (oR 3 y2), some (oR 4 y3), some (vI y4), some (vI x5), none] [vI x8] s6 o)) ?_ (fun j40 hj40 => ?_)
    ·
      intro x8
      refine g_p q112 2 44 [some (oR 10 0), some (oR 3 y2), some (oR 4 y3), some (vI y4), some (vI x5), some (vI x8)] [vI x8] rfl ?_
      refine g_i1 q112 rfl rfl ?_ ?_
      ·
        refine g_inc (fun v9 => [some (oR 10 0), some (oR 3 y2), some (oR 4 y3), some (vI y4), some (vI v9), some (vI x8)]) q112 rfl rfl (fun _ => rfl) (fun v9 => ?_)
        refine g_p q112 1 8 [some (oR 10 0), some (oR 3 y2), some (oR 4 y3), some (vI y4), some (vI v9), some (vI x8)] [] rfl ?_
        exact g_end (fun h => g_wk [true, true, true, true, true, false] rfl h)
      ·
        refine g_p q112 1 48 [some (oR 10 0), some (oR 3 y2), some (oR 4 y3), some (vI y4), some (vI x5), some (vI x8)] [oR 4 y3] rfl ?_
        refine g_m (S := [aR 515 y3]) (some (aR 515 y3)) q112 rfl rfl rfl (fun _ => rfl) rfl ?_
        refine g_p q112 1 53 [some (oR 10 0), some (oR 3 y2), some (oR 4 y3), some (vI y4), some (vI x5), some (vI x8)] [vI x5, aR 515 y3] rfl ?_
        refine g_ld q112 rfl rfl rfl rfl rfl rfl (fun v10 => ?_)
        refine g_p q112 1 55 [some (oR 10 0), some (oR 3 y2), some (oR 4 y3), some (vI y4), some (vI x5), some (vI x8)] [vI (-1), vI v10] rfl ?_
        refine g_i2 q112 rfl rfl ?_ ?_
        ·
          refine g_inc (fun v11 => [some (oR 10 0), some (oR 3 y2), some (oR 4 y3), some (vI y4), some (vI v11), some (vI x8)]) q112 rfl rfl (fun _ => rfl) (fun v11 => ?_)
          refine g_p q112 1 8 [some (oR 10 0), some (oR 3 y2), some (oR 4 y3), some (vI y4), some (vI v11), some (vI x8)] [] rfl ?_
          exact g_end (fun h => g_wk [true, true, true, true, true, false] rfl h)
        ·
          refine g_p q112 1 59 [some (oR 10 0), some (oR 3 y2), some (oR 4 y3), some (vI y4), some (vI x5), some (vI x8)] [oR 10 0] rfl ?_
          refine g_get q112 rfl rfl rfl (fun _ => rfl) (fun v12 => ?_)
          refine g_i1 q112 rfl rfl ?_ ?_
          ·
            refine g_inc (fun v13 => [some (oR 10 0), some (oR 3 y2), some (oR 4 y3), some (vI y4), some (vI v13), some (vI x8)]) q112 rfl rfl (fun _ => rfl) (fun v13 => ?_)
            refine g_p q112 1 8 [some (oR 10 0), some (oR 3 y2), some (oR 4 y3), some (vI y4), some (vI v13), some (vI x8)] [] rfl ?_
            exact g_end (fun h => g_wk [true, true, true, true, true, false] rfl h)
          ·
            refine g_p q112 1 66 [some (oR 10 0), some (oR 3 y2), some (oR 4 y3), some (vI y4), some (vI x5), some (vI x8)] [oR 10 0] rfl ?_
            refine g_get q112 rfl rfl rfl (fun _ => rfl) (fun v14 => ?_)
            refine g_p q112 1 70 [some (oR 10 0), some (oR 3 y2), some (oR 4 y3), some (vI y4), some (vI x5), some (vI x8)] [vI 4, vI v14] rfl ?_
            refine g_i2 q112 rfl rfl ?_ ?_
            ·
              refine g_inc (fun v15 => [some (oR 10 0), some (oR 3 y2), some (oR 4 y3), some (vI y4), some (vI v15), some (vI x8)]) q112 rfl rfl (fun _ => rfl) (fun v15 => ?_)
              refine g_p q112 1 8 [some (oR 10 0), some (oR 3 y2), some (oR 4 y3), some (vI y4), some (vI v15), some (vI x8)] [] rfl ?_
              exact g_end (fun h => g_wk [true, true, true, true, true, false] rfl h)
            ·
              refine g_p q112 1 74 [some (oR 10 0), some (oR 3 y2), some (oR 4 y3), some (vI y4), some (vI x5), some (vI x8)] [oR 10 0] rfl ?_
              refine g_m (S := [aR 1283 0]) (some (aR 1283 0)) q112 rfl rfl rfl (fun _ => rfl) rfl ?_
              refine g_p q112 1 78 [some (oR 10 0), some (oR 3 y2), some (oR 4 y3), some (vI y4), some (vI x5), some (vI x8)] [oR 10 0, aR 1283 0] rfl ?_
              refine g_get q112 rfl rfl rfl (fun _ => rfl) (fun v16 => ?_)
              refine g_p q112 1 83 [some (oR 10 0), some (oR 3 y2), some (oR 4 y3), some (vI y4), some (vI x5), some (vI x8)] [vI x5, vI v16, aR 1283 0] rfl ?_
              refine g_sto q112 rfl rfl rfl rfl (fun s17 => ?_)
              refine g_p q112 2 86 [some (oR 10 0), some (oR 3 y2), some (oR 4 y3), some (vI y4), some (vI x5), some (vI x8)] [oR 10 0, oR 10 0] rfl ?_
              refine g_get q112 rfl rfl rfl (fun _ => rfl) (fun v18 => ?_)
              refine g_p q112 2 91 [some (oR 10 0), some (oR 3 y2), some (oR 4 y3), some (vI y4), some (vI x5), some (vI x8)] [vI (jadd v18 1), oR 10 0] rfl ?_
              refine g_put q112 rfl rfl rfl (fun _ => rfl) (fun s19 => ?_)
              refine g_inc (fun v20 => [some (oR 10 0), some (oR 3 y2), some (oR 4 y3), some (vI y4), some (vI v20), some (vI x8)]) q112 rfl rfl (fun _ => rfl) (fun v20 => ?_)
              refine g_p q112 1 8 [some (oR 10 0), some (oR 3 y2), some (oR 4 y3), some (vI y4), some (vI v20), some (vI x8)] [] rfl ?_
              exact g_end (fun h => g_wk [true, true, true, true, true, false] rfl h)
    ·
      refine g_jn (fun j39 => ∀ (_ : Unit), J (j39 ()) (am_kx (H112_a X y2 y3 y4 o) (E112_a X y2 y3 y4 o)) (Go X 2 112 39 [some (oR 10 0), some (oR 3 y2), some (oR 4 y3), some (vI y4), some (vI x5), none] [] s6 o)) ?_ (fun j39 hj39 => ?_)
      ·
        intro _
        refine g_p q112 1 40 [some (oR 10 0), some (oR 3 y2), some (oR 4 y3), some (vI y4), some (vI x5), none] [vI 0] rfl ?_
        exact g_wkJ [true, true, true, true, true, false] rfl (hj40 0)
      ·
        refine g_i1 q112 rfl rfl ?_ ?_
        ·
          exact g_wkJ [true, true, true, true, true, false] rfl (hj39 ())
        ·
          refine g_p q112 1 25 [some (oR 10 0), some (oR 3 y2), some (oR 4 y3), some (vI y4), some (vI x5), none] [oR 3 y2] rfl ?_
          refine g_m (S := [aR 395 y2]) (some (aR 395 y2)) q112 rfl rfl rfl (fun _ => rfl) rfl ?_
          refine g_p q112 1 30 [some (oR 10 0), some (oR 3 y2), some (oR 4 y3), some (vI y4), some (vI x5), none] [vI x5, aR 395 y2] rfl ?_
          refine g_ld q112 rfl rfl rfl rfl rfl rfl (fun v21 => ?_)
          refine g_p q112 1 32 [some (oR 10 0), some (oR 3 y2), some (oR 4 y3), some (vI y4), some (vI x5), none] [vI y4, vI v21] rfl ?_
          refine g_i2 q112 rfl rfl ?_ ?_
          ·
            exact g_wkJ [true, true, true, true, true, false] rfl (hj39 ())
          ·
            refine g_p q112 2 40 [some (oR 10 0), some (oR 3 y2), some (oR 4 y3), some (vI y4), some (vI x5), none] [vI 1] rfl ?_
            exact g_wkJ [true, true, true, true, true, false] rfl (hj40 1)
theorem g112 (X : X2) (a1 : Nat) (a2 : Nat) (a3 : Int) (s : S2) (o : Option (AV R2) × S2) : J (f112 a1 a2 a3 s) (fun (r : S2) => o = (none, r)) (Go X 2 112 0 (am_loc (am_nl 112) [oR 10 0, oR 3 a1, oR 4 a2, vI a3]) [] s o) := by
  show J _ _ (Go X 2 112 0 [some (oR 10 0), some (oR 3 a1), some (oR 4 a2), some (vI a3), none, none] [] s o)
  unfold f112
  refine g_p q112 2 2 [some (oR 10 0), some (oR 3 a1), some (oR 4 a2), some (vI a3), none, none] [vI 0, oR 10 0] rfl ?_
  refine g_put q112 rfl rfl rfl (fun _ => rfl) (fun s1 => ?_)
  refine g_p q112 2 8 [some (oR 10 0), some (oR 3 a1), some (oR 4 a2), some (vI a3), some (vI 0), none] [] rfl ?_
  refine g_wkJ [true, true, true, true, true, false] (L0 := [some (oR 10 0), some (oR 3 a1), some (oR 4 a2), some (vI a3), some (vI 0), none]) rfl ?_
  refine g_itr (H112_a X a1 a2 a3 o) (E112_a X a1 a2 a3 o) (fun | (x5, s6) => g112_a X a1 a2 a3 x5 s6 o) ?_
  intro s22
  show J _ _ (Go X 2 112 100 [none, none, none, none, none, none] [] s22 o)
  exact g_retV q112 rfl rfl
theorem q113 : am_cd 113 = am_c113 := rfl
def H113_a (X : X2) (y3 : Int) (o : Option (AV R2) × S2) (a : Int × Int × S2) : Prop := Go X 1 113 14 [some (oR 10 0), none, some (vI y3), some (vI (a.1)), some (vI (a.2.1))] [] (a.2.2) o
def E113_a (X : X2) (y3 : Int) (o : Option (AV R2) × S2) : (S2) → Prop := (fun (r : S2) => Go X 1 113 45 [none, none, none, none, none] [] r o)
theorem g113_a (X : X2) (y3 : Int) (x4 : Int) (x5 : Int) (s6 : S2) (o : Option (AV R2) × S2) : J (f113_a y3 x4 x5 s6) (am_kx (H113_a X y3 o) (E113_a X y3 o)) (Go X 1 113 14 [some (oR 10 0), none, some (vI y3), some (vI x4), some (vI x5)] [] s6 o) := by
  unfold f113_a
  refine g_p q113 1 16 [some (oR 10 0), none, some (vI y3), some (vI x4), some (vI x5)] [vI x5] rfl ?_
  refine g_i1 q113 rfl rfl ?_ ?_
  ·
    exact g_end (fun h => g_wk [false, false, false, false, false] rfl h)
  ·
    refine g_p q113 1 20 [some (oR 10 0), none, some (vI y3), some (vI x4), some (vI x5)] [vI y3] rfl ?_
    refine g_i1 q113 rfl rfl ?_ ?_
    ·
      exact g_end (fun h => g_wk [false, false, false, false, false] rfl h)
    ·
      refine g_p q113 1 24 [some (oR 10 0), none, some (vI y3), some (vI x4), some (vI x5)] [oR 10 0] rfl ?_
      refine g_m (S := [aR 1284 0]) (some (aR 1284 0)) q113 rfl rfl rfl (fun _ => rfl) rfl ?_
      refine g_p q113 3 31 [some (oR 10 0), none, some (vI y3), some (vI x4), some (vI x5)] [vI y3, vI x4, vI x5, aR 1284 0] rfl ?_
      refine g_irem q113 rfl ?_
      refine g_p q113 2 34 [some (oR 10 0), none, some (vI y3), some (vI x4), some (vI x5)] [vI (jsub (jrem x4 y3) 1), vI x5, aR 1284 0] rfl ?_
      refine g_sto q113 rfl rfl rfl rfl (fun s7 => ?_)
      refine g_p q113 2 37 [some (oR 10 0), none, some (vI y3), some (vI x4), some (vI x5)] [vI y3, vI x4] rfl ?_
      refine g_idiv q113 rfl ?_
      refine g_top (fun v8 => ?_)
      refine g_p q113 1 39 [some (oR 10 0), none, some (vI y3), some (vI v8), some (vI x5)] [] rfl ?_
      refine g_inc (fun v9 => [some (oR 10 0), none, some (vI y3), some (vI v8), some (vI v9)]) q113 rfl rfl (fun _ => rfl) (fun v9 => ?_)
      refine g_p q113 1 14 [some (oR 10 0), none, some (vI y3), some (vI v8), some (vI v9)] [] rfl ?_
      exact g_end (fun h => g_wk [true, false, true, true, true] rfl h)
theorem g113 (X : X2) (a1 : Int) (a2 : Int) (s : S2) (o : Option (AV R2) × S2) : J (f113 a1 a2 s) (fun (r : S2) => o = (none, r)) (Go X 1 113 0 (am_loc (am_nl 113) [oR 10 0, vI a1, vI a2]) [] s o) := by
  show J _ _ (Go X 1 113 0 [some (oR 10 0), some (vI a1), some (vI a2), none, none] [] s o)
  unfold f113
  refine g_p q113 3 3 [some (oR 10 0), some (vI a1), some (vI a2), some (vI a1), none] [oR 10 0] rfl ?_
  refine g_get q113 rfl rfl rfl (fun _ => rfl) (fun v1 => ?_)
  refine g_p q113 1 7 [some (oR 10 0), some (vI a1), some (vI a2), some (vI a1), none] [vI 4, vI v1] rfl ?_
  refine g_m (S := [vI (jmin v1 4)]) (some (vI (jmin v1 4))) q113 rfl rfl rfl (fun _ => rfl) rfl ?_
  refine g_p q113 2 12 [some (oR 10 0), some (vI a1), some (vI a2), some (vI a1), none] [vI (jsub (jmin v1 4) 1)] rfl ?_
  refine g_top (fun v2 => ?_)
  refine g_p q113 1 14 [some (oR 10 0), some (vI a1), some (vI a2), some (vI a1), some (vI v2)] [] rfl ?_
  refine g_wkJ [true, false, true, true, true] (L0 := [some (oR 10 0), none, some (vI a2), some (vI a1), some (vI v2)]) rfl ?_
  refine g_itr (H113_a X a2 o) (E113_a X a2 o) (fun | (x4, x5, s6) => g113_a X a2 x4 x5 s6 o) ?_
  intro s10
  show J _ _ (Go X 1 113 45 [none, none, none, none, none] [] s10 o)
  exact g_retV q113 rfl rfl
theorem q114 : am_cd 114 = am_c114 := rfl
def H114_a (X : X2) (o : Option (AV R2) × S2) (a : Int × S2) : Prop := Go X 5 114 2 [some (oR 10 0), some (oR 9 0), some (vI (a.1))] [] (a.2) o
def E114_a (X : X2) (o : Option (AV R2) × S2) : (S2) ⊕ (S2) → Prop := (am_kx (fun (r : S2) => Go X 5 114 51 [none, none, none] [] r o) (fun (r : S2) => Go X 5 114 82 [none, none, none] [] r o))
theorem g114_a (X : X2) (x1 : Int) (s2 : S2) (o : Option (AV R2) × S2) : J (f114_a x1 s2) (am_kx (H114_a X o) (E114_a X o)) (Go X 5 114 2 [some (oR 10 0), some (oR 9 0), some (vI x1)] [] s2 o) := by
  unfold f114_a
  refine g_p q114 2 4 [some (oR 10 0), some (oR 9 0), some (vI x1)] [oR 10 0, vI x1] rfl ?_
  refine g_get q114 rfl rfl rfl (fun _ => rfl) (fun v3 => ?_)
  refine g_i2 q114 rfl rfl ?_ ?_
  ·
    exact g_end (fun h => g_wk [false, false, false] rfl h)
  ·
    refine g_p q114 2 12 [some (oR 10 0), some (oR 9 0), some (vI x1)] [vI 4, vI x1] rfl ?_
    refine g_i2 q114 rfl rfl ?_ ?_
    ·
      exact g_end (fun h => g_wk [false, false, false] rfl h)
    ·
      refine g_p q114 1 16 [some (oR 10 0), some (oR 9 0), some (vI x1)] [oR 10 0] rfl ?_
      refine g_m (S := [aR 1284 0]) (some (aR 1284 0)) q114 rfl rfl rfl (fun _ => rfl) rfl ?_
      refine g_p q114 1 20 [some (oR 10 0), some (oR 9 0), some (vI x1)] [vI x1, aR 1284 0] rfl ?_
      refine g_ld q114 rfl rfl rfl rfl rfl rfl (fun v4 => ?_)
      refine g_p q114 1 22 [some (oR 10 0), some (oR 9 0), some (vI x1)] [vI (-1), vI v4] rfl ?_
      refine g_i2 q114 rfl rfl ?_ ?_
      ·
        refine g_inc (fun v5 => [some (oR 10 0), some (oR 9 0), some (vI v5)]) q114 rfl rfl (fun _ => rfl) (fun v5 => ?_)
        refine g_p q114 1 2 [some (oR 10 0), some (oR 9 0), some (vI v5)] [] rfl ?_
        exact g_end (fun h => g_wk [true, true, true] rfl h)
      ·
        refine g_p q114 1 26 [some (oR 10 0), some (oR 9 0), some (vI x1)] [oR 9 0] rfl ?_
        refine g_m (S := [oR 4 160]) (some (oR 4 160)) q114 rfl rfl rfl (fun _ => rfl) rfl ?_
        refine g_p q114 1 30 [some (oR 10 0), some (oR 9 0), some (vI x1)] [oR 9 0, oR 4 160] rfl ?_
        refine g_dyn q114 rfl rfl rfl (fun _ => rfl) (fun i6 => ?_)
        refine g_p q114 1 34 [some (oR 10 0), some (oR 9 0), some (vI x1)] [oR 10 0, oR 3 i6, oR 4 160] rfl ?_
        refine g_m (S := [aR 1283 0, oR 3 i6, oR 4 160]) (some (aR 1283 0)) q114 rfl rfl rfl (fun _ => rfl) rfl ?_
        refine g_p q114 1 38 [some (oR 10 0), some (oR 9 0), some (vI x1)] [vI x1, aR 1283 0, oR 3 i6, oR 4 160] rfl ?_
        refine g_ld q114 rfl rfl rfl rfl rfl rfl (fun v7 => ?_)
        refine g_p q114 1 40 [some (oR 10 0), some (oR 9 0), some (vI x1)] [oR 10 0, vI v7, oR 3 i6, oR 4 160] rfl ?_
        refine g_m (S := [aR 1284 0, vI v7, oR 3 i6, oR 4 160]) (some (aR 1284 0)) q114 rfl rfl rfl (fun _ => rfl) rfl ?_
        refine g_p q114 1 44 [some (oR 10 0), some (oR 9 0), some (vI x1)] [vI x1, aR 1284 0, vI v7, oR 3 i6, oR 4 160] rfl ?_
        refine g_ld q114 rfl rfl rfl rfl rfl rfl (fun v8 => ?_)
        refine g_cPI q114 rfl (g48 X 160 i6 v7 v8 s2) rfl rfl rfl rfl rfl (fun r9 => ?_)
        refine g_i1 q114 rfl rfl ?_ ?_
        ·
          refine g_p q114 1 54 [some (oR 10 0), some (oR 9 0), some (vI x1)] [oR 9 0] rfl ?_
          refine g_m (S := [oR 4 160]) (some (oR 4 160)) q114 rfl rfl rfl (fun _ => rfl) rfl ?_
          refine g_p q114 1 58 [some (oR 10 0), some (oR 9 0), some (vI x1)] [oR 9 0, oR 4 160] rfl ?_
          refine g_dyn q114 rfl rfl rfl (fun _ => rfl) (fun i10 => ?_)
          refine g_p q114 1 62 [some (oR 10 0), some (oR 9 0), some (vI x1)] [oR 10 0, oR 3 i10, oR 4 160] rfl ?_
          refine g_m (S := [aR 1283 0, oR 3 i10, oR 4 160]) (some (aR 1283 0)) q114 rfl rfl rfl (fun _ => rfl) rfl ?_
          refine g_p q114 1 66 [some (oR 10 0), some (oR 9 0), some (vI x1)] [vI x1, aR 1283 0, oR 3 i10, oR 4 160] rfl ?_
          refine g_ld q114 rfl rfl rfl rfl rfl rfl (fun v11 => ?_)
          refine g_p q114 1 68 [some (oR 10 0), some (oR 9 0), some (vI x1)] [oR 10 0, vI v11, oR 3 i10, oR 4 160] rfl ?_
          refine g_m (S := [aR 1284 0, vI v11, oR 3 i10, oR 4 160]) (some (aR 1284 0)) q114 rfl rfl rfl (fun _ => rfl) rfl ?_
          refine g_p q114 1 72 [some (oR 10 0), some (oR 9 0), some (vI x1)] [vI x1, aR 1284 0, vI v11, oR 3 i10, oR 4 160] rfl ?_
          refine g_ld q114 rfl rfl rfl rfl rfl rfl (fun v12 => ?_)
          refine g_cV q114 rfl (g54 X 160 i10 v11 v12 s2) rfl rfl rfl rfl rfl (fun s13 => ?_)
          refine g_inc (fun v14 => [some (oR 10 0), some (oR 9 0), some (vI v14)]) q114 rfl rfl (fun _ => rfl) (fun v14 => ?_)
          refine g_p q114 1 2 [some (oR 10 0), some (oR 9 0), some (vI v14)] [] rfl ?_
          exact g_end (fun h => g_wk [true, true, true] rfl h)
        ·
          exact g_end (fun h => g_wk [false, false, false] rfl h)
theorem g114 (X : X2) (s : S2) (o : Option (AV R2) × S2) : J (f114 s) (fun (r : Int × S2) => o = (some (vI r.1), r.2)) (Go X 5 114 0 (am_loc (am_nl 114) [oR 10 0, oR 9 0]) [] s o) := by
  show J _ _ (Go X 5 114 0 [some (oR 10 0), some (oR 9 0), none] [] s o)
  unfold f114
  refine g_p q114 2 2 [some (oR 10 0), some (oR 9 0), some (vI 0)] [] rfl ?_
  refine g_wkJ [true, true, true] (L0 := [some (oR 10 0), some (oR 9 0), some (vI 0)]) rfl ?_
  refine g_itr (H114_a X o) (E114_a X o) (fun | (x1, s2) => g114_a X x1 s2 o) ?_
  refine g_se ?_ ?_
  ·
    intro s15
    show J _ _ (Go X 5 114 51 [none, none, none] [] s15 o)
    refine g_p q114 1 52 [none, none, none] [vI 0] rfl ?_
    exact g_ret q114 rfl rfl rfl
  ·
    intro s16
    show J _ _ (Go X 5 114 82 [none, none, none] [] s16 o)
    refine g_p q114 1 83 [none, none, none] [vI 1] rfl ?_
    exact g_ret q114 rfl rfl rfl
theorem q115 : am_cd 115 = am_c115 := rfl
theorem g115 (X : X2) (a0 : Nat) (a1 : Int) (s : S2) (o : Option (AV R2) × S2) : J (f115 a0 a1 s) (fun (r : Int) => o = (some (vI r), s)) (Go X 1 115 0 (am_loc (am_nl 115) [oR 4 a0, vI a1]) [] s o) := by
  show J _ _ (Go X 1 115 0 [some (oR 4 a0), some (vI a1)] [] s o)
  unfold f115
  refine g_p q115 1 1 [some (oR 4 a0), some (vI a1)] [vI a1] rfl ?_
  refine g_i1 q115 rfl rfl ?_ ?_
  ·
    refine g_p q115 1 19 [some (oR 4 a0), some (vI a1)] [vI 0] rfl ?_
    exact g_ret q115 rfl rfl rfl
  ·
    refine g_p q115 2 6 [some (oR 4 a0), some (vI a1)] [vI 4, vI a1] rfl ?_
    refine g_i2 q115 rfl rfl ?_ ?_
    ·
      refine g_p q115 1 19 [some (oR 4 a0), some (vI a1)] [vI 0] rfl ?_
      exact g_ret q115 rfl rfl rfl
    ·
      refine g_p q115 1 10 [some (oR 4 a0), some (vI a1)] [oR 4 a0] rfl ?_
      refine g_m (S := [aR 518 a0]) (some (aR 518 a0)) q115 rfl rfl rfl (fun _ => rfl) rfl ?_
      refine g_p q115 1 14 [some (oR 4 a0), some (vI a1)] [vI a1, aR 518 a0] rfl ?_
      refine g_ld q115 rfl rfl rfl rfl rfl rfl (fun v1 => ?_)
      refine g_p q115 1 19 [some (oR 4 a0), some (vI a1)] [vI v1] rfl ?_
      exact g_ret q115 rfl rfl rfl
theorem q111 : am_cd 111 = am_c111 := rfl
def H111_a (X : X2) (y3 : Nat) (y4 : Int) (y5 : Int) (s8 : S2) (o : Option (AV R2) × S2) (a : Int × Int) : Prop := Go X 6 111 16 [some (oR 10 0), some (oR 9 0), some (oR 4 y3), some (vI y4), some (vI y5), some (vI (a.1)), some (vI (a.2))] [] s8 o
def E111_a (X : X2) (y3 : Nat) (y4 : Int) (y5 : Int) (s8 : S2) (o : Option (AV R2) × S2) : (Int) → Prop := (fun (r : Int) => Go X 6 111 45 [some (oR 10 0), some (oR 9 0), some (oR 4 y3), some (vI y4), some (vI y5), some (vI r), none] [] s8 o)
theorem g111_a (X : X2) (y3 : Nat) (y4 : Int) (y5 : Int) (x6 : Int) (x7 : Int) (s8 : S2) (o : Option (AV R2) × S2) : J (f111_a x6 x7 s8) (am_kx (H111_a X y3 y4 y5 s8 o) (E111_a X y3 y4 y5 s8 o)) (Go X 6 111 16 [some (oR 10 0), some (oR 9 0), some (oR 4 y3), some (vI y4), some (vI y5), some (vI x6), some (vI x7)] [] s8 o) := by
  unfold f111_a
  refine g_p q111 2 19 [some (oR 10 0), some (oR 9 0), some (oR 4 y3), some (vI y4), some (vI y5), some (vI x6), some (vI x7)] [oR 10 0, vI x7] rfl ?_
  refine g_get q111 rfl rfl rfl (fun _ => rfl) (fun v9 => ?_)
  refine g_i2 q111 rfl rfl ?_ ?_
  ·
    exact g_end (fun h => g_wk [true, true, true, true, true, true, false] rfl h)
  ·
    refine g_p q111 2 28 [some (oR 10 0), some (oR 9 0), some (oR 4 y3), some (vI y4), some (vI y5), some (vI x6), some (vI x7)] [oR 9 0, vI x6] rfl ?_
    refine g_dyn q111 rfl rfl rfl (fun _ => rfl) (fun i10 => ?_)
    refine g_get q111 rfl rfl rfl (fun _ => rfl) (fun v11 => ?_)
    refine g_p q111 3 37 [some (oR 10 0), some (oR 9 0), some (oR 4 y3), some (vI y4), some (vI y5), some (vI x6), some (vI x7)] [vI (jmul x6 (jadd v11 1))] rfl ?_
    refine g_top (fun v12 => ?_)
    refine g_p q111 1 39 [some (oR 10 0), some (oR 9 0), some (oR 4 y3), some (vI y4), some (vI y5), some (vI v12), some (vI x7)] [] rfl ?_
    refine g_inc (fun v13 => [some (oR 10 0), some (oR 9 0), some (oR 4 y3), some (vI y4), some (vI y5), some (vI v12), some (vI v13)]) q111 rfl rfl (fun _ => rfl) (fun v13 => ?_)
    refine g_p q111 1 16 [some (oR 10 0), some (oR 9 0), some (oR 4 y3), some (vI y4), some (vI y5), some (vI v12), some (vI v13)] [] rfl ?_
    exact g_end (fun h => g_wk [true, true, true, true, true, true, true] rfl h)
def H111_b (X : X2) (y16 : Nat) (y17 : Int) (y18 : Int) (y19 : Int) (o : Option (AV R2) × S2) (a : Int × S2) : Prop := Go X 6 111 53 [some (oR 10 0), some (oR 9 0), some (oR 4 y16), some (vI y17), some (vI y18), some (vI y19), some (vI (a.1))] [] (a.2) o
def E111_b (X : X2) (y16 : Nat) (y17 : Int) (y18 : Int) (y19 : Int) (o : Option (AV R2) × S2) : (S2) → Prop := (fun (r : S2) => Go X 6 111 144 [none, none, none, none, none, none, none] [] r o)
theorem g111_b (X : X2) (y16 : Nat) (y17 : Int) (y18 : Int) (y19 : Int) (x20 : Int) (s21 : S2) (o : Option (AV R2) × S2) : J (f111_b y16 y17 y18 y19 x20 s21) (am_kx (H111_b X y16 y17 y18 y19 o) (E111_b X y16 y17 y18 y19 o)) (Go X 6 111 53 [some (oR 10 0), some (oR 9 0), some (oR 4 y16), some (vI y17), some (vI y18), some (vI y19), some (vI x20)] [] s21 o) := by
  unfold f111_b
  refine g_p q111 2 57 [some (oR 10 0), some (oR 9 0), some (oR 4 y16), some (vI y17), some (vI y18), some (vI y19), some (vI x20)] [vI y19, vI x20] rfl ?_
  refine g_i2 q111 rfl rfl ?_ ?_
  ·
    exact g_end (fun h => g_wk [false, false, false, false, false, false, false] rfl h)
  ·
    refine g_p q111 1 61 [some (oR 10 0), some (oR 9 0), some (oR 4 y16), some (vI y17), some (vI y18), some (vI y19), some (vI x20)] [oR 9 0] rfl ?_
    refine g_m (S := [oR 4 160]) (some (oR 4 160)) q111 rfl rfl rfl (fun _ => rfl) rfl ?_
    refine g_p q111 1 65 [some (oR 10 0), some (oR 9 0), some (oR 4 y16), some (vI y17), some (vI y18), some (vI y19), some (vI x20)] [oR 4 y16, oR 4 160] rfl ?_
    refine g_cV q111 rfl (g58 X 160 y16 s21) rfl rfl rfl rfl rfl (fun s22 => ?_)
    refine g_p q111 3 72 [some (oR 10 0), some (oR 9 0), some (oR 4 y16), some (vI y17), some (vI y18), some (vI y19), some (vI x20)] [oR 9 0, vI x20, oR 10 0] rfl ?_
    refine g_dyn q111 rfl rfl rfl (fun _ => rfl) (fun i23 => ?_)
    refine g_get q111 rfl rfl rfl (fun _ => rfl) (fun v24 => ?_)
    refine g_p q111 2 80 [some (oR 10 0), some (oR 9 0), some (oR 4 y16), some (vI y17), some (vI y18), some (vI y19), some (vI x20)] [vI (jadd v24 1), vI x20, oR 10 0] rfl ?_
    refine g_cV q111 rfl (g113 X x20 (jadd v24 1) s22) rfl rfl rfl rfl rfl (fun s25 => ?_)
    refine g_p q111 2 85 [some (oR 10 0), some (oR 9 0), some (oR 4 y16), some (vI y17), some (vI y18), some (vI y19), some (vI x20)] [oR 9 0, oR 10 0] rfl ?_
    refine g_cRI q111 rfl (g114 X s25) rfl rfl rfl rfl rfl (fun r26 s27 => ?_)
    refine g_i1 q111 rfl rfl ?_ ?_
    ·
      refine g_inc (fun v28 => [some (oR 10 0), some (oR 9 0), some (oR 4 y16), some (vI y17), some (vI y18), some (vI y19), some (vI v28)]) q111 rfl rfl (fun _ => rfl) (fun v28 => ?_)
      refine g_p q111 1 53 [some (oR 10 0), some (oR 9 0), some (oR 4 y16), some (vI y17), some (vI y18), some (vI y19), some (vI v28)] [] rfl ?_
      exact g_end (fun h => g_wk [true, true, true, true, true, true, true] rfl h)
    ·
      refine g_p q111 2 94 [some (oR 10 0), some (oR 9 0), some (oR 4 y16), some (vI y17), some (vI y18), some (vI y19), some (vI x20)] [vI y18, oR 9 0] rfl ?_
      refine g_cV q111 rfl (g107 X y18 s27) rfl rfl rfl rfl rfl (fun s29 => ?_)
      refine g_p q111 1 98 [some (oR 10 0), some (oR 9 0), some (oR 4 y16), some (vI y17), some (vI y18), some (vI y19), some (vI x20)] [oR 9 0] rfl ?_
      refine g_m (S := [oR 4 160]) (some (oR 4 160)) q111 rfl rfl rfl (fun _ => rfl) rfl ?_
      refine g_p q111 1 102 [some (oR 10 0), some (oR 9 0), some (oR 4 y16), some (vI y17), some (vI y18), some (vI y19), some (vI x20)] [vI y17, oR 4 160] rfl ?_
      refine g_cPI q111 rfl (g115 X 160 y17 s29) rfl rfl rfl rfl rfl (fun r30 => ?_)
      refine g_p q111 1 106 [some (oR 10 0), some (oR 9 0), some (oR 4 y16), some (vI y17), some (vI y18), some (vI y19), some (vI x20)] [oR 10 0, vI r30] rfl ?_
      refine g_get q111 rfl rfl rfl (fun _ => rfl) (fun v31 => ?_)
      refine g_i2 q111 rfl rfl ?_ ?_
      ·
        refine g_inc (fun v32 => [some (oR 10 0), some (oR 9 0), some (oR 4 y16), some (vI y17), some (vI y18), some (vI y19), some (vI v32)]) q111 rfl rfl (fun _ => rfl) (fun v32 => ?_)
        refine g_p q111 1 53 [some (oR 10 0), some (oR 9 0), some (oR 4 y16), some (vI y17), some (vI y18), some (vI y19), some (vI v32)] [] rfl ?_
        exact g_end (fun h => g_wk [true, true, true, true, true, true, true] rfl h)
      ·
        refine g_p q111 2 114 [some (oR 10 0), some (oR 9 0), some (oR 4 y16), some (vI y17), some (vI y18), some (vI y19), some (vI x20)] [oR 9 0, oR 10 0] rfl ?_
        refine g_m (S := [oR 4 160, oR 10 0]) (some (oR 4 160)) q111 rfl rfl rfl (fun _ => rfl) rfl ?_
        refine g_p q111 1 118 [some (oR 10 0), some (oR 9 0), some (oR 4 y16), some (vI y17), some (vI y18), some (vI y19), some (vI x20)] [vI y17, oR 4 160, oR 10 0] rfl ?_
        refine g_cPI q111 rfl (g115 X 160 y17 s29) rfl rfl rfl rfl rfl (fun r33 => ?_)
        refine g_put q111 rfl rfl rfl (fun _ => rfl) (fun s34 => ?_)
        refine g_p q111 1 125 [some (oR 10 0), some (oR 9 0), some (oR 4 y16), some (vI y17), some (vI y18), some (vI y19), some (vI x20)] [oR 10 0] rfl ?_
        refine g_m (S := [aR 1284 0]) (some (aR 1284 0)) q111 rfl rfl rfl (fun _ => rfl) rfl ?_
        refine g_p q111 2 130 [some (oR 10 0), some (oR 9 0), some (oR 4 y16), some (vI y17), some (vI y18), some (vI y19), some (vI x20)] [oR 10 0, vI 0, aR 1284 0] rfl ?_
        refine g_m (S := [aR 1285 0, vI 0, aR 1284 0]) (some (aR 1285 0)) q111 rfl rfl rfl (fun _ => rfl) rfl ?_
        refine g_p q111 2 135 [some (oR 10 0), some (oR 9 0), some (oR 4 y16), some (vI y17), some (vI y18), some (vI y19), some (vI x20)] [vI 4, vI 0, aR 1285 0, vI 0, aR 1284 0] rfl ?_
        refine g_cpy (im := 0) q111 rfl rfl rfl rfl rfl (fun s35 => ?_)
        refine g_inc (fun v36 => [some (oR 10 0), some (oR 9 0), some (oR 4 y16), some (vI y17), some (vI y18), some (vI y19), some (vI v36)]) q111 rfl rfl (fun _ => rfl) (fun v36 => ?_)
        refine g_p q111 1 53 [some (oR 10 0), some (oR 9 0), some (oR 4 y16), some (vI y17), some (vI y18), some (vI y19), some (vI v36)] [] rfl ?_
        exact g_end (fun h => g_wk [true, true, true, true, true, true, true] rfl h)
theorem g111 (X : X2) (a2 : Nat) (a3 : Int) (a4 : Int) (s : S2) (o : Option (AV R2) × S2) : J (f111 a2 a3 a4 s) (fun (r : S2) => o = (none, r)) (Go X 6 111 0 (am_loc (am_nl 111) [oR 10 0, oR 9 0, oR 4 a2, vI a3, vI a4]) [] s o) := by
  show J _ _ (Go X 6 111 0 [some (oR 10 0), some (oR 9 0), some (oR 4 a2), some (vI a3), some (vI a4), none, none] [] s o)
  unfold f111
  refine g_p q111 2 2 [some (oR 10 0), some (oR 9 0), some (oR 4 a2), some (vI a3), some (vI a4), none, none] [oR 9 0, oR 10 0] rfl ?_
  refine g_dyn q111 rfl rfl rfl (fun _ => rfl) (fun i1 => ?_)
  refine g_p q111 2 7 [some (oR 10 0), some (oR 9 0), some (oR 4 a2), some (vI a3), some (vI a4), none, none] [vI a3, oR 4 a2, oR 3 i1, oR 10 0] rfl ?_
  refine g_cV q111 rfl (g112 X i1 a2 a3 s) rfl rfl rfl rfl rfl (fun s2 => ?_)
  refine g_p q111 4 16 [some (oR 10 0), some (oR 9 0), some (oR 4 a2), some (vI a3), some (vI a4), some (vI 1), some (vI 0)] [] rfl ?_
  refine g_wkJ [true, true, true, true, true, true, true] (L0 := [some (oR 10 0), some (oR 9 0), some (oR 4 a2), some (vI a3), some (vI a4), some (vI 1), some (vI 0)]) rfl ?_
  refine g_itr (H111_a X a2 a3 a4 s2 o) (E111_a X a2 a3 a4 s2 o) (fun | (x6, x7) => g111_a X a2 a3 a4 x6 x7 s2 o) ?_
  intro z14
  show J _ _ (Go X 6 111 45 [some (oR 10 0), some (oR 9 0), some (oR 4 a2), some (vI a3), some (vI a4), some (vI z14), none] [] s2 o)
  refine g_p q111 2 47 [some (oR 10 0), some (oR 9 0), some (oR 4 a2), some (vI a3), some (vI a4), some (vI z14), none] [vI (-1), oR 10 0] rfl ?_
  refine g_put q111 rfl rfl rfl (fun _ => rfl) (fun s15 => ?_)
  refine g_p q111 2 53 [some (oR 10 0), some (oR 9 0), some (oR 4 a2), some (vI a3), some (vI a4), some (vI z14), some (vI 0)] [] rfl ?_
  refine g_wkJ [true, true, true, true, true, true, true] (L0 := [some (oR 10 0), some (oR 9 0), some (oR 4 a2), some (vI a3), some (vI a4), some (vI z14), some (vI 0)]) rfl ?_
  refine g_itr (H111_b X a2 a3 a4 z14 o) (E111_b X a2 a3 a4 z14 o) (fun | (x20, s21) => g111_b X a2 a3 a4 z14 x20 s21 o) ?_
  intro s37
  show J _ _ (Go X 6 111 144 [none, none, none, none, none, none, none] [] s37 o)
  exact g_retV q111 rfl rfl
theorem q116 : am_cd 116 = am_c116 := rfl
theorem g116 (X : X2) (a1 : Int) (s : S2) (o : Option (AV R2) × S2) : J (f116 a1 s) (fun (r : Int) => o = (some (vI r), s)) (Go X 1 116 0 (am_loc (am_nl 116) [oR 10 0, vI a1]) [] s o) := by
  show J _ _ (Go X 1 116 0 [some (oR 10 0), some (vI a1)] [] s o)
  unfold f116
  refine g_p q116 1 1 [some (oR 10 0), some (vI a1)] [vI a1] rfl ?_
  refine g_i1 q116 rfl rfl ?_ ?_
  ·
    refine g_p q116 1 28 [some (oR 10 0), some (vI a1)] [vI (-2)] rfl ?_
    exact g_ret q116 rfl rfl rfl
  ·
    refine g_p q116 2 6 [some (oR 10 0), some (vI a1)] [oR 10 0, vI a1] rfl ?_
    refine g_get q116 rfl rfl rfl (fun _ => rfl) (fun v1 => ?_)
    refine g_i2 q116 rfl rfl ?_ ?_
    ·
      refine g_p q116 1 28 [some (oR 10 0), some (vI a1)] [vI (-2)] rfl ?_
      exact g_ret q116 rfl rfl rfl
    ·
      refine g_p q116 2 14 [some (oR 10 0), some (vI a1)] [vI 4, vI a1] rfl ?_
      refine g_i2 q116 rfl rfl ?_ ?_
      ·
        refine g_p q116 1 28 [some (oR 10 0), some (vI a1)] [vI (-2)] rfl ?_
        exact g_ret q116 rfl rfl rfl
      ·
        refine g_p q116 1 18 [some (oR 10 0), some (vI a1)] [oR 10 0] rfl ?_
        refine g_m (S := [aR 1285 0]) (some (aR 1285 0)) q116 rfl rfl rfl (fun _ => rfl) rfl ?_
        refine g_p q116 1 22 [some (oR 10 0), some (vI a1)] [vI a1, aR 1285 0] rfl ?_
        refine g_ld q116 rfl rfl rfl rfl rfl rfl (fun v2 => ?_)
        refine g_p q116 1 28 [some (oR 10 0), some (vI a1)] [vI v2] rfl ?_
        exact g_ret q116 rfl rfl rfl
theorem q110 : am_cd 110 = am_c110 := rfl
theorem g110 (X : X2) (a1 : Int) (a2 : Int) (a3 : Int) (s : S2) (o : Option (AV R2) × S2) : J (f110 a1 a2 a3 s) (fun (r : Int × S2) => o = (some (vI r.1), r.2)) (Go X 7 110 0 (am_loc (am_nl 110) [oR 0 0, vI a1, vI a2, vI a3]) [] s o) := by
  show J _ _ (Go X 7 110 0 [some (oR 0 0), some (vI a1), some (vI a2), some (vI a3)] [] s o)
  unfold f110
  refine g_p q110 1 1 [some (oR 0 0), some (vI a1), some (vI a2), some (vI a3)] [oR 0 0] rfl ?_
  refine g_m (S := [oR 8 0]) (some (oR 8 0)) q110 rfl rfl rfl (fun _ => rfl) rfl ?_
  refine g_m (S := [oR 3 0]) (some (oR 3 0)) q110 rfl rfl rfl (fun _ => rfl) rfl ?_
  refine g_p q110 1 8 [some (oR 0 0), some (vI a1), some (vI a2), some (vI a3)] [vI a1, oR 3 0] rfl ?_
  refine g_cPI q110 rfl (g51 X 0 a1 s) rfl rfl rfl rfl rfl (fun r1 => ?_)
  refine g_i1 q110 rfl rfl ?_ ?_
  ·
    refine g_p q110 1 36 [some (oR 0 0), some (vI a1), some (vI a2), some (vI a3)] [vI (-3)] rfl ?_
    exact g_ret q110 rfl rfl rfl
  ·
    refine g_p q110 2 16 [some (oR 0 0), some (vI a1), some (vI a2), some (vI a3)] [vI 1, vI a2] rfl ?_
    refine g_i2 q110 rfl rfl ?_ ?_
    ·
      refine g_p q110 1 36 [some (oR 0 0), some (vI a1), some (vI a2), some (vI a3)] [vI (-3)] rfl ?_
      exact g_ret q110 rfl rfl rfl
    ·
      refine g_p q110 2 22 [some (oR 0 0), some (vI a1), some (vI a2), some (vI a3)] [vI 12, vI a2] rfl ?_
      refine g_i2 q110 rfl rfl ?_ ?_
      ·
        refine g_p q110 1 36 [some (oR 0 0), some (vI a1), some (vI a2), some (vI a3)] [vI (-3)] rfl ?_
        exact g_ret q110 rfl rfl rfl
      ·
        refine g_p q110 1 26 [some (oR 0 0), some (vI a1), some (vI a2), some (vI a3)] [vI a3] rfl ?_
        refine g_i1 q110 rfl rfl ?_ ?_
        ·
          refine g_p q110 1 36 [some (oR 0 0), some (vI a1), some (vI a2), some (vI a3)] [vI (-3)] rfl ?_
          exact g_ret q110 rfl rfl rfl
        ·
          refine g_p q110 2 31 [some (oR 0 0), some (vI a1), some (vI a2), some (vI a3)] [vI 4, vI a3] rfl ?_
          refine g_i2 q110 rfl rfl ?_ ?_
          ·
            refine g_p q110 1 38 [some (oR 0 0), some (vI a1), some (vI a2), some (vI a3)] [oR 0 0] rfl ?_
            refine g_cV q110 rfl (g75 X s) rfl rfl rfl rfl rfl (fun s2 => ?_)
            refine g_p q110 1 42 [some (oR 0 0), some (vI a1), some (vI a2), some (vI a3)] [oR 0 0] rfl ?_
            refine g_m (S := [oR 10 0]) (some (oR 10 0)) q110 rfl rfl rfl (fun _ => rfl) rfl ?_
            refine g_p q110 1 46 [some (oR 0 0), some (vI a1), some (vI a2), some (vI a3)] [oR 0 0, oR 10 0] rfl ?_
            refine g_m (S := [oR 9 0, oR 10 0]) (some (oR 9 0)) q110 rfl rfl rfl (fun _ => rfl) rfl ?_
            refine g_p q110 1 50 [some (oR 0 0), some (vI a1), some (vI a2), some (vI a3)] [oR 0 0, oR 9 0, oR 10 0] rfl ?_
            refine g_m (S := [oR 8 0, oR 9 0, oR 10 0]) (some (oR 8 0)) q110 rfl rfl rfl (fun _ => rfl) rfl ?_
            refine g_m (S := [oR 4 0, oR 9 0, oR 10 0]) (some (oR 4 0)) q110 rfl rfl rfl (fun _ => rfl) rfl ?_
            refine g_p q110 2 58 [some (oR 0 0), some (vI a1), some (vI a2), some (vI a3)] [vI a2, vI a1, oR 4 0, oR 9 0, oR 10 0] rfl ?_
            refine g_cV q110 rfl (g111 X 0 a1 a2 s2) rfl rfl rfl rfl rfl (fun s3 => ?_)
            refine g_p q110 1 62 [some (oR 0 0), some (vI a1), some (vI a2), some (vI a3)] [vI a3] rfl ?_
            refine g_i1 q110 rfl rfl ?_ ?_
            ·
              refine g_p q110 1 76 [some (oR 0 0), some (vI a1), some (vI a2), some (vI a3)] [oR 0 0] rfl ?_
              refine g_m (S := [oR 10 0]) (some (oR 10 0)) q110 rfl rfl rfl (fun _ => rfl) rfl ?_
              refine g_p q110 3 82 [some (oR 0 0), some (vI a1), some (vI a2), some (vI a3)] [vI (jsub a3 1), oR 10 0] rfl ?_
              refine g_cPI q110 rfl (g116 X (jsub a3 1) s3) rfl rfl rfl rfl rfl (fun r4 => ?_)
              exact g_ret q110 rfl rfl rfl
            ·
              refine g_p q110 1 66 [some (oR 0 0), some (vI a1), some (vI a2), some (vI a3)] [oR 0 0] rfl ?_
              refine g_m (S := [oR 10 0]) (some (oR 10 0)) q110 rfl rfl rfl (fun _ => rfl) rfl ?_
              refine g_get q110 rfl rfl rfl (fun _ => rfl) (fun v5 => ?_)
              refine g_p q110 1 85 [some (oR 0 0), some (vI a1), some (vI a2), some (vI a3)] [vI v5] rfl ?_
              exact g_ret q110 rfl rfl rfl
          ·
            refine g_p q110 1 36 [some (oR 0 0), some (vI a1), some (vI a2), some (vI a3)] [vI (-3)] rfl ?_
            exact g_ret q110 rfl rfl rfl
theorem q120 : am_cd 120 = am_c120 := rfl
theorem g120 (X : X2) (a0 : Nat) (a1 : Nat) (a2 : Int) (a3 : Int) (s : S2) (o : Option (AV R2) × S2) : J (f120 a0 a1 a2 a3 s) (fun (r : Int) => o = (some (vI r), s)) (Go X 4 120 0 (am_loc (am_nl 120) [oR 3 a0, oR 4 a1, vI a2, vI a3]) [] s o) := by
  show J _ _ (Go X 4 120 0 [some (oR 3 a0), some (oR 4 a1), some (vI a2), some (vI a3), none] [] s o)
  unfold f120
  refine g_p q120 2 2 [some (oR 3 a0), some (oR 4 a1), some (vI a2), some (vI a3), none] [vI (-1), vI a3] rfl ?_
  refine g_i2 q120 rfl rfl ?_ ?_
  ·
    refine g_p q120 3 11 [some (oR 3 a0), some (oR 4 a1), some (vI a2), some (vI a3), none] [vI (jrem a3 10)] rfl ?_
    refine g_top (fun v1 => ?_)
    refine g_p q120 3 16 [some (oR 3 a0), some (oR 4 a1), some (vI a2), some (vI a3), some (vI v1)] [vI v1, oR 3 a0] rfl ?_
    refine g_cPI q120 rfl (g49 X a0 v1 s) rfl rfl rfl rfl rfl (fun r2 => ?_)
    refine g_i1 q120 rfl rfl ?_ ?_
    ·
      refine g_p q120 1 52 [some (oR 3 a0), some (oR 4 a1), some (vI a2), some (vI a3), some (vI v1)] [vI 0] rfl ?_
      exact g_ret q120 rfl rfl rfl
    ·
      refine g_p q120 1 23 [some (oR 3 a0), some (oR 4 a1), some (vI a2), some (vI a3), some (vI v1)] [oR 3 a0] rfl ?_
      refine g_m (S := [aR 395 a0]) (some (aR 395 a0)) q120 rfl rfl rfl (fun _ => rfl) rfl ?_
      refine g_p q120 1 28 [some (oR 3 a0), some (oR 4 a1), some (vI a2), some (vI a3), some (vI v1)] [vI v1, aR 395 a0] rfl ?_
      refine g_ld q120 rfl rfl rfl rfl rfl rfl (fun v3 => ?_)
      refine g_p q120 1 30 [some (oR 3 a0), some (oR 4 a1), some (vI a2), some (vI a3), some (vI v1)] [vI a2, vI v3] rfl ?_
      refine g_i2 q120 rfl rfl ?_ ?_
      ·
        refine g_p q120 1 52 [some (oR 3 a0), some (oR 4 a1), some (vI a2), some (vI a3), some (vI v1)] [vI 0] rfl ?_
        exact g_ret q120 rfl rfl rfl
      ·
        refine g_p q120 6 41 [some (oR 3 a0), some (oR 4 a1), some (vI a2), some (vI a3), some (vI v1)] [vI (jdiv a3 10), vI v1, oR 3 a0, oR 4 a1] rfl ?_
        refine g_cPI q120 rfl (g48 X a1 a0 v1 (jdiv a3 10) s) rfl rfl rfl rfl rfl (fun r4 => ?_)
        refine g_i1 q120 rfl rfl ?_ ?_
        ·
          refine g_p q120 1 52 [some (oR 3 a0), some (oR 4 a1), some (vI a2), some (vI a3), some (vI v1)] [vI 0] rfl ?_
          exact g_ret q120 rfl rfl rfl
        ·
          refine g_p q120 2 52 [some (oR 3 a0), some (oR 4 a1), some (vI a2), some (vI a3), some (vI v1)] [vI 1] rfl ?_
          exact g_ret q120 rfl rfl rfl
  ·
    refine g_p q120 1 6 [some (oR 3 a0), some (oR 4 a1), some (vI a2), some (vI a3), none] [vI 1] rfl ?_
    exact g_ret q120 rfl rfl rfl
theorem q121 : am_cd 121 = am_c121 := rfl
theorem g121r (X : X2) (rf : Int → Int → Int → S2 → Option (Int × S2)) (D1 D : Nat) (hrf : ∀ (a b c : Int) (s : S2) (o : Option (AV R2) × S2), J (rf a b c s) (fun r => o = (some (vI r.1), r.2)) (Go X D1 119 0 (am_loc (am_nl 119) [oR 10 0, oR 9 0, vI a, vI b, vI c]) [] s o)) (hD : 5 ≤ D) (hD1 : Nat.ble (D1 + 1) D = true) (a2 : Int) (a3 : Int) (a4 : Int) (a5 : Int) (s : S2) (o : Option (AV R2) × S2) : J (f121r rf a2 a3 a4 a5 s) (fun (r : Int × S2) => o = (some (vI r.1), r.2)) (Go X D 121 0 (am_loc (am_nl 121) [oR 10 0, oR 9 0, vI a2, vI a3, vI a4, vI a5]) [] s o) := by
  show J _ _ (Go X D 121 0 [some (oR 10 0), some (oR 9 0), some (vI a2), some (vI a3), some (vI a4), some (vI a5)] [] s o)
  unfold f121r
  refine g_p q121 2 2 [some (oR 10 0), some (oR 9 0), some (vI a2), some (vI a3), some (vI a4), some (vI a5)] [vI (-1), vI a3] rfl ?_
  refine g_jn (fun j24 => ∀ (s1 : S2), J (j24 s1) (fun (r : Int × S2) => o = (some (vI r.1), r.2)) (Go X D 121 24 [some (oR 10 0), some (oR 9 0), some (vI a2), none, some (vI a4), some (vI a5)] [] s1 o)) ?_ (fun j24 hj24 => ?_)
  ·
    intro s1
    refine g_p q121 2 26 [some (oR 10 0), some (oR 9 0), some (vI a2), none, some (vI a4), some (vI a5)] [vI 0, oR 9 0] rfl ?_
    refine g_cRI q121 rfl (g94 X 0 s1) (am_bl hD rfl) rfl rfl rfl rfl (fun r2 s3 => ?_)
    refine g_p q121 8 39 [some (oR 10 0), some (oR 9 0), some (vI a2), none, some (vI a4), some (vI a5)] [vI a5, vI a4, vI (jadd a2 1), oR 9 0, oR 10 0] rfl ?_
    refine g_cRI q121 rfl (hrf (jadd a2 1) a4 a5 s3) hD1 rfl rfl rfl rfl (fun r4 s5 => ?_)
    exact g_ret q121 rfl rfl rfl
  ·
    refine g_i2 q121 rfl rfl ?_ ?_
    ·
      exact g_wkJ [true, true, true, false, true, true] rfl (hj24 s)
    ·
      refine g_p q121 1 6 [some (oR 10 0), some (oR 9 0), some (vI a2), some (vI a3), some (vI a4), some (vI a5)] [oR 9 0] rfl ?_
      refine g_m (S := [oR 4 160]) (some (oR 4 160)) q121 rfl (am_bl hD rfl) rfl (fun _ => rfl) rfl ?_
      refine g_p q121 1 10 [some (oR 10 0), some (oR 9 0), some (vI a2), some (vI a3), some (vI a4), some (vI a5)] [oR 9 0, oR 4 160] rfl ?_
      refine g_dyn q121 rfl (am_bl hD rfl) rfl (fun _ => rfl) (fun i6 => ?_)
      refine g_p q121 6 21 [some (oR 10 0), some (oR 9 0), some (vI a2), some (vI a3), some (vI a4), some (vI a5)] [vI (jdiv a3 10), vI (jrem a3 10), oR 3 i6, oR 4 160] rfl ?_
      refine g_cV q121 rfl (g54 X 160 i6 (jrem a3 10) (jdiv a3 10) s) (am_bl hD rfl) rfl rfl rfl rfl (fun s7 => ?_)
      exact g_wkJ [true, true, true, false, true, true] rfl (hj24 s7)
theorem q119 : am_cd 119 = am_c119 := rfl
def H119_a (X : X2) (D : Nat) (y13 : Int) (y14 : Int) (y15 : Int) (y16 : Nat) (y17 : Int) (y18 : Int) (o : Option (AV R2) × S2) (a : Int × Int × S2) : Prop := Go X D 119 114 [some (oR 10 0), some (oR 9 0), some (vI y13), some (vI y14), some (vI y15), some (oR 4 y16), some (vI y17), some (vI y18), some (vI (a.1)), some (vI (a.2.1)), none] [] (a.2.2) o
def E119_a (X : X2) (D : Nat) (y13 : Int) (y14 : Int) (y15 : Int) (y16 : Nat) (y17 : Int) (y18 : Int) (o : Option (AV R2) × S2) : (Int × S2) → Prop := (fun (r : Int × S2) => Go X D 119 249 [none, none, none, none, none, none, none, none, some (vI (r.1)), none, none] [] (r.2) o)
set_option maxRecDepth 20000 in
theorem g119_a (X : X2) (rf : Int → Int → Int → Int → S2 → Option (Int × S2)) (D1 D : Nat) (hrf : ∀ (a b c d : Int) (s : S2) (o : Option (AV R2) × S2), J (rf a b c d s) (fun r => o = (some (vI r.1), r.2)) (Go X D1 121 0 (am_loc (am_nl 121) [oR 10 0, oR 9 0, vI a, vI b, vI c, vI d]) [] s o)) (hD : 5 ≤ D) (hD1 : Nat.ble (D1 + 1) D = true) (y13 : Int) (y14 : Int) (y15 : Int) (y16 : Nat) (y17 : Int) (y18 : Int) (x19 : Int) (x20 : Int) (s21 : S2) (o : Option (AV R2) × S2) : J (f119_a rf y13 y14 y15 y16 y17 y18 x19 x20 s21) (am_kx (H119_a X D y13 y14 y15 y16 y17 y18 o) (E119_a X D y13 y14 y15 y16 y17 y18 o)) (Go X D 119 114 [some (oR 10 0), some (oR 9 0), some (vI y13), some (vI y14), some (vI y15), some (oR 4 y16), some (vI y17), some (vI y18), some (vI x19), some (vI x20), none] [] s21 o) := by
  unfold f119_a
  refine g_p q119 2 118 [some (oR 10 0), some (oR 9 0), some (vI y13), some (vI y14), some (vI y15), some (oR 4 y16), some (vI y17), some (vI y18), some (vI x19), some (vI x20), none] [vI 60, vI x20] rfl ?_
  refine g_i2 q119 rfl rfl ?_ ?_
  ·
    exact g_end (fun h => g_wk [false, false, false, false, false, false, false, false, true, false, false] rfl h)
  ·
    refine g_p q119 1 123 [some (oR 10 0), some (oR 9 0), some (vI y13), some (vI y14), some (vI y15), some (oR 4 y16), some (vI y17), some (vI y18), some (vI x19), some (vI x20), none] [vI y17] rfl ?_
    refine g_jn (fun j142 => ∀ (_ : Unit), J (j142 ()) (am_kx (H119_a X D y13 y14 y15 y16 y17 y18 o) (E119_a X D y13 y14 y15 y16 y17 y18 o)) (Go X D 119 142 [some (oR 10 0), some (oR 9 0), some (vI y13), some (vI y14), some (vI y15), some (oR 4 y16), some (vI y17), some (vI y18), some (vI x19), some (vI x20), none] [] s21 o)) ?_ (fun j142 hj142 => ?_)
    ·
      intro _
      refine g_p q119 1 143 [some (oR 10 0), some (oR 9 0), some (vI y13), some (vI y14), some (vI y15), some (oR 4 y16), some (vI y17), some (vI y18), some (vI x19), some (vI x20), none] [oR 9 0] rfl ?_
      refine g_dyn q119 rfl (am_bl hD rfl) rfl (fun _ => rfl) (fun i22 => ?_)
      refine g_p q119 3 152 [some (oR 10 0), some (oR 9 0), some (vI y13), some (vI y14), some (vI y15), some (oR 4 y16), some (vI y17), some (vI y18), some (vI x19), some (vI x20), none] [vI x20, vI y18, oR 4 y16, oR 3 i22] rfl ?_
      refine g_cPI q119 rfl (g120 X i22 y16 y18 x20 s21) (am_bl hD rfl) rfl rfl rfl rfl (fun r23 => ?_)
      refine g_i1 q119 rfl rfl ?_ ?_
      ·
        refine g_inc (fun v24 => [some (oR 10 0), some (oR 9 0), some (vI y13), some (vI y14), some (vI y15), some (oR 4 y16), some (vI y17), some (vI y18), some (vI x19), some (vI v24), none]) q119 rfl rfl (fun _ => rfl) (fun v24 => ?_)
        refine g_p q119 1 114 [some (oR 10 0), some (oR 9 0), some (vI y13), some (vI y14), some (vI y15), some (oR 4 y16), some (vI y17), some (vI y18), some (vI x19), some (vI v24), none] [] rfl ?_
        exact g_end (fun h => g_wk [true, true, true, true, true, true, true, true, true, true, false] rfl h)
      ·
        refine g_p q119 1 159 [some (oR 10 0), some (oR 9 0), some (vI y13), some (vI y14), some (vI y15), some (oR 4 y16), some (vI y17), some (vI y18), some (vI x19), some (vI x20), none] [oR 9 0] rfl ?_
        refine g_m (S := [oR 4 160]) (some (oR 4 160)) q119 rfl (am_bl hD rfl) rfl (fun _ => rfl) rfl ?_
        refine g_p q119 1 164 [some (oR 10 0), some (oR 9 0), some (vI y13), some (vI y14), some (vI y15), some (oR 4 y16), some (vI y17), some (vI y18), some (vI x19), some (vI x20), none] [oR 4 y16, oR 4 160] rfl ?_
        refine g_cV q119 rfl (g58 X 160 y16 s21) (am_bl hD rfl) rfl rfl rfl rfl (fun s25 => ?_)
        refine g_p q119 5 174 [some (oR 10 0), some (oR 9 0), some (vI y13), some (vI y14), some (vI y15), some (oR 4 y16), some (vI y17), some (vI y18), some (vI x19), some (vI x20), none] [vI y17, vI x20, vI y13, oR 9 0, oR 10 0] rfl ?_
        refine g_jn (fun j183 => ∀ (x26 : Int), J (j183 x26) (am_kx (H119_a X D y13 y14 y15 y16 y17 y18 o) (E119_a X D y13 y14 y15 y16 y17 y18 o)) (Go X D 119 183 [some (oR 10 0), some (oR 9 0), some (vI y13), some (vI y14), some (vI y15), some (oR 4 y16), some (vI y17), some (vI y18), some (vI x19), some (vI x20), none] [vI x26, vI x20, vI y13, oR 9 0, oR 10 0] s25 o)) ?_ (fun j183 hj183 => ?_)
        ·
          intro x26
          refine g_p q119 1 185 [some (oR 10 0), some (oR 9 0), some (vI y13), some (vI y14), some (vI y15), some (oR 4 y16), some (vI y17), some (vI y18), some (vI x19), some (vI x20), none] [vI y17, vI x26, vI x20, vI y13, oR 9 0, oR 10 0] rfl ?_
          refine g_jn (fun j195 => ∀ (x27 : Int), J (j195 x27) (am_kx (H119_a X D y13 y14 y15 y16 y17 y18 o) (E119_a X D y13 y14 y15 y16 y17 y18 o)) (Go X D 119 195 [some (oR 10 0), some (oR 9 0), some (vI y13), some (vI y14), some (vI y15), some (oR 4 y16), some (vI y17), some (vI y18), some (vI x19), some (vI x20), none] [vI x27, vI x26, vI x20, vI y13, oR 9 0, oR 10 0] s25 o)) ?_ (fun j195 hj195 => ?_)
          ·
            intro x27
            refine g_cRI q119 rfl (hrf y13 x20 x26 x27 s25) hD1 rfl rfl rfl rfl (fun r28 s29 => ?_)
            refine g_p q119 2 202 [some (oR 10 0), some (oR 9 0), some (vI y13), some (vI y14), some (vI y15), some (oR 4 y16), some (vI y17), some (vI y18), some (vI x19), some (vI x20), some (vI r28)] [vI y17] rfl ?_
            refine g_jn (fun j222 => ∀ (_ : Unit), J (j222 ()) (am_kx (H119_a X D y13 y14 y15 y16 y17 y18 o) (E119_a X D y13 y14 y15 y16 y17 y18 o)) (Go X D 119 222 [some (oR 10 0), some (oR 9 0), some (vI y13), some (vI y14), some (vI y15), some (oR 4 y16), some (vI y17), some (vI y18), none, some (vI x20), some (vI r28)] [] s29 o)) ?_ (fun j222 hj222 => ?_)
            ·
              intro _
              refine g_p q119 4 228 [some (oR 10 0), some (oR 9 0), some (vI y13), some (vI y14), some (vI y15), some (oR 4 y16), some (vI y17), some (vI y18), some (vI r28), some (vI x20), some (vI r28)] [vI y13, oR 10 0] rfl ?_
              refine g_jn (fun j240 => ∀ (x30 : Int), J (j240 x30) (am_kx (H119_a X D y13 y14 y15 y16 y17 y18 o) (E119_a X D y13 y14 y15 y16 y17 y18 o)) (Go X D 119 240 [some (oR 10 0), some (oR 9 0), some (vI y13), some (vI y14), some (vI y15), some (oR 4 y16), some (vI y17), some (vI y18), some (vI r28), some (vI x20), none] [vI x30, oR 10 0] s29 o)) ?_ (fun j240 hj240 => ?_)
              ·
                intro x30
                refine g_put q119 rfl (am_bl hD rfl) rfl (fun _ => rfl) (fun s31 => ?_)
                refine g_inc (fun v32 => [some (oR 10 0), some (oR 9 0), some (vI y13), some (vI y14), some (vI y15), some (oR 4 y16), some (vI y17), some (vI y18), some (vI r28), some (vI v32), none]) q119 rfl rfl (fun _ => rfl) (fun v32 => ?_)
                refine g_p q119 1 114 [some (oR 10 0), some (oR 9 0), some (vI y13), some (vI y14), some (vI y15), some (oR 4 y16), some (vI y17), some (vI y18), some (vI r28), some (vI v32), none] [] rfl ?_
                exact g_end (fun h => g_wk [true, true, true, true, true, true, true, true, true, true, false] rfl h)
              ·
                refine g_i1 q119 rfl rfl ?_ ?_
                ·
                  refine g_p q119 1 237 [some (oR 10 0), some (oR 9 0), some (vI y13), some (vI y14), some (vI y15), some (oR 4 y16), some (vI y17), some (vI y18), some (vI r28), some (vI x20), some (vI r28)] [oR 10 0, oR 10 0] rfl ?_
                  refine g_get q119 rfl (am_bl hD rfl) rfl (fun _ => rfl) (fun v33 => ?_)
                  exact g_wkJ [true, true, true, true, true, true, true, true, true, true, false] rfl (hj240 v33)
                ·
                  refine g_p q119 2 240 [some (oR 10 0), some (oR 9 0), some (vI y13), some (vI y14), some (vI y15), some (oR 4 y16), some (vI y17), some (vI y18), some (vI r28), some (vI x20), some (vI r28)] [vI x20, oR 10 0] rfl ?_
                  exact g_wkJ [true, true, true, true, true, true, true, true, true, true, false] rfl (hj240 x20)
            ·
              refine g_i1 q119 rfl rfl ?_ ?_
              ·
                refine g_p q119 2 219 [some (oR 10 0), some (oR 9 0), some (vI y13), some (vI y14), some (vI y15), some (oR 4 y16), some (vI y17), some (vI y18), some (vI x19), some (vI x20), some (vI r28)] [vI x19, vI r28] rfl ?_
                refine g_i2 q119 rfl rfl ?_ ?_
                ·
                  refine g_inc (fun v34 => [some (oR 10 0), some (oR 9 0), some (vI y13), some (vI y14), some (vI y15), some (oR 4 y16), some (vI y17), some (vI y18), some (vI x19), some (vI v34), some (vI r28)]) q119 rfl rfl (fun _ => rfl) (fun v34 => ?_)
                  refine g_p q119 1 114 [some (oR 10 0), some (oR 9 0), some (vI y13), some (vI y14), some (vI y15), some (oR 4 y16), some (vI y17), some (vI y18), some (vI x19), some (vI v34), some (vI r28)] [] rfl ?_
                  exact g_end (fun h => g_wk [true, true, true, true, true, true, true, true, true, true, false] rfl h)
                ·
                  exact g_wkJ [true, true, true, true, true, true, true, true, false, true, true] rfl (hj222 ())
              ·
                refine g_p q119 2 209 [some (oR 10 0), some (oR 9 0), some (vI y13), some (vI y14), some (vI y15), some (oR 4 y16), some (vI y17), some (vI y18), some (vI x19), some (vI x20), some (vI r28)] [vI x19, vI r28] rfl ?_
                refine g_i2 q119 rfl rfl ?_ ?_
                ·
                  refine g_inc (fun v35 => [some (oR 10 0), some (oR 9 0), some (vI y13), some (vI y14), some (vI y15), some (oR 4 y16), some (vI y17), some (vI y18), some (vI x19), some (vI v35), some (vI r28)]) q119 rfl rfl (fun _ => rfl) (fun v35 => ?_)
                  refine g_p q119 1 114 [some (oR 10 0), some (oR 9 0), some (vI y13), some (vI y14), some (vI y15), some (oR 4 y16), some (vI y17), some (vI y18), some (vI x19), some (vI v35), some (vI r28)] [] rfl ?_
                  exact g_end (fun h => g_wk [true, true, true, true, true, true, true, true, true, true, false] rfl h)
                ·
                  refine g_p q119 1 222 [some (oR 10 0), some (oR 9 0), some (vI y13), some (vI y14), some (vI y15), some (oR 4 y16), some (vI y17), some (vI y18), some (vI x19), some (vI x20), some (vI r28)] [] rfl ?_
                  exact g_wkJ [true, true, true, true, true, true, true, true, false, true, true] rfl (hj222 ())
          ·
            refine g_i1 q119 rfl rfl ?_ ?_
            ·
              refine g_p q119 1 195 [some (oR 10 0), some (oR 9 0), some (vI y13), some (vI y14), some (vI y15), some (oR 4 y16), some (vI y17), some (vI y18), some (vI x19), some (vI x20), none] [vI x19, vI x26, vI x20, vI y13, oR 9 0, oR 10 0] rfl ?_
              exact g_wkJ [true, true, true, true, true, true, true, true, true, true, false] rfl (hj195 x19)
            ·
              refine g_p q119 2 195 [some (oR 10 0), some (oR 9 0), some (vI y13), some (vI y14), some (vI y15), some (oR 4 y16), some (vI y17), some (vI y18), some (vI x19), some (vI x20), none] [vI y15, vI x26, vI x20, vI y13, oR 9 0, oR 10 0] rfl ?_
              exact g_wkJ [true, true, true, true, true, true, true, true, true, true, false] rfl (hj195 y15)
        ·
          refine g_i1 q119 rfl rfl ?_ ?_
          ·
            refine g_p q119 1 183 [some (oR 10 0), some (oR 9 0), some (vI y13), some (vI y14), some (vI y15), some (oR 4 y16), some (vI y17), some (vI y18), some (vI x19), some (vI x20), none] [vI y14, vI x20, vI y13, oR 9 0, oR 10 0] rfl ?_
            exact g_wkJ [true, true, true, true, true, true, true, true, true, true, false] rfl (hj183 y14)
          ·
            refine g_p q119 2 183 [some (oR 10 0), some (oR 9 0), some (vI y13), some (vI y14), some (vI y15), some (oR 4 y16), some (vI y17), some (vI y18), some (vI x19), some (vI x20), none] [vI x19, vI x20, vI y13, oR 9 0, oR 10 0] rfl ?_
            exact g_wkJ [true, true, true, true, true, true, true, true, true, true, false] rfl (hj183 x19)
    ·
      refine g_i1 q119 rfl rfl ?_ ?_
      ·
        refine g_p q119 2 139 [some (oR 10 0), some (oR 9 0), some (vI y13), some (vI y14), some (vI y15), some (oR 4 y16), some (vI y17), some (vI y18), some (vI x19), some (vI x20), none] [vI y14, vI x19] rfl ?_
        refine g_i2 q119 rfl rfl ?_ ?_
        ·
          exact g_end (fun h => g_wk [false, false, false, false, false, false, false, false, true, false, false] rfl h)
        ·
          exact g_wkJ [true, true, true, true, true, true, true, true, true, true, false] rfl (hj142 ())
      ·
        refine g_p q119 2 130 [some (oR 10 0), some (oR 9 0), some (vI y13), some (vI y14), some (vI y15), some (oR 4 y16), some (vI y17), some (vI y18), some (vI x19), some (vI x20), none] [vI y15, vI x19] rfl ?_
        refine g_i2 q119 rfl rfl ?_ ?_
        ·
          exact g_end (fun h => g_wk [false, false, false, false, false, false, false, false, true, false, false] rfl h)
        ·
          refine g_p q119 1 142 [some (oR 10 0), some (oR 9 0), some (vI y13), some (vI y14), some (vI y15), some (oR 4 y16), some (vI y17), some (vI y18), some (vI x19), some (vI x20), none] [] rfl ?_
          exact g_wkJ [true, true, true, true, true, true, true, true, true, true, false] rfl (hj142 ())
set_option maxRecDepth 20000 in
theorem g119r (X : X2) (rf : Int → Int → Int → Int → S2 → Option (Int × S2)) (D1 D : Nat) (hrf : ∀ (a b c d : Int) (s : S2) (o : Option (AV R2) × S2), J (rf a b c d s) (fun r => o = (some (vI r.1), r.2)) (Go X D1 121 0 (am_loc (am_nl 121) [oR 10 0, oR 9 0, vI a, vI b, vI c, vI d]) [] s o)) (hD : 5 ≤ D) (hD1 : Nat.ble (D1 + 1) D = true) (a2 : Int) (a3 : Int) (a4 : Int) (s : S2) (o : Option (AV R2) × S2) : J (f119r rf a2 a3 a4 s) (fun (r : Int × S2) => o = (some (vI r.1), r.2)) (Go X D 119 0 (am_loc (am_nl 119) [oR 10 0, oR 9 0, vI a2, vI a3, vI a4]) [] s o) := by
  show J _ _ (Go X D 119 0 [some (oR 10 0), some (oR 9 0), some (vI a2), some (vI a3), some (vI a4), none, none, none, none, none, none] [] s o)
  unfold f119r
  refine g_p q119 1 1 [some (oR 10 0), some (oR 9 0), some (vI a2), some (vI a3), some (vI a4), none, none, none, none, none, none] [vI a2] rfl ?_
  refine g_jn (fun j26 => ∀ (_ : Unit), J (j26 ()) (fun (r : Int × S2) => o = (some (vI r.1), r.2)) (Go X D 119 26 [some (oR 10 0), some (oR 9 0), some (vI a2), some (vI a3), some (vI a4), none, none, none, none, none, none] [] s o)) ?_ (fun j26 hj26 => ?_)
  ·
    intro _
    refine g_p q119 3 31 [some (oR 10 0), some (oR 9 0), some (vI a2), some (vI a3), some (vI a4), some (vN), none, none, none, none, none] [vN] rfl ?_
    refine g_p q119 2 35 [some (oR 10 0), some (oR 9 0), some (vI a2), some (vI a3), some (vI a4), some (vN), none, none, none, none, none] [oR 9 0] rfl ?_
    refine g_m (S := [oR 4 160]) (some (oR 4 160)) q119 rfl (am_bl hD rfl) rfl (fun _ => rfl) rfl ?_
    refine g_p q119 1 39 [some (oR 10 0), some (oR 9 0), some (vI a2), some (vI a3), some (vI a4), some (vN), none, none, none, none, none] [oR 10 0, oR 4 160] rfl ?_
    refine g_get q119 rfl (am_bl hD rfl) rfl (fun _ => rfl) (fun v1 => ?_)
    refine g_cPI q119 rfl (g115 X 160 v1 s) (am_bl hD rfl) rfl rfl rfl rfl (fun r2 => ?_)
    refine g_p q119 1 46 [some (oR 10 0), some (oR 9 0), some (vI a2), some (vI a3), some (vI a4), some (vN), none, none, none, none, none] [oR 9 0, vI r2] rfl ?_
    refine g_m (S := [oR 4 160, vI r2]) (some (oR 4 160)) q119 rfl (am_bl hD rfl) rfl (fun _ => rfl) rfl ?_
    refine g_p q119 1 50 [some (oR 10 0), some (oR 9 0), some (vI a2), some (vI a3), some (vI a4), some (vN), none, none, none, none, none] [oR 10 0, oR 4 160, vI r2] rfl ?_
    refine g_get q119 rfl (am_bl hD rfl) rfl (fun _ => rfl) (fun v3 => ?_)
    refine g_cPI q119 rfl (g115 X 160 v3 s) (am_bl hD rfl) rfl rfl rfl rfl (fun r4 => ?_)
    refine g_p q119 1 57 [some (oR 10 0), some (oR 9 0), some (vI a2), some (vI a3), some (vI a4), some (vN), none, none, none, none, none] [vI (jsub r2 r4)] rfl ?_
    refine g_top (fun v5 => ?_)
    exact g_ret q119 rfl rfl rfl
  ·
    refine g_i1 q119 rfl rfl ?_ ?_
    ·
      exact g_wkJ [true, true, true, true, true, false, false, false, false, false, false] rfl (hj26 ())
    ·
      refine g_p q119 2 6 [some (oR 10 0), some (oR 9 0), some (vI a2), some (vI a3), some (vI a4), none, none, none, none, none, none] [oR 10 0, vI a2] rfl ?_
      refine g_get q119 rfl (am_bl hD rfl) rfl (fun _ => rfl) (fun v6 => ?_)
      refine g_i2 q119 rfl rfl ?_ ?_
      ·
        exact g_wkJ [true, true, true, true, true, false, false, false, false, false, false] rfl (hj26 ())
      ·
        refine g_p q119 2 14 [some (oR 10 0), some (oR 9 0), some (vI a2), some (vI a3), some (vI a4), none, none, none, none, none, none] [vI 3, vI a2] rfl ?_
        refine g_i2 q119 rfl rfl ?_ ?_
        ·
          exact g_wkJ [true, true, true, true, true, false, false, false, false, false, false] rfl (hj26 ())
        ·
          refine g_p q119 1 18 [some (oR 10 0), some (oR 9 0), some (vI a2), some (vI a3), some (vI a4), none, none, none, none, none, none] [oR 10 0] rfl ?_
          refine g_m (S := [aR 1287 0]) (some (aR 1287 0)) q119 rfl (am_bl hD rfl) rfl (fun _ => rfl) rfl ?_
          refine g_p q119 1 22 [some (oR 10 0), some (oR 9 0), some (vI a2), some (vI a3), some (vI a4), none, none, none, none, none, none] [vI a2, aR 1287 0] rfl ?_
          refine g_ldr q119 rfl (am_bl hD rfl) rfl rfl rfl (fun i8 => ?_)
          refine g_p q119 3 31 [some (oR 10 0), some (oR 9 0), some (vI a2), some (vI a3), some (vI a4), some (oR 4 i8), none, none, none, none, none] [oR 4 i8] rfl ?_
          refine g_p q119 3 61 [some (oR 10 0), some (oR 9 0), some (vI a2), some (vI a3), some (vI a4), some (oR 4 i8), none, none, none, none, none] [oR 9 0, oR 4 i8] rfl ?_
          refine g_m (S := [oR 4 160, oR 4 i8]) (some (oR 4 160)) q119 rfl (am_bl hD rfl) rfl (fun _ => rfl) rfl ?_
          refine g_cV q119 rfl (g58 X i8 160 s) (am_bl hD rfl) rfl rfl rfl rfl (fun s9 => ?_)
          refine g_p q119 3 70 [some (oR 10 0), some (oR 9 0), some (vI a2), some (vI a3), some (vI a4), some (oR 4 i8), none, none, none, none, none] [vI (jrem a2 2)] rfl ?_
          refine g_jn (fun j78 => ∀ (x10 : Int), J (j78 x10) (fun (r : Int × S2) => o = (some (vI r.1), r.2)) (Go X D 119 78 [some (oR 10 0), some (oR 9 0), some (vI a2), some (vI a3), some (vI a4), some (oR 4 i8), none, none, none, none, none] [vI x10] s9 o)) ?_ (fun j78 hj78 => ?_)
          ·
            intro x10
            refine g_p q119 2 82 [some (oR 10 0), some (oR 9 0), some (vI a2), some (vI a3), some (vI a4), some (oR 4 i8), some (vI x10), none, none, none, none] [vI x10] rfl ?_
            refine g_jn (fun j96 => ∀ (x11 : Int), J (j96 x11) (fun (r : Int × S2) => o = (some (vI r.1), r.2)) (Go X D 119 96 [some (oR 10 0), some (oR 9 0), some (vI a2), some (vI a3), some (vI a4), some (oR 4 i8), some (vI x10), none, none, none, none] [vI x11] s9 o)) ?_ (fun j96 hj96 => ?_)
            ·
              intro x11
              refine g_p q119 2 100 [some (oR 10 0), some (oR 9 0), some (vI a2), some (vI a3), some (vI a4), some (oR 4 i8), some (vI x10), some (vI x11), none, none, none] [vI x10] rfl ?_
              refine g_jn (fun j109 => ∀ (x12 : Int), J (j109 x12) (fun (r : Int × S2) => o = (some (vI r.1), r.2)) (Go X D 119 109 [some (oR 10 0), some (oR 9 0), some (vI a2), some (vI a3), some (vI a4), some (oR 4 i8), some (vI x10), some (vI x11), none, none, none] [vI x12] s9 o)) ?_ (fun j109 hj109 => ?_)
              ·
                intro x12
                refine g_p q119 3 114 [some (oR 10 0), some (oR 9 0), some (vI a2), some (vI a3), some (vI a4), some (oR 4 i8), some (vI x10), some (vI x11), some (vI x12), some (vI (-1)), none] [] rfl ?_
                refine g_wkJ [true, true, true, true, true, true, true, true, true, true, false] (L0 := [some (oR 10 0), some (oR 9 0), some (vI a2), some (vI a3), some (vI a4), some (oR 4 i8), some (vI x10), some (vI x11), some (vI x12), some (vI (-1)), none]) rfl ?_
                refine g_itr (H119_a X D a2 a3 a4 i8 x10 x11 o) (E119_a X D a2 a3 a4 i8 x10 x11 o) (fun | (x19, x20, s21) => g119_a X rf D1 D hrf hD hD1 a2 a3 a4 i8 x10 x11 x19 x20 s21 o) ?_
                rintro ⟨z36, s37⟩
                show J _ _ (Go X D 119 249 [none, none, none, none, none, none, none, none, some (vI z36), none, none] [] s37 o)
                refine g_p q119 1 251 [none, none, none, none, none, none, none, none, some (vI z36), none, none] [vI z36] rfl ?_
                exact g_ret q119 rfl rfl rfl
              ·
                refine g_i1 q119 rfl rfl ?_ ?_
                ·
                  refine g_p q119 1 109 [some (oR 10 0), some (oR 9 0), some (vI a2), some (vI a3), some (vI a4), some (oR 4 i8), some (vI x10), some (vI x11), none, none, none] [vI a4] rfl ?_
                  exact g_wkJ [true, true, true, true, true, true, true, true, false, false, false] rfl (hj109 a4)
                ·
                  refine g_p q119 2 109 [some (oR 10 0), some (oR 9 0), some (vI a2), some (vI a3), some (vI a4), some (oR 4 i8), some (vI x10), some (vI x11), none, none, none] [vI a3] rfl ?_
                  exact g_wkJ [true, true, true, true, true, true, true, true, false, false, false] rfl (hj109 a3)
            ·
              refine g_i1 q119 rfl rfl ?_ ?_
              ·
                refine g_p q119 1 93 [some (oR 10 0), some (oR 9 0), some (vI a2), some (vI a3), some (vI a4), some (oR 4 i8), some (vI x10), none, none, none, none] [oR 10 0] rfl ?_
                refine g_get q119 rfl (am_bl hD rfl) rfl (fun _ => rfl) (fun v38 => ?_)
                exact g_wkJ [true, true, true, true, true, true, true, false, false, false, false] rfl (hj96 v38)
              ·
                refine g_p q119 1 86 [some (oR 10 0), some (oR 9 0), some (vI a2), some (vI a3), some (vI a4), some (oR 4 i8), some (vI x10), none, none, none, none] [oR 10 0] rfl ?_
                refine g_get q119 rfl (am_bl hD rfl) rfl (fun _ => rfl) (fun v39 => ?_)
                refine g_p q119 1 96 [some (oR 10 0), some (oR 9 0), some (vI a2), some (vI a3), some (vI a4), some (oR 4 i8), some (vI x10), none, none, none, none] [vI v39] rfl ?_
                exact g_wkJ [true, true, true, true, true, true, true, false, false, false, false] rfl (hj96 v39)
          ·
            refine g_i1 q119 rfl rfl ?_ ?_
            ·
              refine g_p q119 1 78 [some (oR 10 0), some (oR 9 0), some (vI a2), some (vI a3), some (vI a4), some (oR 4 i8), none, none, none, none, none] [vI 0] rfl ?_
              exact g_wkJ [true, true, true, true, true, true, false, false, false, false, false] rfl (hj78 0)
            ·
              refine g_p q119 2 78 [some (oR 10 0), some (oR 9 0), some (vI a2), some (vI a3), some (vI a4), some (oR 4 i8), none, none, none, none, none] [vI 1] rfl ?_
              exact g_wkJ [true, true, true, true, true, true, false, false, false, false, false] rfl (hj78 1)
theorem g119 (X : X2) : ∀ (q D : Nat), 7 + 2 * q ≤ D → ∀ (a b c : Int) (s : S2) (o : Option (AV R2) × S2), J (f119 q a b c s) (fun r => o = (some (vI r.1), r.2)) (Go X D 119 0 (am_loc (am_nl 119) [oR 10 0, oR 9 0, vI a, vI b, vI c]) [] s o)
  | 0, _, _, _, _, _, _, _ => g_no
  | q + 1, D, hD, a, b, c, s, o => g119r X (f121r (f119 q)) (D - 1) D (fun a b c d s o => g121r X (f119 q) (D - 2) (D - 1) (fun a b c s o => g119 X q (D - 2) (by omega) a b c s o) (by omega) (Nat.ble_eq_true_of_le (by omega)) a b c d s o) (by omega) (Nat.ble_eq_true_of_le (by omega)) a b c s o
theorem q118 : am_cd 118 = am_c118 := rfl
theorem g118 (X : X2) (a2 : Int) (a3 : Int) (a4 : Int) (s : S2) (o : Option (AV R2) × S2) : J (f118 a2 a3 a4 s) (fun (r : S2) => o = (none, r)) (Go X 200 118 0 (am_loc (am_nl 118) [oR 10 0, oR 9 0, vI a2, vI a3, vI a4]) [] s o) := by
  show J _ _ (Go X 200 118 0 [some (oR 10 0), some (oR 9 0), some (vI a2), some (vI a3), some (vI a4)] [] s o)
  unfold f118
  refine g_p q118 2 2 [some (oR 10 0), some (oR 9 0), some (vI a2), some (vI a3), some (vI a4)] [vI a2, oR 10 0] rfl ?_
  refine g_put q118 rfl rfl rfl (fun _ => rfl) (fun s1 => ?_)
  refine g_p q118 2 7 [some (oR 10 0), some (oR 9 0), some (vI a2), some (vI a3), some (vI a4)] [vI a3, oR 10 0] rfl ?_
  refine g_put q118 rfl rfl rfl (fun _ => rfl) (fun s2 => ?_)
  refine g_p q118 3 14 [some (oR 10 0), some (oR 9 0), some (vI a2), some (vI a3), some (vI a4)] [vI 3, vI a4, oR 10 0] rfl ?_
  refine g_m (S := [vI (jmin a4 3), oR 10 0]) (some (vI (jmin a4 3))) q118 rfl rfl rfl (fun _ => rfl) rfl ?_
  refine g_put q118 rfl rfl rfl (fun _ => rfl) (fun s3 => ?_)
  refine g_p q118 2 22 [some (oR 10 0), some (oR 9 0), some (vI a2), some (vI a3), some (vI a4)] [vI (-1), oR 10 0] rfl ?_
  refine g_put q118 rfl rfl rfl (fun _ => rfl) (fun s4 => ?_)
  refine g_p q118 6 33 [some (oR 10 0), some (oR 9 0), some (vI a2), some (vI a3), some (vI a4)] [vI 1000000, vI (-1000000), vI 0, oR 9 0, oR 10 0, oR 10 0] rfl ?_
  refine g_cRI q118 rfl (g119 X 5 150 (Nat.le_of_ble_eq_true rfl) 0 (-1000000) 1000000 s4) rfl rfl rfl rfl rfl (fun r5 s6 => ?_)
  refine g_put q118 rfl rfl rfl (fun _ => rfl) (fun s7 => ?_)
  exact g_retV q118 rfl rfl
theorem q117 : am_cd 117 = am_c117 := rfl
theorem g117 (X : X2) (a1 : Int) (a2 : Int) (a3 : Int) (a4 : Int) (s : S2) (o : Option (AV R2) × S2) : J (f117 a1 a2 a3 a4 s) (fun (r : Int × S2) => o = (some (vI r.1), r.2)) (Go X 201 117 0 (am_loc (am_nl 117) [oR 0 0, vI a1, vI a2, vI a3, vI a4]) [] s o) := by
  show J _ _ (Go X 201 117 0 [some (oR 0 0), some (vI a1), some (vI a2), some (vI a3), some (vI a4), none] [] s o)
  unfold f117
  refine g_p q117 1 1 [some (oR 0 0), some (vI a1), some (vI a2), some (vI a3), some (vI a4), none] [oR 0 0] rfl ?_
  refine g_m (S := [oR 8 0]) (some (oR 8 0)) q117 rfl rfl rfl (fun _ => rfl) rfl ?_
  refine g_m (S := [oR 3 0]) (some (oR 3 0)) q117 rfl rfl rfl (fun _ => rfl) rfl ?_
  refine g_p q117 1 8 [some (oR 0 0), some (vI a1), some (vI a2), some (vI a3), some (vI a4), none] [vI a1, oR 3 0] rfl ?_
  refine g_cPI q117 rfl (g51 X 0 a1 s) rfl rfl rfl rfl rfl (fun r1 => ?_)
  refine g_jn (fun j38 => ∀ (x2 : Int), J (j38 x2) (fun (r : Int × S2) => o = (some (vI r.1), r.2)) (Go X 201 117 38 [some (oR 0 0), some (vI a1), some (vI a2), some (vI a3), some (vI a4), none] [vI x2] s o)) ?_ (fun j38 hj38 => ?_)
  ·
    intro x2
    refine g_p q117 2 42 [some (oR 0 0), some (vI a1), some (vI a2), some (vI a3), some (vI a4), some (vI x2)] [vI x2] rfl ?_
    refine g_i1 q117 rfl rfl ?_ ?_
    ·
      refine g_p q117 1 68 [some (oR 0 0), some (vI a1), some (vI a2), some (vI a3), some (vI a4), some (vI x2)] [vI (-100000)] rfl ?_
      exact g_ret q117 rfl rfl rfl
    ·
      refine g_p q117 2 47 [some (oR 0 0), some (vI a1), some (vI a2), some (vI a3), some (vI a4), some (vI x2)] [vI 1, vI a3] rfl ?_
      refine g_i2 q117 rfl rfl ?_ ?_
      ·
        refine g_p q117 1 68 [some (oR 0 0), some (vI a1), some (vI a2), some (vI a3), some (vI a4), some (vI x2)] [vI (-100000)] rfl ?_
        exact g_ret q117 rfl rfl rfl
      ·
        refine g_p q117 2 52 [some (oR 0 0), some (vI a1), some (vI a2), some (vI a3), some (vI a4), some (vI x2)] [vI 3, vI a3] rfl ?_
        refine g_i2 q117 rfl rfl ?_ ?_
        ·
          refine g_p q117 1 68 [some (oR 0 0), some (vI a1), some (vI a2), some (vI a3), some (vI a4), some (vI x2)] [vI (-100000)] rfl ?_
          exact g_ret q117 rfl rfl rfl
        ·
          refine g_p q117 1 57 [some (oR 0 0), some (vI a1), some (vI a2), some (vI a3), some (vI a4), some (vI x2)] [vI a4] rfl ?_
          refine g_i1 q117 rfl rfl ?_ ?_
          ·
            refine g_p q117 1 68 [some (oR 0 0), some (vI a1), some (vI a2), some (vI a3), some (vI a4), some (vI x2)] [vI (-100000)] rfl ?_
            exact g_ret q117 rfl rfl rfl
          ·
            refine g_p q117 2 63 [some (oR 0 0), some (vI a1), some (vI a2), some (vI a3), some (vI a4), some (vI x2)] [vI 1, vI a4] rfl ?_
            refine g_i2 q117 rfl rfl ?_ ?_
            ·
              refine g_p q117 1 70 [some (oR 0 0), some (vI a1), some (vI a2), some (vI a3), some (vI a4), some (vI x2)] [oR 0 0] rfl ?_
              refine g_cV q117 rfl (g75 X s) rfl rfl rfl rfl rfl (fun s3 => ?_)
              refine g_p q117 1 74 [some (oR 0 0), some (vI a1), some (vI a2), some (vI a3), some (vI a4), some (vI x2)] [oR 0 0] rfl ?_
              refine g_m (S := [oR 10 0]) (some (oR 10 0)) q117 rfl rfl rfl (fun _ => rfl) rfl ?_
              refine g_p q117 1 78 [some (oR 0 0), some (vI a1), some (vI a2), some (vI a3), some (vI a4), some (vI x2)] [oR 0 0, oR 10 0] rfl ?_
              refine g_m (S := [oR 9 0, oR 10 0]) (some (oR 9 0)) q117 rfl rfl rfl (fun _ => rfl) rfl ?_
              refine g_p q117 3 84 [some (oR 0 0), some (vI a1), some (vI a2), some (vI a3), some (vI a4), some (vI x2)] [vI a3, vI a2, vI a1, oR 9 0, oR 10 0] rfl ?_
              refine g_cV q117 rfl (g118 X a1 a2 a3 s3) rfl rfl rfl rfl rfl (fun s4 => ?_)
              refine g_p q117 1 89 [some (oR 0 0), some (vI a1), some (vI a2), some (vI a3), some (vI a4), some (vI x2)] [vI a4] rfl ?_
              refine g_i1 q117 rfl rfl ?_ ?_
              ·
                refine g_p q117 1 103 [some (oR 0 0), some (vI a1), some (vI a2), some (vI a3), some (vI a4), some (vI x2)] [oR 0 0] rfl ?_
                refine g_m (S := [oR 10 0]) (some (oR 10 0)) q117 rfl rfl rfl (fun _ => rfl) rfl ?_
                refine g_get q117 rfl rfl rfl (fun _ => rfl) (fun v5 => ?_)
                exact g_ret q117 rfl rfl rfl
              ·
                refine g_p q117 1 93 [some (oR 0 0), some (vI a1), some (vI a2), some (vI a3), some (vI a4), some (vI x2)] [oR 0 0] rfl ?_
                refine g_m (S := [oR 10 0]) (some (oR 10 0)) q117 rfl rfl rfl (fun _ => rfl) rfl ?_
                refine g_get q117 rfl rfl rfl (fun _ => rfl) (fun v6 => ?_)
                refine g_p q117 1 109 [some (oR 0 0), some (vI a1), some (vI a2), some (vI a3), some (vI a4), some (vI x2)] [vI v6] rfl ?_
                exact g_ret q117 rfl rfl rfl
            ·
              refine g_p q117 1 68 [some (oR 0 0), some (vI a1), some (vI a2), some (vI a3), some (vI a4), some (vI x2)] [vI (-100000)] rfl ?_
              exact g_ret q117 rfl rfl rfl
  ·
    refine g_jn (fun j37 => ∀ (_ : Unit), J (j37 ()) (fun (r : Int × S2) => o = (some (vI r.1), r.2)) (Go X 201 117 37 [some (oR 0 0), some (vI a1), some (vI a2), some (vI a3), some (vI a4), none] [] s o)) ?_ (fun j37 hj37 => ?_)
    ·
      intro _
      refine g_p q117 1 38 [some (oR 0 0), some (vI a1), some (vI a2), some (vI a3), some (vI a4), none] [vI 0] rfl ?_
      exact g_wkJ [true, true, true, true, true, false] rfl (hj38 0)
    ·
      refine g_i1 q117 rfl rfl ?_ ?_
      ·
        exact g_wkJ [true, true, true, true, true, false] rfl (hj37 ())
      ·
        refine g_p q117 1 15 [some (oR 0 0), some (vI a1), some (vI a2), some (vI a3), some (vI a4), none] [oR 0 0] rfl ?_
        refine g_m (S := [oR 8 0]) (some (oR 8 0)) q117 rfl rfl rfl (fun _ => rfl) rfl ?_
        refine g_m (S := [oR 3 0]) (some (oR 3 0)) q117 rfl rfl rfl (fun _ => rfl) rfl ?_
        refine g_p q117 1 22 [some (oR 0 0), some (vI a1), some (vI a2), some (vI a3), some (vI a4), none] [vI a2, oR 3 0] rfl ?_
        refine g_cPI q117 rfl (g51 X 0 a2 s) rfl rfl rfl rfl rfl (fun r7 => ?_)
        refine g_i1 q117 rfl rfl ?_ ?_
        ·
          exact g_wkJ [true, true, true, true, true, false] rfl (hj37 ())
        ·
          refine g_p q117 2 30 [some (oR 0 0), some (vI a1), some (vI a2), some (vI a3), some (vI a4), none] [vI a2, vI a1] rfl ?_
          refine g_i2 q117 rfl rfl ?_ ?_
          ·
            exact g_wkJ [true, true, true, true, true, false] rfl (hj37 ())
          ·
            refine g_p q117 2 38 [some (oR 0 0), some (vI a1), some (vI a2), some (vI a3), some (vI a4), none] [vI 1] rfl ?_
            exact g_wkJ [true, true, true, true, true, false] rfl (hj38 1)
theorem q124 : am_cd 124 = am_c124 := rfl
def H124_a (X : X2) (y1 : Nat) (s4 : S2) (o : Option (AV R2) × S2) (a : Int × Int) : Prop := Go X 1 124 4 [some (oR 4 y1), some (vI (a.1)), some (vI (a.2))] [] s4 o
def E124_a (X : X2) (y1 : Nat) (s4 : S2) (o : Option (AV R2) × S2) : (Int) → Prop := (fun (r : Int) => Go X 1 124 32 [none, some (vI r), none] [] s4 o)
theorem g124_a (X : X2) (y1 : Nat) (x2 : Int) (x3 : Int) (s4 : S2) (o : Option (AV R2) × S2) : J (f124_a y1 x2 x3 s4) (am_kx (H124_a X y1 s4 o) (E124_a X y1 s4 o)) (Go X 1 124 4 [some (oR 4 y1), some (vI x2), some (vI x3)] [] s4 o) := by
  unfold f124_a
  refine g_p q124 2 7 [some (oR 4 y1), some (vI x2), some (vI x3)] [vI 10, vI x3] rfl ?_
  refine g_i2 q124 rfl rfl ?_ ?_
  ·
    exact g_end (fun h => g_wk [false, true, false] rfl h)
  ·
    refine g_p q124 1 11 [some (oR 4 y1), some (vI x2), some (vI x3)] [oR 4 y1] rfl ?_
    refine g_m (S := [aR 515 y1]) (some (aR 515 y1)) q124 rfl rfl rfl (fun _ => rfl) rfl ?_
    refine g_p q124 1 15 [some (oR 4 y1), some (vI x2), some (vI x3)] [vI x3, aR 515 y1] rfl ?_
    refine g_ld q124 rfl rfl rfl rfl rfl rfl (fun v5 => ?_)
    refine g_p q124 1 17 [some (oR 4 y1), some (vI x2), some (vI x3)] [vI (-1), vI v5] rfl ?_
    refine g_i2 q124 rfl rfl ?_ ?_
    ·
      refine g_inc (fun v6 => [some (oR 4 y1), some (vI x2), some (vI v6)]) q124 rfl rfl (fun _ => rfl) (fun v6 => ?_)
      refine g_p q124 1 4 [some (oR 4 y1), some (vI x2), some (vI v6)] [] rfl ?_
      exact g_end (fun h => g_wk [true, true, true] rfl h)
    ·
      refine g_p q124 5 25 [some (oR 4 y1), some (vI x2), some (vI x3)] [vI (jor x2 (jshl 1 x3))] rfl ?_
      refine g_top (fun v7 => ?_)
      refine g_p q124 1 26 [some (oR 4 y1), some (vI v7), some (vI x3)] [] rfl ?_
      refine g_inc (fun v8 => [some (oR 4 y1), some (vI v7), some (vI v8)]) q124 rfl rfl (fun _ => rfl) (fun v8 => ?_)
      refine g_p q124 1 4 [some (oR 4 y1), some (vI v7), some (vI v8)] [] rfl ?_
      exact g_end (fun h => g_wk [true, true, true] rfl h)
theorem g124 (X : X2) (a0 : Nat) (s : S2) (o : Option (AV R2) × S2) : J (f124 a0 s) (fun (r : Int) => o = (some (vI r), s)) (Go X 1 124 0 (am_loc (am_nl 124) [oR 4 a0]) [] s o) := by
  show J _ _ (Go X 1 124 0 [some (oR 4 a0), none, none] [] s o)
  unfold f124
  refine g_p q124 4 4 [some (oR 4 a0), some (vI 0), some (vI 0)] [] rfl ?_
  refine g_wkJ [true, true, true] (L0 := [some (oR 4 a0), some (vI 0), some (vI 0)]) rfl ?_
  refine g_itr (H124_a X a0 s o) (E124_a X a0 s o) (fun | (x2, x3) => g124_a X a0 x2 x3 s o) ?_
  intro z9
  show J _ _ (Go X 1 124 32 [none, some (vI z9), none] [] s o)
  refine g_p q124 1 33 [none, some (vI z9), none] [vI z9] rfl ?_
  exact g_ret q124 rfl rfl rfl
theorem q273 : am_cd 273 = am_c273 := rfl
theorem g273 (X : X2) (a0 : Int) (s : S2) (o : Option (AV R2) × S2) : J (f273 a0) (fun (r : Int) => o = (some (vI r), s)) (Go X 1 273 0 (am_loc (am_nl 273) [vI a0]) [] s o) := by
  show J _ _ (Go X 1 273 0 [some (vI a0)] [] s o)
  unfold f273
  refine g_p q273 7 9 [some (vI a0)] [vI (jsub a0 (jand (jushr a0 1) 1431655765))] rfl ?_
  refine g_top (fun v1 => ?_)
  refine g_p q273 10 23 [some (vI v1)] [vI (jadd (jand v1 858993459) (jand (jushr v1 2) 858993459))] rfl ?_
  refine g_top (fun v2 => ?_)
  refine g_p q273 8 33 [some (vI v2)] [vI (jand (jadd v2 (jushr v2 4)) 252645135)] rfl ?_
  refine g_top (fun v3 => ?_)
  refine g_p q273 6 40 [some (vI v3)] [vI (jadd v3 (jushr v3 8))] rfl ?_
  refine g_top (fun v4 => ?_)
  refine g_p q273 6 47 [some (vI v4)] [vI (jadd v4 (jushr v4 16))] rfl ?_
  refine g_top (fun v5 => ?_)
  refine g_p q273 4 52 [some (vI v5)] [vI (jand v5 63)] rfl ?_
  refine g_top (fun v6 => ?_)
  exact g_ret q273 rfl rfl rfl
theorem q125 : am_cd 125 = am_c125 := rfl
def H125_a (X : X2) (y1 : Int) (y2 : Int) (y3 : Int) (o : Option (AV R2) × S2) (a : Int × S2) : Prop := Go X 5 125 3 [some (oR 9 0), some (vI y1), some (vI y2), some (vI y3), some (vI (a.1))] [] (a.2) o
def E125_a (X : X2) (y1 : Int) (y2 : Int) (y3 : Int) (o : Option (AV R2) × S2) : (S2) ⊕ (S2) → Prop := (am_kx (fun (r : S2) => Go X 5 125 40 [none, none, none, none, none] [] r o) (fun (r : S2) => Go X 5 125 82 [none, none, none, none, none] [] r o))
theorem g125_a (X : X2) (y1 : Int) (y2 : Int) (y3 : Int) (x4 : Int) (s5 : S2) (o : Option (AV R2) × S2) : J (f125_a y1 y2 y3 x4 s5) (am_kx (H125_a X y1 y2 y3 o) (E125_a X y1 y2 y3 o)) (Go X 5 125 3 [some (oR 9 0), some (vI y1), some (vI y2), some (vI y3), some (vI x4)] [] s5 o) := by
  unfold f125_a
  refine g_p q125 2 7 [some (oR 9 0), some (vI y1), some (vI y2), some (vI y3), some (vI x4)] [vI 10, vI x4] rfl ?_
  refine g_i2 q125 rfl rfl ?_ ?_
  ·
    exact g_end (fun h => g_wk [false, false, false, false, false] rfl h)
  ·
    refine g_p q125 5 16 [some (oR 9 0), some (vI y1), some (vI y2), some (vI y3), some (vI x4)] [vI (jand (jshr y1 x4) 1)] rfl ?_
    refine g_i1 q125 rfl rfl ?_ ?_
    ·
      refine g_inc (fun v6 => [some (oR 9 0), some (vI y1), some (vI y2), some (vI y3), some (vI v6)]) q125 rfl rfl (fun _ => rfl) (fun v6 => ?_)
      refine g_p q125 1 3 [some (oR 9 0), some (vI y1), some (vI y2), some (vI y3), some (vI v6)] [] rfl ?_
      exact g_end (fun h => g_wk [true, true, true, true, true] rfl h)
    ·
      refine g_p q125 1 20 [some (oR 9 0), some (vI y1), some (vI y2), some (vI y3), some (vI x4)] [vI y3] rfl ?_
      refine g_jn (fun j42 => ∀ (_ : Unit), J (j42 ()) (am_kx (H125_a X y1 y2 y3 o) (E125_a X y1 y2 y3 o)) (Go X 5 125 42 [some (oR 9 0), some (vI y1), some (vI y2), some (vI y3), some (vI x4)] [] s5 o)) ?_ (fun j42 hj42 => ?_)
      ·
        intro _
        refine g_p q125 1 43 [some (oR 9 0), some (vI y1), some (vI y2), some (vI y3), some (vI x4)] [vI y3] rfl ?_
        refine g_i1 q125 rfl rfl ?_ ?_
        ·
          refine g_p q125 1 64 [some (oR 9 0), some (vI y1), some (vI y2), some (vI y3), some (vI x4)] [oR 9 0] rfl ?_
          refine g_m (S := [oR 4 160]) (some (oR 4 160)) q125 rfl rfl rfl (fun _ => rfl) rfl ?_
          refine g_p q125 1 68 [some (oR 9 0), some (vI y1), some (vI y2), some (vI y3), some (vI x4)] [oR 9 0, oR 4 160] rfl ?_
          refine g_dyn q125 rfl rfl rfl (fun _ => rfl) (fun i7 => ?_)
          refine g_p q125 1 73 [some (oR 9 0), some (vI y1), some (vI y2), some (vI y3), some (vI x4)] [vI x4, oR 3 i7, oR 4 160] rfl ?_
          refine g_cV q125 rfl (g99 X 160 i7 x4 s5) rfl rfl rfl rfl rfl (fun s8 => ?_)
          refine g_inc (fun v9 => [some (oR 9 0), some (vI y1), some (vI y2), some (vI y3), some (vI v9)]) q125 rfl rfl (fun _ => rfl) (fun v9 => ?_)
          refine g_p q125 1 3 [some (oR 9 0), some (vI y1), some (vI y2), some (vI y3), some (vI v9)] [] rfl ?_
          exact g_end (fun h => g_wk [true, true, true, true, true] rfl h)
        ·
          refine g_p q125 1 47 [some (oR 9 0), some (vI y1), some (vI y2), some (vI y3), some (vI x4)] [oR 9 0] rfl ?_
          refine g_m (S := [oR 4 160]) (some (oR 4 160)) q125 rfl rfl rfl (fun _ => rfl) rfl ?_
          refine g_p q125 1 51 [some (oR 9 0), some (vI y1), some (vI y2), some (vI y3), some (vI x4)] [oR 9 0, oR 4 160] rfl ?_
          refine g_dyn q125 rfl rfl rfl (fun _ => rfl) (fun i10 => ?_)
          refine g_p q125 2 57 [some (oR 9 0), some (vI y1), some (vI y2), some (vI y3), some (vI x4)] [vI y2, vI x4, oR 3 i10, oR 4 160] rfl ?_
          refine g_cV q125 rfl (g54 X 160 i10 x4 y2 s5) rfl rfl rfl rfl rfl (fun s11 => ?_)
          refine g_p q125 1 76 [some (oR 9 0), some (vI y1), some (vI y2), some (vI y3), some (vI x4)] [] rfl ?_
          refine g_inc (fun v12 => [some (oR 9 0), some (vI y1), some (vI y2), some (vI y3), some (vI v12)]) q125 rfl rfl (fun _ => rfl) (fun v12 => ?_)
          refine g_p q125 1 3 [some (oR 9 0), some (vI y1), some (vI y2), some (vI y3), some (vI v12)] [] rfl ?_
          exact g_end (fun h => g_wk [true, true, true, true, true] rfl h)
      ·
        refine g_i1 q125 rfl rfl ?_ ?_
        ·
          exact g_wkJ [true, true, true, true, true] rfl (hj42 ())
        ·
          refine g_p q125 1 24 [some (oR 9 0), some (vI y1), some (vI y2), some (vI y3), some (vI x4)] [oR 9 0] rfl ?_
          refine g_m (S := [oR 4 160]) (some (oR 4 160)) q125 rfl rfl rfl (fun _ => rfl) rfl ?_
          refine g_p q125 1 28 [some (oR 9 0), some (vI y1), some (vI y2), some (vI y3), some (vI x4)] [oR 9 0, oR 4 160] rfl ?_
          refine g_dyn q125 rfl rfl rfl (fun _ => rfl) (fun i13 => ?_)
          refine g_p q125 2 34 [some (oR 9 0), some (vI y1), some (vI y2), some (vI y3), some (vI x4)] [vI y2, vI x4, oR 3 i13, oR 4 160] rfl ?_
          refine g_cPI q125 rfl (g48 X 160 i13 x4 y2 s5) rfl rfl rfl rfl rfl (fun r14 => ?_)
          refine g_i1 q125 rfl rfl ?_ ?_
          ·
            exact g_wkJ [true, true, true, true, true] rfl (hj42 ())
          ·
            exact g_end (fun h => g_wk [false, false, false, false, false] rfl h)
theorem g125 (X : X2) (a1 : Int) (a2 : Int) (a3 : Int) (s : S2) (o : Option (AV R2) × S2) : J (f125 a1 a2 a3 s) (fun (r : Int × S2) => o = (some (vI r.1), r.2)) (Go X 5 125 0 (am_loc (am_nl 125) [oR 9 0, vI a1, vI a2, vI a3]) [] s o) := by
  show J _ _ (Go X 5 125 0 [some (oR 9 0), some (vI a1), some (vI a2), some (vI a3), none] [] s o)
  unfold f125
  refine g_p q125 2 3 [some (oR 9 0), some (vI a1), some (vI a2), some (vI a3), some (vI 0)] [] rfl ?_
  refine g_wkJ [true, true, true, true, true] (L0 := [some (oR 9 0), some (vI a1), some (vI a2), some (vI a3), some (vI 0)]) rfl ?_
  refine g_itr (H125_a X a1 a2 a3 o) (E125_a X a1 a2 a3 o) (fun | (x4, s5) => g125_a X a1 a2 a3 x4 s5 o) ?_
  refine g_se ?_ ?_
  ·
    intro s15
    show J _ _ (Go X 5 125 40 [none, none, none, none, none] [] s15 o)
    refine g_p q125 1 41 [none, none, none, none, none] [vI 0] rfl ?_
    exact g_ret q125 rfl rfl rfl
  ·
    intro s16
    show J _ _ (Go X 5 125 82 [none, none, none, none, none] [] s16 o)
    refine g_p q125 1 83 [none, none, none, none, none] [vI 1] rfl ?_
    exact g_ret q125 rfl rfl rfl
