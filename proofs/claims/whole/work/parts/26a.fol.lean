/-! THE SMALL MACHINE FOLLOWS THE FUNCTIONS, written by a program (gen_fn.py) -/
theorem q5 : am_cd 5 = am_c5 := rfl
def H5_a (X : X2) (y2 : Nat) (o : Option (AV R2) × S2) (a : Int × S2) : Prop := Go X 1 5 7 [some (oR 4 y2), some (vI (a.1))] [] (a.2) o
def E5_a (X : X2) (y2 : Nat) (o : Option (AV R2) × S2) : (S2) → Prop := (fun (r : S2) => Go X 1 5 33 [some (oR 4 y2), none] [] r o)
theorem g5_a (X : X2) (y2 : Nat) (x3 : Int) (s4 : S2) (o : Option (AV R2) × S2) : J (f5_a y2 x3 s4) (am_kx (H5_a X y2 o) (E5_a X y2 o)) (Go X 1 5 7 [some (oR 4 y2), some (vI x3)] [] s4 o) := by
  unfold f5_a
  refine g_p q5 2 10 [some (oR 4 y2), some (vI x3)] [vI 6, vI x3] rfl ?_
  refine g_i2 q5 rfl rfl ?_ ?_
  ·
    exact g_end (fun h => g_wk [true, false] rfl h)
  ·
    refine g_p q5 1 14 [some (oR 4 y2), some (vI x3)] [oR 4 y2] rfl ?_
    refine g_m (S := [aR 513 y2]) (some (aR 513 y2)) q5 rfl rfl rfl (fun _ => rfl) rfl ?_
    refine g_p q5 2 19 [some (oR 4 y2), some (vI x3)] [vI (-1), vI x3, aR 513 y2] rfl ?_
    refine g_sto q5 rfl rfl rfl rfl (fun s5 => ?_)
    refine g_p q5 1 21 [some (oR 4 y2), some (vI x3)] [oR 4 y2] rfl ?_
    refine g_m (S := [aR 514 y2]) (some (aR 514 y2)) q5 rfl rfl rfl (fun _ => rfl) rfl ?_
    refine g_p q5 2 26 [some (oR 4 y2), some (vI x3)] [vI 0, vI x3, aR 514 y2] rfl ?_
    refine g_sto q5 rfl rfl rfl rfl (fun s6 => ?_)
    refine g_inc (fun v7 => [some (oR 4 y2), some (vI v7)]) q5 rfl rfl (fun _ => rfl) (fun v7 => ?_)
    refine g_p q5 1 7 [some (oR 4 y2), some (vI v7)] [] rfl ?_
    exact g_end (fun h => g_wk [true, true] rfl h)
def H5_b (X : X2) (y9 : Nat) (o : Option (AV R2) × S2) (a : Int × S2) : Prop := Go X 1 5 35 [some (oR 4 y9), some (vI (a.1))] [] (a.2) o
def E5_b (X : X2) (y9 : Nat) (o : Option (AV R2) × S2) : (S2) → Prop := (fun (r : S2) => Go X 1 5 61 [some (oR 4 y9), none] [] r o)
theorem g5_b (X : X2) (y9 : Nat) (x10 : Int) (s11 : S2) (o : Option (AV R2) × S2) : J (f5_b y9 x10 s11) (am_kx (H5_b X y9 o) (E5_b X y9 o)) (Go X 1 5 35 [some (oR 4 y9), some (vI x10)] [] s11 o) := by
  unfold f5_b
  refine g_p q5 2 38 [some (oR 4 y9), some (vI x10)] [vI 10, vI x10] rfl ?_
  refine g_i2 q5 rfl rfl ?_ ?_
  ·
    exact g_end (fun h => g_wk [true, false] rfl h)
  ·
    refine g_p q5 1 42 [some (oR 4 y9), some (vI x10)] [oR 4 y9] rfl ?_
    refine g_m (S := [aR 515 y9]) (some (aR 515 y9)) q5 rfl rfl rfl (fun _ => rfl) rfl ?_
    refine g_p q5 2 47 [some (oR 4 y9), some (vI x10)] [vI (-1), vI x10, aR 515 y9] rfl ?_
    refine g_sto q5 rfl rfl rfl rfl (fun s12 => ?_)
    refine g_p q5 1 49 [some (oR 4 y9), some (vI x10)] [oR 4 y9] rfl ?_
    refine g_m (S := [aR 516 y9]) (some (aR 516 y9)) q5 rfl rfl rfl (fun _ => rfl) rfl ?_
    refine g_p q5 2 54 [some (oR 4 y9), some (vI x10)] [vI 0, vI x10, aR 516 y9] rfl ?_
    refine g_sto q5 rfl rfl rfl rfl (fun s13 => ?_)
    refine g_inc (fun v14 => [some (oR 4 y9), some (vI v14)]) q5 rfl rfl (fun _ => rfl) (fun v14 => ?_)
    refine g_p q5 1 35 [some (oR 4 y9), some (vI v14)] [] rfl ?_
    exact g_end (fun h => g_wk [true, true] rfl h)
def H5_c (X : X2) (y16 : Nat) (o : Option (AV R2) × S2) (a : Int × S2) : Prop := Go X 1 5 63 [some (oR 4 y16), some (vI (a.1))] [] (a.2) o
def E5_c (X : X2) (y16 : Nat) (o : Option (AV R2) × S2) : (S2) → Prop := (fun (r : S2) => Go X 1 5 88 [none, none] [] r o)
theorem g5_c (X : X2) (y16 : Nat) (x17 : Int) (s18 : S2) (o : Option (AV R2) × S2) : J (f5_c y16 x17 s18) (am_kx (H5_c X y16 o) (E5_c X y16 o)) (Go X 1 5 63 [some (oR 4 y16), some (vI x17)] [] s18 o) := by
  unfold f5_c
  refine g_p q5 2 65 [some (oR 4 y16), some (vI x17)] [vI 4, vI x17] rfl ?_
  refine g_i2 q5 rfl rfl ?_ ?_
  ·
    exact g_end (fun h => g_wk [false, false] rfl h)
  ·
    refine g_p q5 1 69 [some (oR 4 y16), some (vI x17)] [oR 4 y16] rfl ?_
    refine g_m (S := [aR 517 y16]) (some (aR 517 y16)) q5 rfl rfl rfl (fun _ => rfl) rfl ?_
    refine g_p q5 2 74 [some (oR 4 y16), some (vI x17)] [vI 0, vI x17, aR 517 y16] rfl ?_
    refine g_sto q5 rfl rfl rfl rfl (fun s19 => ?_)
    refine g_p q5 1 76 [some (oR 4 y16), some (vI x17)] [oR 4 y16] rfl ?_
    refine g_m (S := [aR 518 y16]) (some (aR 518 y16)) q5 rfl rfl rfl (fun _ => rfl) rfl ?_
    refine g_p q5 2 81 [some (oR 4 y16), some (vI x17)] [vI 0, vI x17, aR 518 y16] rfl ?_
    refine g_sto q5 rfl rfl rfl rfl (fun s20 => ?_)
    refine g_inc (fun v21 => [some (oR 4 y16), some (vI v21)]) q5 rfl rfl (fun _ => rfl) (fun v21 => ?_)
    refine g_p q5 1 63 [some (oR 4 y16), some (vI v21)] [] rfl ?_
    exact g_end (fun h => g_wk [true, true] rfl h)
theorem g5 (X : X2) (a0 : Nat) (s : S2) (o : Option (AV R2) × S2) : J (f5 a0 s) (fun (r : S2) => o = (none, r)) (Go X 1 5 0 (am_loc (am_nl 5) [oR 4 a0]) [] s o) := by
  show J _ _ (Go X 1 5 0 [some (oR 4 a0), none] [] s o)
  unfold f5
  refine g_p q5 2 2 [some (oR 4 a0), none] [vI 0, oR 4 a0] rfl ?_
  refine g_put q5 rfl rfl rfl (fun _ => rfl) (fun s1 => ?_)
  refine g_p q5 2 7 [some (oR 4 a0), some (vI 0)] [] rfl ?_
  refine g_wkJ [true, true] (L0 := [some (oR 4 a0), some (vI 0)]) rfl ?_
  refine g_itr (H5_a X a0 o) (E5_a X a0 o) (fun | (x3, s4) => g5_a X a0 x3 s4 o) ?_
  intro s8
  show J _ _ (Go X 1 5 33 [some (oR 4 a0), none] [] s8 o)
  refine g_p q5 2 35 [some (oR 4 a0), some (vI 0)] [] rfl ?_
  refine g_wkJ [true, true] (L0 := [some (oR 4 a0), some (vI 0)]) rfl ?_
  refine g_itr (H5_b X a0 o) (E5_b X a0 o) (fun | (x10, s11) => g5_b X a0 x10 s11 o) ?_
  intro s15
  show J _ _ (Go X 1 5 61 [some (oR 4 a0), none] [] s15 o)
  refine g_p q5 2 63 [some (oR 4 a0), some (vI 0)] [] rfl ?_
  refine g_wkJ [true, true] (L0 := [some (oR 4 a0), some (vI 0)]) rfl ?_
  refine g_itr (H5_c X a0 o) (E5_c X a0 o) (fun | (x17, s18) => g5_c X a0 x17 s18 o) ?_
  intro s22
  show J _ _ (Go X 1 5 88 [none, none] [] s22 o)
  exact g_retV q5 rfl rfl
theorem q9 : am_cd 9 = am_c9 := rfl
theorem g9 (X : X2) (a0 : Nat) (a1 : Int) (s : S2) (o : Option (AV R2) × S2) : J (f9 a0 a1 s) (fun (r : S2) => o = (none, r)) (Go X 1 9 0 (am_loc (am_nl 9) [oR 6 a0, vI a1]) [] s o) := by
  show J _ _ (Go X 1 9 0 [some (oR 6 a0), some (vI a1)] [] s o)
  unfold f9
  refine g_p q9 1 1 [some (oR 6 a0), some (vI a1)] [oR 6 a0] rfl ?_
  refine g_get q9 rfl rfl rfl (fun _ => rfl) (fun v1 => ?_)
  refine g_i1 q9 rfl rfl ?_ ?_
  ·
    exact g_retV q9 rfl rfl
  ·
    refine g_p q9 1 8 [some (oR 6 a0), some (vI a1)] [oR 6 a0] rfl ?_
    refine g_get q9 rfl rfl rfl (fun _ => rfl) (fun v2 => ?_)
    refine g_p q9 1 12 [some (oR 6 a0), some (vI a1)] [oR 6 a0, vI v2] rfl ?_
    refine g_m (S := [aR 768 a0, vI v2]) (some (aR 768 a0)) q9 rfl rfl rfl (fun _ => rfl) rfl ?_
    refine g_m (S := [vI 400, vI v2]) (some (vI 400)) q9 rfl rfl rfl (fun _ => rfl) rfl ?_
    refine g_i2 q9 rfl rfl ?_ ?_
    ·
      exact g_retV q9 rfl rfl
    ·
      refine g_p q9 1 20 [some (oR 6 a0), some (vI a1)] [oR 6 a0] rfl ?_
      refine g_m (S := [aR 768 a0]) (some (aR 768 a0)) q9 rfl rfl rfl (fun _ => rfl) rfl ?_
      refine g_p q9 1 24 [some (oR 6 a0), some (vI a1)] [oR 6 a0, aR 768 a0] rfl ?_
      refine g_get q9 rfl rfl rfl (fun _ => rfl) (fun v3 => ?_)
      refine g_p q9 1 28 [some (oR 6 a0), some (vI a1)] [vI a1, vI v3, aR 768 a0] rfl ?_
      refine g_sto q9 rfl rfl rfl rfl (fun s4 => ?_)
      refine g_p q9 2 31 [some (oR 6 a0), some (vI a1)] [oR 6 a0, oR 6 a0] rfl ?_
      refine g_get q9 rfl rfl rfl (fun _ => rfl) (fun v5 => ?_)
      refine g_p q9 2 36 [some (oR 6 a0), some (vI a1)] [vI (jadd v5 1), oR 6 a0] rfl ?_
      refine g_put q9 rfl rfl rfl (fun _ => rfl) (fun s6 => ?_)
      exact g_retV q9 rfl rfl
theorem q15 : am_cd 15 = am_c15 := rfl
theorem g15 (X : X2) (a1 : Int) (s : S2) (o : Option (AV R2) × S2) : J (f15 a1 s) (fun (r : Int) => o = (some (vI r), s)) (Go X 1 15 0 (am_loc (am_nl 15) [oR 1 0, vI a1]) [] s o) := by
  show J _ _ (Go X 1 15 0 [some (oR 1 0), some (vI a1)] [] s o)
  unfold f15
  refine g_p q15 1 1 [some (oR 1 0), some (vI a1)] [oR 1 0] rfl ?_
  refine g_get q15 rfl rfl rfl (fun _ => rfl) (fun v1 => ?_)
  refine g_p q15 3 7 [some (oR 1 0), some (vI a1)] [oR 1 0, vI (jadd v1 a1)] rfl ?_
  refine g_m (S := [aR 128 0, vI (jadd v1 a1)]) (some (aR 128 0)) q15 rfl rfl rfl (fun _ => rfl) rfl ?_
  refine g_m (S := [vI 400, vI (jadd v1 a1)]) (some (vI 400)) q15 rfl rfl rfl (fun _ => rfl) rfl ?_
  refine g_i2 q15 rfl rfl ?_ ?_
  ·
    refine g_p q15 1 19 [some (oR 1 0), some (vI a1)] [vI 0] rfl ?_
    exact g_ret q15 rfl rfl rfl
  ·
    refine g_p q15 2 19 [some (oR 1 0), some (vI a1)] [vI 1] rfl ?_
    exact g_ret q15 rfl rfl rfl
theorem q16 : am_cd 16 = am_c16 := rfl
def H16_a (X : X2) (y1 : Int) (o : Option (AV R2) × S2) (a : Int × S2) : Prop := Go X 1 16 3 [some (oR 1 0), some (vI y1), some (vI (a.1))] [] (a.2) o
def E16_a (X : X2) (y1 : Int) (o : Option (AV R2) × S2) : (S2) → Prop := (fun (r : S2) => Go X 1 16 58 [none, none, none] [] r o)
theorem g16_a (X : X2) (y1 : Int) (x2 : Int) (s3 : S2) (o : Option (AV R2) × S2) : J (f16_a y1 x2 s3) (am_kx (H16_a X y1 o) (E16_a X y1 o)) (Go X 1 16 3 [some (oR 1 0), some (vI y1), some (vI x2)] [] s3 o) := by
  unfold f16_a
  refine g_p q16 1 4 [some (oR 1 0), some (vI y1), some (vI x2)] [vI x2] rfl ?_
  refine g_i1 q16 rfl rfl ?_ ?_
  ·
    exact g_end (fun h => g_wk [false, false, false] rfl h)
  ·
    refine g_p q16 1 8 [some (oR 1 0), some (vI y1), some (vI x2)] [oR 1 0] rfl ?_
    refine g_get q16 rfl rfl rfl (fun _ => rfl) (fun v4 => ?_)
    refine g_i1 q16 rfl rfl ?_ ?_
    ·
      refine g_inc (fun v5 => [some (oR 1 0), some (vI y1), some (vI v5)]) q16 rfl rfl (fun _ => rfl) (fun v5 => ?_)
      refine g_p q16 1 3 [some (oR 1 0), some (vI y1), some (vI v5)] [] rfl ?_
      exact g_end (fun h => g_wk [true, true, true] rfl h)
    ·
      refine g_p q16 1 15 [some (oR 1 0), some (vI y1), some (vI x2)] [oR 1 0] rfl ?_
      refine g_get q16 rfl rfl rfl (fun _ => rfl) (fun v6 => ?_)
      refine g_p q16 1 19 [some (oR 1 0), some (vI y1), some (vI x2)] [oR 1 0, vI v6] rfl ?_
      refine g_m (S := [aR 128 0, vI v6]) (some (aR 128 0)) q16 rfl rfl rfl (fun _ => rfl) rfl ?_
      refine g_m (S := [vI 400, vI v6]) (some (vI 400)) q16 rfl rfl rfl (fun _ => rfl) rfl ?_
      refine g_i2 q16 rfl rfl ?_ ?_
      ·
        refine g_inc (fun v7 => [some (oR 1 0), some (vI y1), some (vI v7)]) q16 rfl rfl (fun _ => rfl) (fun v7 => ?_)
        refine g_p q16 1 3 [some (oR 1 0), some (vI y1), some (vI v7)] [] rfl ?_
        exact g_end (fun h => g_wk [true, true, true] rfl h)
      ·
        refine g_p q16 1 27 [some (oR 1 0), some (vI y1), some (vI x2)] [oR 1 0] rfl ?_
        refine g_m (S := [aR 128 0]) (some (aR 128 0)) q16 rfl rfl rfl (fun _ => rfl) rfl ?_
        refine g_p q16 1 31 [some (oR 1 0), some (vI y1), some (vI x2)] [oR 1 0, aR 128 0] rfl ?_
        refine g_get q16 rfl rfl rfl (fun _ => rfl) (fun v8 => ?_)
        refine g_p q16 5 41 [some (oR 1 0), some (vI y1), some (vI x2)] [vI (jand (jushr y1 x2) 255), vI v8, aR 128 0] rfl ?_
        refine g_sto q16 rfl rfl rfl rfl (fun s9 => ?_)
        refine g_p q16 2 44 [some (oR 1 0), some (vI y1), some (vI x2)] [oR 1 0, oR 1 0] rfl ?_
        refine g_get q16 rfl rfl rfl (fun _ => rfl) (fun v10 => ?_)
        refine g_p q16 2 49 [some (oR 1 0), some (vI y1), some (vI x2)] [vI (jadd v10 1), oR 1 0] rfl ?_
        refine g_put q16 rfl rfl rfl (fun _ => rfl) (fun s11 => ?_)
        refine g_inc (fun v12 => [some (oR 1 0), some (vI y1), some (vI v12)]) q16 rfl rfl (fun _ => rfl) (fun v12 => ?_)
        refine g_p q16 1 3 [some (oR 1 0), some (vI y1), some (vI v12)] [] rfl ?_
        exact g_end (fun h => g_wk [true, true, true] rfl h)
theorem g16 (X : X2) (a1 : Int) (s : S2) (o : Option (AV R2) × S2) : J (f16 a1 s) (fun (r : S2) => o = (none, r)) (Go X 1 16 0 (am_loc (am_nl 16) [oR 1 0, vI a1]) [] s o) := by
  show J _ _ (Go X 1 16 0 [some (oR 1 0), some (vI a1), none] [] s o)
  unfold f16
  refine g_p q16 2 3 [some (oR 1 0), some (vI a1), some (vI 24)] [] rfl ?_
  refine g_wkJ [true, true, true] (L0 := [some (oR 1 0), some (vI a1), some (vI 24)]) rfl ?_
  refine g_itr (H16_a X a1 o) (E16_a X a1 o) (fun | (x2, s3) => g16_a X a1 x2 s3 o) ?_
  intro s13
  show J _ _ (Go X 1 16 58 [none, none, none] [] s13 o)
  exact g_retV q16 rfl rfl
theorem q14 : am_cd 14 = am_c14 := rfl
theorem g14 (X : X2) (a1 : Int) (a2 : Int) (a3 : Int) (a4 : Int) (a5 : Int) (s : S2) (o : Option (AV R2) × S2) : J (f14 a1 a2 a3 a4 a5 s) (fun (r : Int × S2) => o = (some (vI r.1), r.2)) (Go X 2 14 0 (am_loc (am_nl 14) [oR 0 0, vI a1, vI a2, vI a3, vI a4, vI a5]) [] s o) := by
  show J _ _ (Go X 2 14 0 [some (oR 0 0), some (vI a1), some (vI a2), some (vI a3), some (vI a4), some (vI a5)] [] s o)
  unfold f14
  refine g_p q14 1 1 [some (oR 0 0), some (vI a1), some (vI a2), some (vI a3), some (vI a4), some (vI a5)] [oR 0 0] rfl ?_
  refine g_m (S := [oR 1 0]) (some (oR 1 0)) q14 rfl rfl rfl (fun _ => rfl) rfl ?_
  refine g_p q14 1 6 [some (oR 0 0), some (vI a1), some (vI a2), some (vI a3), some (vI a4), some (vI a5)] [vI 20, oR 1 0] rfl ?_
  refine g_cPI q14 rfl (g15 X 20 s) rfl rfl rfl rfl rfl (fun r1 => ?_)
  refine g_i1 q14 rfl rfl ?_ ?_
  ·
    refine g_p q14 1 15 [some (oR 0 0), some (vI a1), some (vI a2), some (vI a3), some (vI a4), some (vI a5)] [oR 0 0] rfl ?_
    refine g_m (S := [oR 1 0]) (some (oR 1 0)) q14 rfl rfl rfl (fun _ => rfl) rfl ?_
    refine g_p q14 1 19 [some (oR 0 0), some (vI a1), some (vI a2), some (vI a3), some (vI a4), some (vI a5)] [vI a1, oR 1 0] rfl ?_
    refine g_cV q14 rfl (g16 X a1 s) rfl rfl rfl rfl rfl (fun s2 => ?_)
    refine g_p q14 1 23 [some (oR 0 0), some (vI a1), some (vI a2), some (vI a3), some (vI a4), some (vI a5)] [oR 0 0] rfl ?_
    refine g_m (S := [oR 1 0]) (some (oR 1 0)) q14 rfl rfl rfl (fun _ => rfl) rfl ?_
    refine g_p q14 1 27 [some (oR 0 0), some (vI a1), some (vI a2), some (vI a3), some (vI a4), some (vI a5)] [vI a2, oR 1 0] rfl ?_
    refine g_cV q14 rfl (g16 X a2 s2) rfl rfl rfl rfl rfl (fun s3 => ?_)
    refine g_p q14 1 31 [some (oR 0 0), some (vI a1), some (vI a2), some (vI a3), some (vI a4), some (vI a5)] [oR 0 0] rfl ?_
    refine g_m (S := [oR 1 0]) (some (oR 1 0)) q14 rfl rfl rfl (fun _ => rfl) rfl ?_
    refine g_p q14 1 35 [some (oR 0 0), some (vI a1), some (vI a2), some (vI a3), some (vI a4), some (vI a5)] [vI a3, oR 1 0] rfl ?_
    refine g_cV q14 rfl (g16 X a3 s3) rfl rfl rfl rfl rfl (fun s4 => ?_)
    refine g_p q14 1 39 [some (oR 0 0), some (vI a1), some (vI a2), some (vI a3), some (vI a4), some (vI a5)] [oR 0 0] rfl ?_
    refine g_m (S := [oR 1 0]) (some (oR 1 0)) q14 rfl rfl rfl (fun _ => rfl) rfl ?_
    refine g_p q14 1 44 [some (oR 0 0), some (vI a1), some (vI a2), some (vI a3), some (vI a4), some (vI a5)] [vI a4, oR 1 0] rfl ?_
    refine g_cV q14 rfl (g16 X a4 s4) rfl rfl rfl rfl rfl (fun s5 => ?_)
    refine g_p q14 1 48 [some (oR 0 0), some (vI a1), some (vI a2), some (vI a3), some (vI a4), some (vI a5)] [oR 0 0] rfl ?_
    refine g_m (S := [oR 1 0]) (some (oR 1 0)) q14 rfl rfl rfl (fun _ => rfl) rfl ?_
    refine g_p q14 1 53 [some (oR 0 0), some (vI a1), some (vI a2), some (vI a3), some (vI a4), some (vI a5)] [vI a5, oR 1 0] rfl ?_
    refine g_cV q14 rfl (g16 X a5 s5) rfl rfl rfl rfl rfl (fun s6 => ?_)
    refine g_p q14 1 57 [some (oR 0 0), some (vI a1), some (vI a2), some (vI a3), some (vI a4), some (vI a5)] [oR 0 0] rfl ?_
    refine g_m (S := [oR 1 0]) (some (oR 1 0)) q14 rfl rfl rfl (fun _ => rfl) rfl ?_
    refine g_get q14 rfl rfl rfl (fun _ => rfl) (fun v7 => ?_)
    exact g_ret q14 rfl rfl rfl
  ·
    refine g_p q14 1 13 [some (oR 0 0), some (vI a1), some (vI a2), some (vI a3), some (vI a4), some (vI a5)] [vI (-1)] rfl ?_
    exact g_ret q14 rfl rfl rfl
theorem q17 : am_cd 17 = am_c17 := rfl
theorem g17 (X : X2) (a1 : Int) (s : S2) (o : Option (AV R2) × S2) : J (f17 a1 s) (fun (r : Int × S2) => o = (some (vI r.1), r.2)) (Go X 1 17 0 (am_loc (am_nl 17) [oR 0 0, vI a1]) [] s o) := by
  show J _ _ (Go X 1 17 0 [some (oR 0 0), some (vI a1)] [] s o)
  unfold f17
  refine g_p q17 1 1 [some (oR 0 0), some (vI a1)] [vI a1] rfl ?_
  refine g_i1 q17 rfl rfl ?_ ?_
  ·
    refine g_p q17 1 16 [some (oR 0 0), some (vI a1)] [vI (-1)] rfl ?_
    exact g_ret q17 rfl rfl rfl
  ·
    refine g_p q17 2 6 [some (oR 0 0), some (vI a1)] [oR 0 0, vI a1] rfl ?_
    refine g_m (S := [oR 1 0, vI a1]) (some (oR 1 0)) q17 rfl rfl rfl (fun _ => rfl) rfl ?_
    refine g_get q17 rfl rfl rfl (fun _ => rfl) (fun v1 => ?_)
    refine g_i2 q17 rfl rfl ?_ ?_
    ·
      refine g_p q17 1 18 [some (oR 0 0), some (vI a1)] [oR 0 0] rfl ?_
      refine g_m (S := [oR 1 0]) (some (oR 1 0)) q17 rfl rfl rfl (fun _ => rfl) rfl ?_
      refine g_p q17 1 22 [some (oR 0 0), some (vI a1)] [vI a1, oR 1 0] rfl ?_
      refine g_put q17 rfl rfl rfl (fun _ => rfl) (fun s2 => ?_)
      refine g_p q17 1 26 [some (oR 0 0), some (vI a1)] [vI a1] rfl ?_
      exact g_ret q17 rfl rfl rfl
    ·
      refine g_p q17 1 16 [some (oR 0 0), some (vI a1)] [vI (-1)] rfl ?_
      exact g_ret q17 rfl rfl rfl
theorem q20 : am_cd 20 = am_c20 := rfl
theorem g20 (X : X2) (a0 : Nat) (s : S2) (o : Option (AV R2) × S2) : J (f20 a0 s) (fun (r : S2) => o = (none, r)) (Go X 2 20 0 (am_loc (am_nl 20) [oR 3 a0]) [] s o) := by
  show J _ _ (Go X 2 20 0 [some (oR 3 a0)] [] s o)
  unfold f20
  refine g_p q20 2 2 [some (oR 3 a0)] [vI 0, oR 3 a0] rfl ?_
  refine g_put q20 rfl rfl rfl (fun _ => rfl) (fun s1 => ?_)
  refine g_p q20 2 7 [some (oR 3 a0)] [vI 0, oR 3 a0] rfl ?_
  refine g_put q20 rfl rfl rfl (fun _ => rfl) (fun s2 => ?_)
  refine g_p q20 2 12 [some (oR 3 a0)] [vI 0, oR 3 a0] rfl ?_
  refine g_put q20 rfl rfl rfl (fun _ => rfl) (fun s3 => ?_)
  refine g_p q20 2 17 [some (oR 3 a0)] [vI 0, oR 3 a0] rfl ?_
  refine g_put q20 rfl rfl rfl (fun _ => rfl) (fun s4 => ?_)
  refine g_p q20 2 22 [some (oR 3 a0)] [vI 0, oR 3 a0] rfl ?_
  refine g_put q20 rfl rfl rfl (fun _ => rfl) (fun s5 => ?_)
  refine g_p q20 2 27 [some (oR 3 a0)] [vI 0, oR 3 a0] rfl ?_
  refine g_put q20 rfl rfl rfl (fun _ => rfl) (fun s6 => ?_)
  refine g_p q20 2 32 [some (oR 3 a0)] [vI 0, oR 3 a0] rfl ?_
  refine g_put q20 rfl rfl rfl (fun _ => rfl) (fun s7 => ?_)
  refine g_p q20 1 36 [some (oR 3 a0)] [oR 3 a0] rfl ?_
  refine g_m (S := [oR 4 (32 * a0 + 1)]) (some (oR 4 (32 * a0 + 1))) q20 rfl rfl rfl (fun _ => rfl) rfl ?_
  refine g_cV q20 rfl (g5 X (32 * a0 + 1) s7) rfl rfl rfl rfl rfl (fun s8 => ?_)
  exact g_retV q20 rfl rfl
theorem q23 : am_cd 23 = am_c23 := rfl
theorem g23 (X : X2) (a1 : Int) (s : S2) (o : Option (AV R2) × S2) : J (f23 a1 s) (fun (r : Int) => o = (some (vI r), s)) (Go X 1 23 0 (am_loc (am_nl 23) [oR 1 0, vI a1]) [] s o) := by
  show J _ _ (Go X 1 23 0 [some (oR 1 0), some (vI a1)] [] s o)
  unfold f23
  refine g_p q23 1 1 [some (oR 1 0), some (vI a1)] [vI a1] rfl ?_
  refine g_i1 q23 rfl rfl ?_ ?_
  ·
    refine g_p q23 1 31 [some (oR 1 0), some (vI a1)] [vI 0] rfl ?_
    exact g_ret q23 rfl rfl rfl
  ·
    refine g_p q23 2 6 [some (oR 1 0), some (vI a1)] [oR 1 0, vI a1] rfl ?_
    refine g_get q23 rfl rfl rfl (fun _ => rfl) (fun v1 => ?_)
    refine g_i2 q23 rfl rfl ?_ ?_
    ·
      refine g_p q23 1 31 [some (oR 1 0), some (vI a1)] [vI 0] rfl ?_
      exact g_ret q23 rfl rfl rfl
    ·
      refine g_p q23 2 14 [some (oR 1 0), some (vI a1)] [oR 1 0, vI a1] rfl ?_
      refine g_m (S := [aR 128 0, vI a1]) (some (aR 128 0)) q23 rfl rfl rfl (fun _ => rfl) rfl ?_
      refine g_m (S := [vI 400, vI a1]) (some (vI 400)) q23 rfl rfl rfl (fun _ => rfl) rfl ?_
      refine g_i2 q23 rfl rfl ?_ ?_
      ·
        refine g_p q23 1 31 [some (oR 1 0), some (vI a1)] [vI 0] rfl ?_
        exact g_ret q23 rfl rfl rfl
      ·
        refine g_p q23 1 22 [some (oR 1 0), some (vI a1)] [oR 1 0] rfl ?_
        refine g_m (S := [aR 128 0]) (some (aR 128 0)) q23 rfl rfl rfl (fun _ => rfl) rfl ?_
        refine g_p q23 1 26 [some (oR 1 0), some (vI a1)] [vI a1, aR 128 0] rfl ?_
        refine g_ld q23 rfl rfl rfl rfl rfl rfl (fun v2 => ?_)
        refine g_p q23 1 31 [some (oR 1 0), some (vI a1)] [vI v2] rfl ?_
        exact g_ret q23 rfl rfl rfl
theorem q24 : am_cd 24 = am_c24 := rfl
theorem g24 (X : X2) (a0 : Int) (s : S2) (o : Option (AV R2) × S2) : J (f24 a0) (fun (r : Int) => o = (some (vI r), s)) (Go X 1 24 0 (am_loc (am_nl 24) [vI a0]) [] s o) := by
  show J _ _ (Go X 1 24 0 [some (vI a0)] [] s o)
  unfold f24
  refine g_p q24 2 3 [some (vI a0)] [vI 48, vI a0] rfl ?_
  refine g_i2 q24 rfl rfl ?_ ?_
  ·
    refine g_p q24 1 17 [some (vI a0)] [vI 0] rfl ?_
    exact g_ret q24 rfl rfl rfl
  ·
    refine g_p q24 2 9 [some (vI a0)] [vI 57, vI a0] rfl ?_
    refine g_i2 q24 rfl rfl ?_ ?_
    ·
      refine g_p q24 1 17 [some (vI a0)] [vI 0] rfl ?_
      exact g_ret q24 rfl rfl rfl
    ·
      refine g_p q24 2 17 [some (vI a0)] [vI 1] rfl ?_
      exact g_ret q24 rfl rfl rfl
theorem q26 : am_cd 26 = am_c26 := rfl
theorem g26 (X : X2) (a1 : Int) (a2 : Int) (a3 : Int) (s : S2) (o : Option (AV R2) × S2) : J (f26 a1 a2 a3 s) (fun (r : S2) => o = (none, r)) (Go X 1 26 0 (am_loc (am_nl 26) [oR 1 0, vI a1, vI a2, vI a3]) [] s o) := by
  show J _ _ (Go X 1 26 0 [some (oR 1 0), some (vI a1), some (vI a2), some (vI a3)] [] s o)
  unfold f26
  refine g_p q26 1 1 [some (oR 1 0), some (vI a1), some (vI a2), some (vI a3)] [oR 1 0] rfl ?_
  refine g_get q26 rfl rfl rfl (fun _ => rfl) (fun v1 => ?_)
  refine g_i1 q26 rfl rfl ?_ ?_
  ·
    exact g_retV q26 rfl rfl
  ·
    refine g_p q26 1 8 [some (oR 1 0), some (vI a1), some (vI a2), some (vI a3)] [oR 1 0] rfl ?_
    refine g_get q26 rfl rfl rfl (fun _ => rfl) (fun v2 => ?_)
    refine g_p q26 1 12 [some (oR 1 0), some (vI a1), some (vI a2), some (vI a3)] [oR 1 0, vI v2] rfl ?_
    refine g_m (S := [aR 130 0, vI v2]) (some (aR 130 0)) q26 rfl rfl rfl (fun _ => rfl) rfl ?_
    refine g_m (S := [vI 401, vI v2]) (some (vI 401)) q26 rfl rfl rfl (fun _ => rfl) rfl ?_
    refine g_i2 q26 rfl rfl ?_ ?_
    ·
      exact g_retV q26 rfl rfl
    ·
      refine g_p q26 1 20 [some (oR 1 0), some (vI a1), some (vI a2), some (vI a3)] [oR 1 0] rfl ?_
      refine g_m (S := [aR 130 0]) (some (aR 130 0)) q26 rfl rfl rfl (fun _ => rfl) rfl ?_
      refine g_p q26 1 24 [some (oR 1 0), some (vI a1), some (vI a2), some (vI a3)] [oR 1 0, aR 130 0] rfl ?_
      refine g_get q26 rfl rfl rfl (fun _ => rfl) (fun v3 => ?_)
      refine g_p q26 1 28 [some (oR 1 0), some (vI a1), some (vI a2), some (vI a3)] [vI a1, vI v3, aR 130 0] rfl ?_
      refine g_sto q26 rfl rfl rfl rfl (fun s4 => ?_)
      refine g_p q26 1 30 [some (oR 1 0), some (vI a1), some (vI a2), some (vI a3)] [oR 1 0] rfl ?_
      refine g_m (S := [aR 131 0]) (some (aR 131 0)) q26 rfl rfl rfl (fun _ => rfl) rfl ?_
      refine g_p q26 1 34 [some (oR 1 0), some (vI a1), some (vI a2), some (vI a3)] [oR 1 0, aR 131 0] rfl ?_
      refine g_get q26 rfl rfl rfl (fun _ => rfl) (fun v5 => ?_)
      refine g_p q26 1 38 [some (oR 1 0), some (vI a1), some (vI a2), some (vI a3)] [vI a2, vI v5, aR 131 0] rfl ?_
      refine g_sto q26 rfl rfl rfl rfl (fun s6 => ?_)
      refine g_p q26 1 40 [some (oR 1 0), some (vI a1), some (vI a2), some (vI a3)] [oR 1 0] rfl ?_
      refine g_m (S := [aR 132 0]) (some (aR 132 0)) q26 rfl rfl rfl (fun _ => rfl) rfl ?_
      refine g_p q26 1 44 [some (oR 1 0), some (vI a1), some (vI a2), some (vI a3)] [oR 1 0, aR 132 0] rfl ?_
      refine g_get q26 rfl rfl rfl (fun _ => rfl) (fun v7 => ?_)
      refine g_p q26 1 48 [some (oR 1 0), some (vI a1), some (vI a2), some (vI a3)] [vI a3, vI v7, aR 132 0] rfl ?_
      refine g_sto q26 rfl rfl rfl rfl (fun s8 => ?_)
      refine g_p q26 2 51 [some (oR 1 0), some (vI a1), some (vI a2), some (vI a3)] [oR 1 0, oR 1 0] rfl ?_
      refine g_get q26 rfl rfl rfl (fun _ => rfl) (fun v9 => ?_)
      refine g_p q26 2 56 [some (oR 1 0), some (vI a1), some (vI a2), some (vI a3)] [vI (jadd v9 1), oR 1 0] rfl ?_
      refine g_put q26 rfl rfl rfl (fun _ => rfl) (fun s10 => ?_)
      exact g_retV q26 rfl rfl
theorem q25 : am_cd 25 = am_c25 := rfl
def H25_a (X : X2) (y1 : Int) (s5 : S2) (o : Option (AV R2) × S2) (a : Int × Int × Int) : Prop := Go X 2 25 7 [some (oR 1 0), some (vI y1), some (vI (a.1)), some (vI (a.2.1)), some (vI (a.2.2))] [] s5 o
def E25_a (X : X2) (y1 : Int) (s5 : S2) (o : Option (AV R2) × S2) : (Int × Int) → Prop := (fun (r : Int × Int) => Go X 2 25 61 [some (oR 1 0), some (vI y1), some (vI (r.1)), some (vI (r.2)), none] [] s5 o)
theorem g25_a (X : X2) (y1 : Int) (x2 : Int) (x3 : Int) (x4 : Int) (s5 : S2) (o : Option (AV R2) × S2) : J (f25_a x2 x3 x4 s5) (am_kx (H25_a X y1 s5 o) (E25_a X y1 s5 o)) (Go X 2 25 7 [some (oR 1 0), some (vI y1), some (vI x2), some (vI x3), some (vI x4)] [] s5 o) := by
  unfold f25_a
  refine g_p q25 2 10 [some (oR 1 0), some (vI y1), some (vI x2), some (vI x3), some (vI x4)] [oR 1 0, vI x4] rfl ?_
  refine g_get q25 rfl rfl rfl (fun _ => rfl) (fun v6 => ?_)
  refine g_i2 q25 rfl rfl ?_ ?_
  ·
    exact g_end (fun h => g_wk [true, true, true, true, false] rfl h)
  ·
    refine g_p q25 2 19 [some (oR 1 0), some (vI y1), some (vI x2), some (vI x3), some (vI x4)] [vI x4, oR 1 0] rfl ?_
    refine g_cPI q25 rfl (g23 X x4 s5) rfl rfl rfl rfl rfl (fun r7 => ?_)
    refine g_cPI q25 rfl (g24 X r7 s5) rfl rfl rfl rfl rfl (fun r8 => ?_)
    refine g_i1 q25 rfl rfl ?_ ?_
    ·
      exact g_end (fun h => g_wk [true, true, true, true, false] rfl h)
    ·
      refine g_inc (fun v9 => [some (oR 1 0), some (vI y1), some (vI x2), some (vI v9), some (vI x4)]) q25 rfl rfl (fun _ => rfl) (fun v9 => ?_)
      refine g_p q25 2 33 [some (oR 1 0), some (vI y1), some (vI x2), some (vI v9), some (vI x4)] [vI 5, vI v9] rfl ?_
      refine g_i2 q25 rfl rfl ?_ ?_
      ·
        refine g_p q25 5 47 [some (oR 1 0), some (vI y1), some (vI x2), some (vI v9), some (vI x4)] [vI x4, oR 1 0, vI (jmul x2 10)] rfl ?_
        refine g_cPI q25 rfl (g23 X x4 s5) rfl rfl rfl rfl rfl (fun r10 => ?_)
        refine g_p q25 3 54 [some (oR 1 0), some (vI y1), some (vI x2), some (vI v9), some (vI x4)] [vI (jsub (jadd (jmul x2 10) r10) 48)] rfl ?_
        refine g_top (fun v11 => ?_)
        refine g_p q25 1 55 [some (oR 1 0), some (vI y1), some (vI v11), some (vI v9), some (vI x4)] [] rfl ?_
        refine g_inc (fun v12 => [some (oR 1 0), some (vI y1), some (vI v11), some (vI v9), some (vI v12)]) q25 rfl rfl (fun _ => rfl) (fun v12 => ?_)
        refine g_p q25 1 7 [some (oR 1 0), some (vI y1), some (vI v11), some (vI v9), some (vI v12)] [] rfl ?_
        exact g_end (fun h => g_wk [true, true, true, true, true] rfl h)
      ·
        refine g_p q25 3 55 [some (oR 1 0), some (vI y1), some (vI (-1)), some (vI v9), some (vI x4)] [] rfl ?_
        refine g_inc (fun v13 => [some (oR 1 0), some (vI y1), some (vI (-1)), some (vI v9), some (vI v13)]) q25 rfl rfl (fun _ => rfl) (fun v13 => ?_)
        refine g_p q25 1 7 [some (oR 1 0), some (vI y1), some (vI (-1)), some (vI v9), some (vI v13)] [] rfl ?_
        exact g_end (fun h => g_wk [true, true, true, true, true] rfl h)
theorem g25 (X : X2) (a1 : Int) (s : S2) (o : Option (AV R2) × S2) : J (f25 a1 s) (fun (r : Int × S2) => o = (some (vI r.1), r.2)) (Go X 2 25 0 (am_loc (am_nl 25) [oR 1 0, vI a1]) [] s o) := by
  show J _ _ (Go X 2 25 0 [some (oR 1 0), some (vI a1), none, none, none] [] s o)
  unfold f25
  refine g_p q25 6 7 [some (oR 1 0), some (vI a1), some (vI 0), some (vI 0), some (vI a1)] [] rfl ?_
  refine g_wkJ [true, true, true, true, true] (L0 := [some (oR 1 0), some (vI a1), some (vI 0), some (vI 0), some (vI a1)]) rfl ?_
  refine g_itr (H25_a X a1 s o) (E25_a X a1 s o) (fun | (x2, x3, x4) => g25_a X a1 x2 x3 x4 s o) ?_
  rintro ⟨z14, z15⟩
  show J _ _ (Go X 2 25 61 [some (oR 1 0), some (vI a1), some (vI z14), some (vI z15), none] [] s o)
  refine g_p q25 4 65 [some (oR 1 0), some (vI a1), some (vI z14), some (vI z15), none] [vI z14, vI a1, vI 2, oR 1 0] rfl ?_
  refine g_cV q25 rfl (g26 X 2 a1 z14 s) rfl rfl rfl rfl rfl (fun s16 => ?_)
  refine g_p q25 1 69 [some (oR 1 0), some (vI a1), some (vI z14), some (vI z15), none] [vI z15] rfl ?_
  exact g_ret q25 rfl rfl rfl
theorem q27 : am_cd 27 = am_c27 := rfl
theorem g27 (X : X2) (a0 : Int) (s : S2) (o : Option (AV R2) × S2) : J (f27 a0) (fun (r : Int) => o = (some (vI r), s)) (Go X 1 27 0 (am_loc (am_nl 27) [vI a0]) [] s o) := by
  show J _ _ (Go X 1 27 0 [some (vI a0)] [] s o)
  unfold f27
  refine g_p q27 2 3 [some (vI a0)] [vI 97, vI a0] rfl ?_
  refine g_i2 q27 rfl rfl ?_ ?_
  ·
    refine g_p q27 1 17 [some (vI a0)] [vI 0] rfl ?_
    exact g_ret q27 rfl rfl rfl
  ·
    refine g_p q27 2 9 [some (vI a0)] [vI 122, vI a0] rfl ?_
    refine g_i2 q27 rfl rfl ?_ ?_
    ·
      refine g_p q27 1 17 [some (vI a0)] [vI 0] rfl ?_
      exact g_ret q27 rfl rfl rfl
    ·
      refine g_p q27 2 17 [some (vI a0)] [vI 1] rfl ?_
      exact g_ret q27 rfl rfl rfl
theorem q275 : am_cd 275 = am_c275 := rfl
theorem g275 (X : X2) (a0 : Nat) (s : S2) (ha0 : a0 < am_T.length) (o : Option (AV R2) × S2) : J (f275 a0) (fun (r : Int) => o = (some (vI r), s)) (Go X 1 275 0 (am_loc (am_nl 275) [oR 16 a0]) [] s o) := by
  show J _ _ (Go X 1 275 0 [some (oR 16 a0)] [] s o)
  unfold f275
  refine g_m (S := [vI 1]) (some (vI 1)) q275 rfl rfl rfl (fun _ => rfl) rfl ?_
  refine g_i1 q275 rfl rfl ?_ ?_
  ·
    refine g_p q275 1 14 [some (oR 16 a0)] [vI 1] rfl ?_
    exact g_ret q275 rfl rfl rfl
  ·
    refine g_p q275 1 7 [some (oR 16 a0)] [oR 16 a0] rfl ?_
    refine g_m (S := [vI 0]) (some (vI 0)) q275 rfl rfl rfl (fun _ => rfl) rfl ?_
    refine g_p q275 1 14 [some (oR 16 a0)] [vI 0] rfl ?_
    exact g_ret q275 rfl rfl rfl
theorem q274 : am_cd 274 = am_c274 := rfl
theorem g274 (X : X2) (a0 : Nat) (s : S2) (ha0 : a0 < am_T.length) (o : Option (AV R2) × S2) : J (f274 a0) (fun (r : Int) => o = (some (vI r), s)) (Go X 2 274 0 (am_loc (am_nl 274) [oR 16 a0]) [] s o) := by
  show J _ _ (Go X 2 274 0 [some (oR 16 a0)] [] s o)
  unfold f274
  refine g_p q274 1 1 [some (oR 16 a0)] [oR 16 a0] rfl ?_
  refine g_m (S := [aR 6002 a0]) (some (aR 6002 a0)) q274 rfl rfl rfl (fun _ => rfl) rfl ?_
  refine g_m (S := [vI (((m2_tb a0).length : Nat) : Int)]) (some (vI (((m2_tb a0).length : Nat) : Int))) q274 rfl rfl rfl (fun _ => if_pos ha0) rfl ?_
  refine g_p q274 1 6 [some (oR 16 a0)] [oR 16 a0, vI (((m2_tb a0).length : Nat) : Int)] rfl ?_
  refine g_cPI q274 rfl (g275 X a0 s ha0) rfl rfl rfl rfl rfl (fun r1 => ?_)
  refine g_p q274 1 10 [some (oR 16 a0)] [vI (jshr (((m2_tb a0).length : Nat) : Int) r1)] rfl ?_
  refine g_top (fun v2 => ?_)
  exact g_ret q274 rfl rfl rfl
theorem q277 : am_cd 277 = am_c277 := rfl
theorem g277 (X : X2) (a0 : Nat) (s : S2) (ha0 : a0 < am_T.length) (o : Option (AV R2) × S2) : J (f277 a0) (fun (r : Int) => o = (some (vI r), s)) (Go X 1 277 0 (am_loc (am_nl 277) [oR 16 a0]) [] s o) := by
  show J _ _ (Go X 1 277 0 [some (oR 16 a0)] [] s o)
  unfold f277
  refine g_m (S := [vI 1]) (some (vI 1)) q277 rfl rfl rfl (fun _ => rfl) rfl ?_
  refine g_i1 q277 rfl rfl ?_ ?_
  ·
    refine g_p q277 1 18 [some (oR 16 a0)] [vI 0] rfl ?_
    exact g_ret q277 rfl rfl rfl
  ·
    refine g_p q277 1 7 [some (oR 16 a0)] [oR 16 a0] rfl ?_
    refine g_m (S := [vI 0]) (some (vI 0)) q277 rfl rfl rfl (fun _ => rfl) rfl ?_
    refine g_i1 q277 rfl rfl ?_ ?_
    ·
      refine g_p q277 1 18 [some (oR 16 a0)] [vI 0] rfl ?_
      exact g_ret q277 rfl rfl rfl
    ·
      refine g_p q277 2 18 [some (oR 16 a0)] [vI 1] rfl ?_
      exact g_ret q277 rfl rfl rfl
theorem q285 : am_cd 285 = am_c285 := rfl
theorem g285 (X : X2) (a0 : Int) (a1 : Int) (a2 : Option R2) (s : S2) (o : Option (AV R2) × S2) : J (f285 a0 a1) (fun (r : Int) => o = (some (vI r), s)) (Go X 1 285 0 (am_loc (am_nl 285) [vI a0, vI a1, vQ a2]) [] s o) := by
  show J _ _ (Go X 1 285 0 [some (vI a0), some (vI a1), some (vQ a2)] [] s o)
  unfold f285
  refine g_p q285 1 1 [some (vI a0), some (vI a1), some (vQ a2)] [vI a0] rfl ?_
  refine g_i1 q285 rfl rfl ?_ ?_
  ·
    refine g_p q285 3 12 [some (vI a0), some (vI a1), some (vQ a2)] [vI a1, vI a0, vQ a2] rfl ?_
    exact g_no
  ·
    refine g_p q285 2 6 [some (vI a0), some (vI a1), some (vQ a2)] [vI a1, vI a0] rfl ?_
    refine g_i2 q285 rfl rfl ?_ ?_
    ·
      refine g_p q285 1 17 [some (vI a0), some (vI a1), some (vQ a2)] [vI a0] rfl ?_
      exact g_ret q285 rfl rfl rfl
    ·
      refine g_p q285 3 12 [some (vI a0), some (vI a1), some (vQ a2)] [vI a1, vI a0, vQ a2] rfl ?_
      exact g_no
theorem q280 : am_cd 280 = am_c280 := rfl
theorem g280 (X : X2) (a0 : Int) (a1 : Int) (s : S2) (o : Option (AV R2) × S2) : J (f280 a0 a1) (fun (r : Unit) => o = (none, s)) (Go X 2 280 0 (am_loc (am_nl 280) [vI a0, vI a1]) [] s o) := by
  show J _ _ (Go X 2 280 0 [some (vI a0), some (vI a1)] [] s o)
  unfold f280
  refine g_p q280 2 2 [some (vI a0), some (vI a1)] [vI a1, vI a0] rfl ?_
  refine g_m (S := [vQ (if X.2 1000000 = 0 then none else some (false, 99, 0)), vI a1, vI a0]) (some (vQ (if X.2 1000000 = 0 then none else some (false, 99, 0)))) q280 rfl rfl rfl (fun _ => rfl) rfl ?_
  refine g_cPI q280 rfl (g285 X a0 a1 (if X.2 1000000 = 0 then none else some (false, 99, 0)) s) rfl rfl rfl rfl rfl (fun r1 => ?_)
  refine g_p q280 1 9 [some (vI a0), some (vI a1)] [] rfl ?_
  exact g_retV q280 rfl rfl
theorem q281 : am_cd 281 = am_c281 := rfl
theorem g281 (X : X2) (a0 : Nat) (a1 : Int) (s : S2) (ha0 : a0 < am_T.length) (o : Option (AV R2) × S2) : J (f281 a0 a1) (fun (r : Int) => o = (some (vI r), s)) (Go X 3 281 0 (am_loc (am_nl 281) [aR 6002 a0, vI a1]) [] s o) := by
  show J _ _ (Go X 3 281 0 [some (aR 6002 a0), some (vI a1)] [] s o)
  unfold f281
  refine g_p q281 2 2 [some (aR 6002 a0), some (vI a1)] [aR 6002 a0, vI a1] rfl ?_
  refine g_m (S := [vI (((m2_tb a0).length : Nat) : Int), vI a1]) (some (vI (((m2_tb a0).length : Nat) : Int))) q281 rfl rfl rfl (fun _ => if_pos ha0) rfl ?_
  refine g_cPU q281 rfl (g280 X a1 (((m2_tb a0).length : Nat) : Int) s) rfl rfl rfl rfl rfl (fun _ => ?_)
  refine g_p q281 2 8 [some (aR 6002 a0), some (vI a1)] [vI a1, aR 6002 a0] rfl ?_
  refine g_ldt ha0 q281 rfl rfl rfl (fun v1 => ?_)
  refine g_p q281 3 14 [some (aR 6002 a0), some (vI a1)] [vI (ji2c (jand v1 255))] rfl ?_
  refine g_top (fun v2 => ?_)
  exact g_retc q281 rfl rfl
theorem q276 : am_cd 276 = am_c276 := rfl
theorem g276 (X : X2) (a0 : Nat) (a1 : Int) (s : S2) (ha0 : a0 < am_T.length) (o : Option (AV R2) × S2) : J (f276 a0 a1) (fun (r : Int) => o = (some (vI r), s)) (Go X 4 276 0 (am_loc (am_nl 276) [oR 16 a0, vI a1]) [] s o) := by
  show J _ _ (Go X 4 276 0 [some (oR 16 a0), some (vI a1)] [] s o)
  unfold f276
  refine g_p q276 1 1 [some (oR 16 a0), some (vI a1)] [oR 16 a0] rfl ?_
  refine g_cPI q276 rfl (g277 X a0 s ha0) rfl rfl rfl rfl rfl (fun r1 => ?_)
  refine g_i1 q276 rfl rfl ?_ ?_
  ·
    refine g_p q276 1 17 [some (oR 16 a0), some (vI a1)] [oR 16 a0] rfl ?_
    refine g_m (S := [aR 6002 a0]) (some (aR 6002 a0)) q276 rfl rfl rfl (fun _ => rfl) rfl ?_
    refine g_p q276 1 21 [some (oR 16 a0), some (vI a1)] [vI a1, aR 6002 a0] rfl ?_
    exact g_no
  ·
    refine g_p q276 1 8 [some (oR 16 a0), some (vI a1)] [oR 16 a0] rfl ?_
    refine g_m (S := [aR 6002 a0]) (some (aR 6002 a0)) q276 rfl rfl rfl (fun _ => rfl) rfl ?_
    refine g_p q276 1 12 [some (oR 16 a0), some (vI a1)] [vI a1, aR 6002 a0] rfl ?_
    refine g_cPI q276 rfl (g281 X a0 a1 s ha0) rfl rfl rfl rfl rfl (fun r2 => ?_)
    exact g_retc q276 rfl rfl
theorem q30 : am_cd 30 = am_c30 := rfl
def H30_a (X : X2) (y1 : Int) (y2 : Int) (y3 : Int) (s5 : S2) (o : Option (AV R2) × S2) (a : Int) : Prop := Go X 5 30 3 [some (oR 1 0), some (vI y1), some (vI y2), some (vI y3), some (vI a), none] [] s5 o
def E30_a (X : X2) (y1 : Int) (y2 : Int) (y3 : Int) (s5 : S2) (o : Option (AV R2) × S2) : (Unit) ⊕ (Unit) → Prop := (am_kx (fun (r : Unit) => Go X 5 30 66 [none, none, none, none, none, none] [] s5 o) (fun (r : Unit) => Go X 5 30 74 [none, none, none, none, none, none] [] s5 o))
theorem g30_a (X : X2) (y1 : Int) (y2 : Int) (y3 : Int) (x4 : Int) (s5 : S2) (o : Option (AV R2) × S2) : J (f30_a y1 y2 y3 x4 s5) (am_kx (H30_a X y1 y2 y3 s5 o) (E30_a X y1 y2 y3 s5 o)) (Go X 5 30 3 [some (oR 1 0), some (vI y1), some (vI y2), some (vI y3), some (vI x4), none] [] s5 o) := by
  unfold f30_a
  refine g_p q30 2 6 [some (oR 1 0), some (vI y1), some (vI y2), some (vI y3), some (vI x4), none] [vI y3, vI x4] rfl ?_
  refine g_i2 q30 rfl rfl ?_ ?_
  ·
    exact g_end (fun h => g_wk [false, false, false, false, false, false] rfl h)
  ·
    refine g_p q30 3 13 [some (oR 1 0), some (vI y1), some (vI y2), some (vI y3), some (vI x4), none] [vI (jadd y1 x4)] rfl ?_
    refine g_m (S := [oR 16 0, vI (jadd y1 x4)]) (some (oR 16 0)) q30 rfl rfl rfl (fun _ => rfl) rfl ?_
    refine g_cPI q30 rfl (g274 X 0 s5 (Nat.le_of_ble_eq_true rfl)) rfl rfl rfl rfl rfl (fun r6 => ?_)
    refine g_jn (fun j38 => ∀ (x7 : Int), J (j38 x7) (am_kx (H30_a X y1 y2 y3 s5 o) (E30_a X y1 y2 y3 s5 o)) (Go X 5 30 38 [some (oR 1 0), some (vI y1), some (vI y2), some (vI y3), some (vI x4), none] [vI x7] s5 o)) ?_ (fun j38 hj38 => ?_)
    ·
      intro x7
      refine g_p q30 2 42 [some (oR 1 0), some (vI y1), some (vI y2), some (vI y3), some (vI x4), some (vI x7)] [vI x7] rfl ?_
      refine g_i1 q30 rfl rfl ?_ ?_
      ·
        exact g_end (fun h => g_wk [false, false, false, false, false, false] rfl h)
      ·
        refine g_m (S := [oR 16 0]) (some (oR 16 0)) q30 rfl rfl rfl (fun _ => rfl) rfl ?_
        refine g_p q30 3 51 [some (oR 1 0), some (vI y1), some (vI y2), some (vI y3), some (vI x4), some (vI x7)] [vI (jadd y1 x4), oR 16 0] rfl ?_
        refine g_cPI q30 rfl (g276 X 0 (jadd y1 x4) s5 (Nat.le_of_ble_eq_true rfl)) rfl rfl rfl rfl rfl (fun r8 => ?_)
        refine g_p q30 1 55 [some (oR 1 0), some (vI y1), some (vI y2), some (vI y3), some (vI x4), some (vI x7)] [oR 1 0, vI r8] rfl ?_
        refine g_m (S := [aR 128 0, vI r8]) (some (aR 128 0)) q30 rfl rfl rfl (fun _ => rfl) rfl ?_
        refine g_p q30 3 62 [some (oR 1 0), some (vI y1), some (vI y2), some (vI y3), some (vI x4), some (vI x7)] [vI (jadd y2 x4), aR 128 0, vI r8] rfl ?_
        refine g_ld q30 rfl rfl rfl rfl rfl rfl (fun v9 => ?_)
        refine g_i2 q30 rfl rfl ?_ ?_
        ·
          refine g_inc (fun v10 => [some (oR 1 0), some (vI y1), some (vI y2), some (vI y3), some (vI v10), some (vI x7)]) q30 rfl rfl (fun _ => rfl) (fun v10 => ?_)
          refine g_p q30 1 3 [some (oR 1 0), some (vI y1), some (vI y2), some (vI y3), some (vI v10), some (vI x7)] [] rfl ?_
          exact g_end (fun h => g_wk [true, true, true, true, true, false] rfl h)
        ·
          exact g_end (fun h => g_wk [false, false, false, false, false, false] rfl h)
    ·
      refine g_jn (fun j37 => ∀ (_ : Unit), J (j37 ()) (am_kx (H30_a X y1 y2 y3 s5 o) (E30_a X y1 y2 y3 s5 o)) (Go X 5 30 37 [some (oR 1 0), some (vI y1), some (vI y2), some (vI y3), some (vI x4), none] [] s5 o)) ?_ (fun j37 hj37 => ?_)
      ·
        intro _
        refine g_p q30 1 38 [some (oR 1 0), some (vI y1), some (vI y2), some (vI y3), some (vI x4), none] [vI 0] rfl ?_
        exact g_wkJ [true, true, true, true, true, false] rfl (hj38 0)
      ·
        refine g_i2 q30 rfl rfl ?_ ?_
        ·
          exact g_wkJ [true, true, true, true, true, false] rfl (hj37 ())
        ·
          refine g_p q30 4 26 [some (oR 1 0), some (vI y1), some (vI y2), some (vI y3), some (vI x4), none] [oR 1 0, vI (jadd y2 x4)] rfl ?_
          refine g_m (S := [aR 128 0, vI (jadd y2 x4)]) (some (aR 128 0)) q30 rfl rfl rfl (fun _ => rfl) rfl ?_
          refine g_m (S := [vI 400, vI (jadd y2 x4)]) (some (vI 400)) q30 rfl rfl rfl (fun _ => rfl) rfl ?_
          refine g_i2 q30 rfl rfl ?_ ?_
          ·
            exact g_wkJ [true, true, true, true, true, false] rfl (hj37 ())
          ·
            refine g_p q30 2 38 [some (oR 1 0), some (vI y1), some (vI y2), some (vI y3), some (vI x4), none] [vI 1] rfl ?_
            exact g_wkJ [true, true, true, true, true, false] rfl (hj38 1)
theorem g30 (X : X2) (a1 : Int) (a2 : Int) (a3 : Int) (s : S2) (o : Option (AV R2) × S2) : J (f30 a1 a2 a3 s) (fun (r : Int) => o = (some (vI r), s)) (Go X 5 30 0 (am_loc (am_nl 30) [oR 1 0, vI a1, vI a2, vI a3]) [] s o) := by
  show J _ _ (Go X 5 30 0 [some (oR 1 0), some (vI a1), some (vI a2), some (vI a3), none, none] [] s o)
  unfold f30
  refine g_p q30 2 3 [some (oR 1 0), some (vI a1), some (vI a2), some (vI a3), some (vI 0), none] [] rfl ?_
  refine g_wkJ [true, true, true, true, true, false] (L0 := [some (oR 1 0), some (vI a1), some (vI a2), some (vI a3), some (vI 0), none]) rfl ?_
  refine g_itr (H30_a X a1 a2 a3 s o) (E30_a X a1 a2 a3 s o) (fun x4 => g30_a X a1 a2 a3 x4 s o) ?_
  refine g_se ?_ ?_
  ·
    intro _
    show J _ _ (Go X 5 30 66 [none, none, none, none, none, none] [] s o)
    refine g_p q30 1 67 [none, none, none, none, none, none] [vI 0] rfl ?_
    exact g_ret q30 rfl rfl rfl
  ·
    intro _
    show J _ _ (Go X 5 30 74 [none, none, none, none, none, none] [] s o)
    refine g_p q30 1 75 [none, none, none, none, none, none] [vI 1] rfl ?_
    exact g_ret q30 rfl rfl rfl
theorem q29 : am_cd 29 = am_c29 := rfl
def H29_a (X : X2) (y1 : Int) (y2 : Int) (s6 : S2) (o : Option (AV R2) × S2) (a : Int × Int × Int) : Prop := Go X 6 29 10 [some (oR 1 0), some (vI y1), some (vI y2), some (vI (a.1)), some (vI (a.2.1)), some (vI (a.2.2))] [] s6 o
def E29_a (X : X2) (y1 : Int) (y2 : Int) (s6 : S2) (o : Option (AV R2) × S2) : (Int) ⊕ (Unit) → Prop := (am_kx (fun (r : Int) => Go X 6 29 52 [none, none, none, some (vI r), none, none] [] s6 o) (fun (r : Unit) => Go X 6 29 69 [none, none, none, none, none, none] [] s6 o))
theorem g29_a (X : X2) (y1 : Int) (y2 : Int) (x3 : Int) (x4 : Int) (x5 : Int) (s6 : S2) (o : Option (AV R2) × S2) : J (f29_a y1 y2 x3 x4 x5 s6) (am_kx (H29_a X y1 y2 s6 o) (E29_a X y1 y2 s6 o)) (Go X 6 29 10 [some (oR 1 0), some (vI y1), some (vI y2), some (vI x3), some (vI x4), some (vI x5)] [] s6 o) := by
  unfold f29_a
  refine g_p q29 1 12 [some (oR 1 0), some (vI y1), some (vI y2), some (vI x3), some (vI x4), some (vI x5)] [vI x5] rfl ?_
  refine g_m (S := [oR 16 0, vI x5]) (some (oR 16 0)) q29 rfl rfl rfl (fun _ => rfl) rfl ?_
  refine g_cPI q29 rfl (g274 X 0 s6 (Nat.le_of_ble_eq_true rfl)) rfl rfl rfl rfl rfl (fun r7 => ?_)
  refine g_i2 q29 rfl rfl ?_ ?_
  ·
    exact g_end (fun h => g_wk [false, false, false, false, false, false] rfl h)
  ·
    refine g_m (S := [oR 16 0]) (some (oR 16 0)) q29 rfl rfl rfl (fun _ => rfl) rfl ?_
    refine g_p q29 1 24 [some (oR 1 0), some (vI y1), some (vI y2), some (vI x3), some (vI x4), some (vI x5)] [vI x5, oR 16 0] rfl ?_
    refine g_cPI q29 rfl (g276 X 0 x5 s6 (Nat.le_of_ble_eq_true rfl)) rfl rfl rfl rfl rfl (fun r8 => ?_)
    refine g_p q29 1 29 [some (oR 1 0), some (vI y1), some (vI y2), some (vI x3), some (vI x4), some (vI x5)] [vI 32, vI r8] rfl ?_
    refine g_i2 q29 rfl rfl ?_ ?_
    ·
      refine g_inc (fun v9 => [some (oR 1 0), some (vI y1), some (vI y2), some (vI x3), some (vI x4), some (vI v9)]) q29 rfl rfl (fun _ => rfl) (fun v9 => ?_)
      refine g_p q29 1 10 [some (oR 1 0), some (vI y1), some (vI y2), some (vI x3), some (vI x4), some (vI v9)] [] rfl ?_
      exact g_end (fun h => g_wk [true, true, true, true, true, true] rfl h)
    ·
      refine g_p q29 4 38 [some (oR 1 0), some (vI y1), some (vI y2), some (vI x3), some (vI x4), some (vI x5)] [vI y2, vI (jsub x5 x4)] rfl ?_
      refine g_jn (fun j54 => ∀ (_ : Unit), J (j54 ()) (am_kx (H29_a X y1 y2 s6 o) (E29_a X y1 y2 s6 o)) (Go X 6 29 54 [some (oR 1 0), some (vI y1), some (vI y2), some (vI x3), none, some (vI x5)] [] s6 o)) ?_ (fun j54 hj54 => ?_)
      ·
        intro _
        refine g_inc (fun v10 => [some (oR 1 0), some (vI y1), some (vI y2), some (vI v10), none, some (vI x5)]) q29 rfl rfl (fun _ => rfl) (fun v10 => ?_)
        refine g_p q29 3 61 [some (oR 1 0), some (vI y1), some (vI y2), some (vI v10), none, some (vI x5)] [vI (jadd x5 1)] rfl ?_
        refine g_top (fun v11 => ?_)
        refine g_p q29 1 63 [some (oR 1 0), some (vI y1), some (vI y2), some (vI v10), some (vI v11), some (vI x5)] [] rfl ?_
        refine g_inc (fun v12 => [some (oR 1 0), some (vI y1), some (vI y2), some (vI v10), some (vI v11), some (vI v12)]) q29 rfl rfl (fun _ => rfl) (fun v12 => ?_)
        refine g_p q29 1 10 [some (oR 1 0), some (vI y1), some (vI y2), some (vI v10), some (vI v11), some (vI v12)] [] rfl ?_
        exact g_end (fun h => g_wk [true, true, true, true, true, true] rfl h)
      ·
        refine g_i2 q29 rfl rfl ?_ ?_
        ·
          exact g_wkJ [true, true, true, true, false, true] rfl (hj54 ())
        ·
          refine g_p q29 4 46 [some (oR 1 0), some (vI y1), some (vI y2), some (vI x3), some (vI x4), some (vI x5)] [vI y2, vI y1, vI x4, oR 1 0] rfl ?_
          refine g_cPI q29 rfl (g30 X x4 y1 y2 s6) rfl rfl rfl rfl rfl (fun r13 => ?_)
          refine g_i1 q29 rfl rfl ?_ ?_
          ·
            exact g_wkJ [true, true, true, true, false, true] rfl (hj54 ())
          ·
            exact g_end (fun h => g_wk [false, false, false, true, false, false] rfl h)
theorem g29 (X : X2) (a1 : Int) (a2 : Int) (s : S2) (o : Option (AV R2) × S2) : J (f29 a1 a2 s) (fun (r : Int) => o = (some (vI r), s)) (Go X 6 29 0 (am_loc (am_nl 29) [oR 1 0, vI a1, vI a2]) [] s o) := by
  show J _ _ (Go X 6 29 0 [some (oR 1 0), some (vI a1), some (vI a2), none, none, none] [] s o)
  unfold f29
  refine g_p q29 6 10 [some (oR 1 0), some (vI a1), some (vI a2), some (vI 256), some (vI 0), some (vI 0)] [] rfl ?_
  refine g_wkJ [true, true, true, true, true, true] (L0 := [some (oR 1 0), some (vI a1), some (vI a2), some (vI 256), some (vI 0), some (vI 0)]) rfl ?_
  refine g_itr (H29_a X a1 a2 s o) (E29_a X a1 a2 s o) (fun | (x3, x4, x5) => g29_a X a1 a2 x3 x4 x5 s o) ?_
  refine g_se ?_ ?_
  ·
    intro z14
    show J _ _ (Go X 6 29 52 [none, none, none, some (vI z14), none, none] [] s o)
    refine g_p q29 1 53 [none, none, none, some (vI z14), none, none] [vI z14] rfl ?_
    exact g_ret q29 rfl rfl rfl
  ·
    intro _
    show J _ _ (Go X 6 29 69 [none, none, none, none, none, none] [] s o)
    refine g_p q29 1 70 [none, none, none, none, none, none] [vI 1] rfl ?_
    exact g_ret q29 rfl rfl rfl
theorem q28 : am_cd 28 = am_c28 := rfl
def H28_a (X : X2) (y1 : Int) (s4 : S2) (o : Option (AV R2) × S2) (a : Int × Int) : Prop := Go X 7 28 4 [some (oR 1 0), some (vI y1), some (vI (a.1)), some (vI (a.2))] [] s4 o
def E28_a (X : X2) (y1 : Int) (s4 : S2) (o : Option (AV R2) × S2) : (Int) → Prop := (fun (r : Int) => Go X 7 28 32 [some (oR 1 0), some (vI y1), some (vI r), none] [] s4 o)
theorem g28_a (X : X2) (y1 : Int) (x2 : Int) (x3 : Int) (s4 : S2) (o : Option (AV R2) × S2) : J (f28_a x2 x3 s4) (am_kx (H28_a X y1 s4 o) (E28_a X y1 s4 o)) (Go X 7 28 4 [some (oR 1 0), some (vI y1), some (vI x2), some (vI x3)] [] s4 o) := by
  unfold f28_a
  refine g_p q28 2 6 [some (oR 1 0), some (vI y1), some (vI x2), some (vI x3)] [oR 1 0, vI x3] rfl ?_
  refine g_get q28 rfl rfl rfl (fun _ => rfl) (fun v5 => ?_)
  refine g_i2 q28 rfl rfl ?_ ?_
  ·
    exact g_end (fun h => g_wk [true, true, true, false] rfl h)
  ·
    refine g_p q28 2 14 [some (oR 1 0), some (vI y1), some (vI x2), some (vI x3)] [vI x3, oR 1 0] rfl ?_
    refine g_cPI q28 rfl (g23 X x3 s4) rfl rfl rfl rfl rfl (fun r6 => ?_)
    refine g_cPI q28 rfl (g27 X r6 s4) rfl rfl rfl rfl rfl (fun r7 => ?_)
    refine g_i1 q28 rfl rfl ?_ ?_
    ·
      exact g_end (fun h => g_wk [true, true, true, false] rfl h)
    ·
      refine g_inc (fun v8 => [some (oR 1 0), some (vI y1), some (vI v8), some (vI x3)]) q28 rfl rfl (fun _ => rfl) (fun v8 => ?_)
      refine g_inc (fun v9 => [some (oR 1 0), some (vI y1), some (vI v8), some (vI v9)]) q28 rfl rfl (fun _ => rfl) (fun v9 => ?_)
      refine g_p q28 1 4 [some (oR 1 0), some (vI y1), some (vI v8), some (vI v9)] [] rfl ?_
      exact g_end (fun h => g_wk [true, true, true, true] rfl h)
theorem g28 (X : X2) (a1 : Int) (s : S2) (o : Option (AV R2) × S2) : J (f28 a1 s) (fun (r : Int × S2) => o = (some (vI r.1), r.2)) (Go X 7 28 0 (am_loc (am_nl 28) [oR 1 0, vI a1]) [] s o) := by
  show J _ _ (Go X 7 28 0 [some (oR 1 0), some (vI a1), none, none] [] s o)
  unfold f28
  refine g_p q28 4 4 [some (oR 1 0), some (vI a1), some (vI 0), some (vI a1)] [] rfl ?_
  refine g_wkJ [true, true, true, true] (L0 := [some (oR 1 0), some (vI a1), some (vI 0), some (vI a1)]) rfl ?_
  refine g_itr (H28_a X a1 s o) (E28_a X a1 s o) (fun | (x2, x3) => g28_a X a1 x2 x3 s o) ?_
  intro z10
  show J _ _ (Go X 7 28 32 [some (oR 1 0), some (vI a1), some (vI z10), none] [] s o)
  refine g_p q28 4 36 [some (oR 1 0), some (vI a1), some (vI z10), none] [vI z10, vI a1, oR 1 0, oR 1 0] rfl ?_
  refine g_cPI q28 rfl (g29 X a1 z10 s) rfl rfl rfl rfl rfl (fun r11 => ?_)
  refine g_p q28 2 41 [some (oR 1 0), some (vI a1), some (vI z10), none] [vI 0, vI a1, vI r11, oR 1 0] rfl ?_
  refine g_cV q28 rfl (g26 X r11 a1 0 s) rfl rfl rfl rfl rfl (fun s12 => ?_)
  refine g_p q28 1 45 [some (oR 1 0), some (vI a1), some (vI z10), none] [vI z10] rfl ?_
  exact g_ret q28 rfl rfl rfl
theorem q283 : am_cd 283 = am_c283 := rfl
theorem g283 (X : X2) (a0 : Int) (s : S2) (o : Option (AV R2) × S2) : J (f283 a0) (fun (r : Int) => o = (some (vI r), s)) (Go X 1 283 0 (am_loc (am_nl 283) [vI a0]) [] s o) := by
  show J _ _ (Go X 1 283 0 [some (vI a0)] [] s o)
  unfold f283
  refine g_p q283 1 1 [some (vI a0)] [vI a0] rfl ?_
  refine g_i1 q283 rfl rfl ?_ ?_
  ·
    refine g_p q283 1 16 [some (vI a0)] [vI 0] rfl ?_
    exact g_ret q283 rfl rfl rfl
  ·
    refine g_p q283 2 8 [some (vI a0)] [vI 255, vI a0] rfl ?_
    refine g_i2 q283 rfl rfl ?_ ?_
    ·
      refine g_p q283 1 16 [some (vI a0)] [vI 0] rfl ?_
      exact g_ret q283 rfl rfl rfl
    ·
      refine g_p q283 2 16 [some (vI a0)] [vI 1] rfl ?_
      exact g_ret q283 rfl rfl rfl
theorem q284 : am_cd 284 = am_c284 := rfl
def H284_a (X : X2) (y2 : Nat) (y3 : Int) (y4 : Int) (s6 : S2) (o : Option (AV R2) × S2) (a : Int) : Prop := Go X 1 284 7 [some (aR 6002 y2), none, none, some (vI y3), some (vI y4), some (vI a)] [] s6 o
def E284_a (X : X2) (y2 : Nat) (y3 : Int) (y4 : Int) (s6 : S2) (o : Option (AV R2) × S2) : (Int) ⊕ (Unit) → Prop := (am_kx (fun (r : Int) => Go X 1 284 22 [none, none, none, none, none, some (vI r)] [] s6 o) (fun (r : Unit) => Go X 1 284 31 [none, none, none, none, none, none] [] s6 o))
theorem g284_a (X : X2) (y2 : Nat) (y3 : Int) (y4 : Int) (x5 : Int) (s6 : S2) (hy2 : y2 < am_T.length) (o : Option (AV R2) × S2) : J (f284_a y2 y3 y4 x5) (am_kx (H284_a X y2 y3 y4 s6 o) (E284_a X y2 y3 y4 s6 o)) (Go X 1 284 7 [some (aR 6002 y2), none, none, some (vI y3), some (vI y4), some (vI x5)] [] s6 o) := by
  unfold f284_a
  refine g_p q284 2 10 [some (aR 6002 y2), none, none, some (vI y3), some (vI y4), some (vI x5)] [vI y3, vI x5] rfl ?_
  refine g_i2 q284 rfl rfl ?_ ?_
  ·
    exact g_end (fun h => g_wk [false, false, false, false, false, false] rfl h)
  ·
    refine g_p q284 2 16 [some (aR 6002 y2), none, none, some (vI y3), some (vI y4), some (vI x5)] [vI x5, aR 6002 y2] rfl ?_
    refine g_ldt hy2 q284 rfl rfl rfl (fun v7 => ?_)
    refine g_p q284 1 19 [some (aR 6002 y2), none, none, some (vI y3), some (vI y4), some (vI x5)] [vI y4, vI v7] rfl ?_
    refine g_i2 q284 rfl rfl ?_ ?_
    ·
      refine g_inc (fun v8 => [some (aR 6002 y2), none, none, some (vI y3), some (vI y4), some (vI v8)]) q284 rfl rfl (fun _ => rfl) (fun v8 => ?_)
      refine g_p q284 1 7 [some (aR 6002 y2), none, none, some (vI y3), some (vI y4), some (vI v8)] [] rfl ?_
      exact g_end (fun h => g_wk [true, false, false, true, true, true] rfl h)
    ·
      exact g_end (fun h => g_wk [false, false, false, false, false, true] rfl h)
theorem g284 (X : X2) (a0 : Nat) (a1 : Int) (a2 : Int) (a3 : Int) (s : S2) (ha0 : a0 < am_T.length) (o : Option (AV R2) × S2) : J (f284 a0 a1 a2 a3) (fun (r : Int) => o = (some (vI r), s)) (Go X 1 284 0 (am_loc (am_nl 284) [aR 6002 a0, vI a1, vI a2, vI a3]) [] s o) := by
  show J _ _ (Go X 1 284 0 [some (aR 6002 a0), some (vI a1), some (vI a2), some (vI a3), none, none] [] s o)
  unfold f284
  refine g_p q284 2 2 [some (aR 6002 a0), some (vI a1), some (vI a2), some (vI a3), none, none] [vI (ji2b a1)] rfl ?_
  refine g_top (fun v1 => ?_)
  refine g_p q284 3 7 [some (aR 6002 a0), some (vI a1), some (vI a2), some (vI a3), some (vI v1), some (vI a2)] [] rfl ?_
  refine g_wkJ [true, false, false, true, true, true] (L0 := [some (aR 6002 a0), none, none, some (vI a3), some (vI v1), some (vI a2)]) rfl ?_
  refine g_itr (H284_a X a0 a3 v1 s o) (E284_a X a0 a3 v1 s o) (fun x5 => g284_a X a0 a3 v1 x5 s ha0 o) ?_
  refine g_se ?_ ?_
  ·
    intro z9
    show J _ _ (Go X 1 284 22 [none, none, none, none, none, some (vI z9)] [] s o)
    refine g_p q284 1 24 [none, none, none, none, none, some (vI z9)] [vI z9] rfl ?_
    exact g_ret q284 rfl rfl rfl
  ·
    intro _
    show J _ _ (Go X 1 284 31 [none, none, none, none, none, none] [] s o)
    refine g_p q284 1 32 [none, none, none, none, none, none] [vI (-1)] rfl ?_
    exact g_ret q284 rfl rfl rfl
theorem q282 : am_cd 282 = am_c282 := rfl
theorem g282 (X : X2) (a0 : Nat) (a1 : Int) (a2 : Int) (a3 : Int) (s : S2) (ha0 : a0 < am_T.length) (o : Option (AV R2) × S2) : J (f282 a0 a1 a2 a3) (fun (r : Int) => o = (some (vI r), s)) (Go X 2 282 0 (am_loc (am_nl 282) [aR 6002 a0, vI a1, vI a2, vI a3]) [] s o) := by
  show J _ _ (Go X 2 282 0 [some (aR 6002 a0), some (vI a1), some (vI a2), some (vI a3)] [] s o)
  unfold f282
  refine g_p q282 1 1 [some (aR 6002 a0), some (vI a1), some (vI a2), some (vI a3)] [vI a1] rfl ?_
  refine g_cPI q282 rfl (g283 X a1 s) rfl rfl rfl rfl rfl (fun r1 => ?_)
  refine g_i1 q282 rfl rfl ?_ ?_
  ·
    refine g_p q282 2 11 [some (aR 6002 a0), some (vI a1), some (vI a2), some (vI a3)] [vI 0, vI a2] rfl ?_
    refine g_m (S := [vI (jmax a2 0)]) (some (vI (jmax a2 0))) q282 rfl rfl rfl (fun _ => rfl) rfl ?_
    refine g_top (fun v2 => ?_)
    refine g_p q282 3 17 [some (aR 6002 a0), some (vI a1), some (vI v2), some (vI a3)] [aR 6002 a0, vI a3] rfl ?_
    refine g_m (S := [vI (((m2_tb a0).length : Nat) : Int), vI a3]) (some (vI (((m2_tb a0).length : Nat) : Int))) q282 rfl rfl rfl (fun _ => if_pos ha0) rfl ?_
    refine g_m (S := [vI (jmin a3 (((m2_tb a0).length : Nat) : Int))]) (some (vI (jmin a3 (((m2_tb a0).length : Nat) : Int)))) q282 rfl rfl rfl (fun _ => rfl) rfl ?_
    refine g_top (fun v3 => ?_)
    refine g_p q282 3 24 [some (aR 6002 a0), some (vI a1), some (vI v2), some (vI v3)] [vI v3, vI v2] rfl ?_
    refine g_i2 q282 rfl rfl ?_ ?_
    ·
      refine g_p q282 4 33 [some (aR 6002 a0), some (vI a1), some (vI v2), some (vI v3)] [vI v3, vI v2, vI a1, aR 6002 a0] rfl ?_
      refine g_cPI q282 rfl (g284 X a0 a1 v2 v3 s ha0) rfl rfl rfl rfl rfl (fun r4 => ?_)
      exact g_ret q282 rfl rfl rfl
    ·
      refine g_p q282 1 28 [some (aR 6002 a0), some (vI a1), some (vI v2), some (vI v3)] [vI (-1)] rfl ?_
      exact g_ret q282 rfl rfl rfl
  ·
    refine g_p q282 1 8 [some (aR 6002 a0), some (vI a1), some (vI a2), some (vI a3)] [vI (-1)] rfl ?_
    exact g_ret q282 rfl rfl rfl
theorem q279 : am_cd 279 = am_c279 := rfl
theorem g279 (X : X2) (a0 : Nat) (a1 : Int) (a2 : Int) (s : S2) (ha0 : a0 < am_T.length) (o : Option (AV R2) × S2) : J (f279 a0 a1 a2) (fun (r : Int) => o = (some (vI r), s)) (Go X 3 279 0 (am_loc (am_nl 279) [oR 16 a0, vI a1, vI a2]) [] s o) := by
  show J _ _ (Go X 3 279 0 [some (oR 16 a0), some (vI a1), some (vI a2)] [] s o)
  unfold f279
  refine g_p q279 1 1 [some (oR 16 a0), some (vI a1), some (vI a2)] [oR 16 a0] rfl ?_
  refine g_cPI q279 rfl (g277 X a0 s ha0) rfl rfl rfl rfl rfl (fun r1 => ?_)
  refine g_i1 q279 rfl rfl ?_ ?_
  ·
    refine g_p q279 1 24 [some (oR 16 a0), some (vI a1), some (vI a2)] [oR 16 a0] rfl ?_
    refine g_m (S := [aR 6002 a0]) (some (aR 6002 a0)) q279 rfl rfl rfl (fun _ => rfl) rfl ?_
    refine g_p q279 3 30 [some (oR 16 a0), some (vI a1), some (vI a2)] [oR 16 a0, vI a2, vI a1, aR 6002 a0] rfl ?_
    refine g_cPI q279 rfl (g274 X a0 s ha0) rfl rfl rfl rfl rfl (fun r2 => ?_)
    exact g_no
  ·
    refine g_p q279 1 8 [some (oR 16 a0), some (vI a1), some (vI a2)] [oR 16 a0] rfl ?_
    refine g_m (S := [aR 6002 a0]) (some (aR 6002 a0)) q279 rfl rfl rfl (fun _ => rfl) rfl ?_
    refine g_p q279 3 14 [some (oR 16 a0), some (vI a1), some (vI a2)] [oR 16 a0, vI a2, vI a1, aR 6002 a0] rfl ?_
    refine g_cPI q279 rfl (g274 X a0 s ha0) rfl rfl rfl rfl rfl (fun r3 => ?_)
    refine g_cPI q279 rfl (g282 X a0 a1 a2 r3 s ha0) rfl rfl rfl rfl rfl (fun r4 => ?_)
    refine g_p q279 1 36 [some (oR 16 a0), some (vI a1), some (vI a2)] [vI r4] rfl ?_
    exact g_ret q279 rfl rfl rfl
theorem q278 : am_cd 278 = am_c278 := rfl
theorem g278 (X : X2) (a0 : Nat) (a1 : Int) (s : S2) (ha0 : a0 < am_T.length) (o : Option (AV R2) × S2) : J (f278 a0 a1) (fun (r : Int) => o = (some (vI r), s)) (Go X 4 278 0 (am_loc (am_nl 278) [oR 16 a0, vI a1]) [] s o) := by
  show J _ _ (Go X 4 278 0 [some (oR 16 a0), some (vI a1)] [] s o)
  unfold f278
  refine g_p q278 3 3 [some (oR 16 a0), some (vI a1)] [vI 0, vI a1, oR 16 a0] rfl ?_
  refine g_cPI q278 rfl (g279 X a0 a1 0 s ha0) rfl rfl rfl rfl rfl (fun r1 => ?_)
  exact g_ret q278 rfl rfl rfl
theorem q31 : am_cd 31 = am_c31 := rfl
theorem g31 (X : X2) (a1 : Int) (s : S2) (o : Option (AV R2) × S2) : J (f31 a1 s) (fun (r : Int × S2) => o = (some (vI r.1), r.2)) (Go X 5 31 0 (am_loc (am_nl 31) [oR 1 0, vI a1]) [] s o) := by
  show J _ _ (Go X 5 31 0 [some (oR 1 0), some (vI a1), none] [] s o)
  unfold f31
  refine g_p q31 2 2 [some (oR 1 0), some (vI a1), none] [vI a1, oR 1 0] rfl ?_
  refine g_cPI q31 rfl (g23 X a1 s) rfl rfl rfl rfl rfl (fun r1 => ?_)
  refine g_p q31 5 10 [some (oR 1 0), some (vI a1), some (vI r1)] [vI (jadd a1 1), oR 1 0] rfl ?_
  refine g_cPI q31 rfl (g23 X (jadd a1 1) s) rfl rfl rfl rfl rfl (fun r2 => ?_)
  refine g_p q31 1 15 [some (oR 1 0), some (vI a1), some (vI r1)] [vI 61, vI r2] rfl ?_
  refine g_jn (fun j49 => ∀ (_ : Unit), J (j49 ()) (fun (r : Int × S2) => o = (some (vI r.1), r.2)) (Go X 5 31 49 [some (oR 1 0), some (vI a1), some (vI r1)] [] s o)) ?_ (fun j49 hj49 => ?_)
  ·
    intro _
    refine g_p q31 1 50 [some (oR 1 0), some (vI a1), some (vI r1)] [oR 1 0] rfl ?_
    refine g_m (S := [oR 16 1, oR 1 0]) (some (oR 16 1)) q31 rfl rfl rfl (fun _ => rfl) rfl ?_
    refine g_p q31 2 54 [some (oR 1 0), some (vI a1), some (vI r1)] [vI (ji2c r1), oR 16 1, oR 1 0] rfl ?_
    refine g_cPI q31 rfl (g278 X 1 (ji2c r1) s (Nat.le_of_ble_eq_true rfl)) rfl rfl rfl rfl rfl (fun r3 => ?_)
    refine g_jn (fun j65 => ∀ (x4 : Int), J (j65 x4) (fun (r : Int × S2) => o = (some (vI r.1), r.2)) (Go X 5 31 65 [none, some (vI a1), none] [vI x4, oR 1 0] s o)) ?_ (fun j65 hj65 => ?_)
    ·
      intro x4
      refine g_p q31 2 67 [none, some (vI a1), none] [vI 0, vI a1, vI x4, oR 1 0] rfl ?_
      refine g_cV q31 rfl (g26 X x4 a1 0 s) rfl rfl rfl rfl rfl (fun s5 => ?_)
      refine g_p q31 1 71 [none, some (vI a1), none] [vI 1] rfl ?_
      exact g_ret q31 rfl rfl rfl
    ·
      refine g_i1 q31 rfl rfl ?_ ?_
      ·
        refine g_p q31 1 65 [some (oR 1 0), some (vI a1), some (vI r1)] [vI 1, oR 1 0] rfl ?_
        exact g_wkJ [false, true, false] rfl (hj65 1)
      ·
        refine g_p q31 2 65 [some (oR 1 0), some (vI a1), some (vI r1)] [vI r1, oR 1 0] rfl ?_
        exact g_wkJ [false, true, false] rfl (hj65 r1)
  ·
    refine g_i2 q31 rfl rfl ?_ ?_
    ·
      exact g_wkJ [true, true, true] rfl (hj49 ())
    ·
      refine g_p q31 2 21 [some (oR 1 0), some (vI a1), some (vI r1)] [vI 60, vI r1] rfl ?_
      refine g_jn (fun j30 => ∀ (_ : Unit), J (j30 ()) (fun (r : Int × S2) => o = (some (vI r.1), r.2)) (Go X 5 31 30 [some (oR 1 0), some (vI a1), some (vI r1)] [] s o)) ?_ (fun j30 hj30 => ?_)
      ·
        intro _
        refine g_p q31 3 34 [some (oR 1 0), some (vI a1), some (vI r1)] [vI 60, vI r1, oR 1 0] rfl ?_
        refine g_jn (fun j42 => ∀ (x6 : Int), J (j42 x6) (fun (r : Int × S2) => o = (some (vI r.1), r.2)) (Go X 5 31 42 [none, some (vI a1), none] [vI x6, oR 1 0] s o)) ?_ (fun j42 hj42 => ?_)
        ·
          intro x6
          refine g_p q31 2 44 [none, some (vI a1), none] [vI 0, vI a1, vI x6, oR 1 0] rfl ?_
          refine g_cV q31 rfl (g26 X x6 a1 0 s) rfl rfl rfl rfl rfl (fun s7 => ?_)
          refine g_p q31 1 48 [none, some (vI a1), none] [vI 2] rfl ?_
          exact g_ret q31 rfl rfl rfl
        ·
          refine g_i2 q31 rfl rfl ?_ ?_
          ·
            refine g_p q31 1 42 [some (oR 1 0), some (vI a1), some (vI r1)] [vI 4, oR 1 0] rfl ?_
            exact g_wkJ [false, true, false] rfl (hj42 4)
          ·
            refine g_p q31 2 42 [some (oR 1 0), some (vI a1), some (vI r1)] [vI 3, oR 1 0] rfl ?_
            exact g_wkJ [false, true, false] rfl (hj42 3)
      ·
        refine g_i2 q31 rfl rfl ?_ ?_
        ·
          exact g_wkJ [true, true, true] rfl (hj30 ())
        ·
          refine g_p q31 2 27 [some (oR 1 0), some (vI a1), some (vI r1)] [vI 62, vI r1] rfl ?_
          refine g_i2 q31 rfl rfl ?_ ?_
          ·
            exact g_wkJ [true, true, true] rfl (hj49 ())
          ·
            exact g_wkJ [true, true, true] rfl (hj30 ())
theorem q22 : am_cd 22 = am_c22 := rfl
theorem g22 (X : X2) (a1 : Int) (s : S2) (o : Option (AV R2) × S2) : J (f22 a1 s) (fun (r : Int × S2) => o = (some (vI r.1), r.2)) (Go X 8 22 0 (am_loc (am_nl 22) [oR 1 0, vI a1]) [] s o) := by
  show J _ _ (Go X 8 22 0 [some (oR 1 0), some (vI a1), none] [] s o)
  unfold f22
  refine g_p q22 2 2 [some (oR 1 0), some (vI a1), none] [vI a1, oR 1 0] rfl ?_
  refine g_cPI q22 rfl (g23 X a1 s) rfl rfl rfl rfl rfl (fun r1 => ?_)
  refine g_p q22 3 9 [some (oR 1 0), some (vI a1), some (vI r1)] [vI 32, vI r1] rfl ?_
  refine g_i2 q22 rfl rfl ?_ ?_
  ·
    refine g_p q22 1 15 [some (oR 1 0), some (vI a1), some (vI r1)] [vI r1] rfl ?_
    refine g_cPI q22 rfl (g24 X r1 s) rfl rfl rfl rfl rfl (fun r2 => ?_)
    refine g_i1 q22 rfl rfl ?_ ?_
    ·
      refine g_p q22 1 28 [some (oR 1 0), some (vI a1), some (vI r1)] [vI r1] rfl ?_
      refine g_cPI q22 rfl (g27 X r1 s) rfl rfl rfl rfl rfl (fun r3 => ?_)
      refine g_i1 q22 rfl rfl ?_ ?_
      ·
        refine g_p q22 2 44 [some (oR 1 0), some (vI a1), some (vI r1)] [vI a1, oR 1 0] rfl ?_
        refine g_cRI q22 rfl (g31 X a1 s) rfl rfl rfl rfl rfl (fun r4 s5 => ?_)
        exact g_ret q22 rfl rfl rfl
      ·
        refine g_p q22 2 36 [some (oR 1 0), some (vI a1), some (vI r1)] [vI a1, oR 1 0] rfl ?_
        refine g_cRI q22 rfl (g28 X a1 s) rfl rfl rfl rfl rfl (fun r6 s7 => ?_)
        refine g_p q22 1 47 [some (oR 1 0), some (vI a1), some (vI r1)] [vI r6] rfl ?_
        exact g_ret q22 rfl rfl rfl
    ·
      refine g_p q22 2 23 [some (oR 1 0), some (vI a1), some (vI r1)] [vI a1, oR 1 0] rfl ?_
      refine g_cRI q22 rfl (g25 X a1 s) rfl rfl rfl rfl rfl (fun r8 s9 => ?_)
      exact g_ret q22 rfl rfl rfl
  ·
    refine g_p q22 1 13 [some (oR 1 0), some (vI a1), some (vI r1)] [vI 1] rfl ?_
    exact g_ret q22 rfl rfl rfl
theorem q21 : am_cd 21 = am_c21 := rfl
def H21_a (X : X2) (o : Option (AV R2) × S2) (a : Int × Int × S2) : Prop := Go X 9 21 19 [some (oR 1 0), some (vI (a.1)), some (vI (a.2.1))] [] (a.2.2) o
def E21_a (X : X2) (o : Option (AV R2) × S2) : (S2) → Prop := (fun (r : S2) => Go X 9 21 48 [some (oR 1 0), none, none] [] r o)
theorem g21_a (X : X2) (x4 : Int) (x5 : Int) (s6 : S2) (o : Option (AV R2) × S2) : J (f21_a x4 x5 s6) (am_kx (H21_a X o) (E21_a X o)) (Go X 9 21 19 [some (oR 1 0), some (vI x4), some (vI x5)] [] s6 o) := by
  unfold f21_a
  refine g_p q21 2 23 [some (oR 1 0), some (vI x4), some (vI x5)] [vI 400, vI x5] rfl ?_
  refine g_i2 q21 rfl rfl ?_ ?_
  ·
    exact g_end (fun h => g_wk [true, false, false] rfl h)
  ·
    refine g_p q21 2 28 [some (oR 1 0), some (vI x4), some (vI x5)] [oR 1 0, vI x4] rfl ?_
    refine g_get q21 rfl rfl rfl (fun _ => rfl) (fun v7 => ?_)
    refine g_i2 q21 rfl rfl ?_ ?_
    ·
      exact g_end (fun h => g_wk [true, false, false] rfl h)
    ·
      refine g_p q21 3 37 [some (oR 1 0), some (vI x4), some (vI x5)] [vI x4, oR 1 0, vI x4] rfl ?_
      refine g_cRI q21 rfl (g22 X x4 s6) rfl rfl rfl rfl rfl (fun r8 s9 => ?_)
      refine g_p q21 1 41 [some (oR 1 0), some (vI x4), some (vI x5)] [vI (jadd x4 r8)] rfl ?_
      refine g_top (fun v10 => ?_)
      refine g_p q21 1 42 [some (oR 1 0), some (vI v10), some (vI x5)] [] rfl ?_
      refine g_inc (fun v11 => [some (oR 1 0), some (vI v10), some (vI v11)]) q21 rfl rfl (fun _ => rfl) (fun v11 => ?_)
      refine g_p q21 1 19 [some (oR 1 0), some (vI v10), some (vI v11)] [] rfl ?_
      exact g_end (fun h => g_wk [true, true, true] rfl h)
theorem g21 (X : X2) (s : S2) (o : Option (AV R2) × S2) : J (f21 s) (fun (r : S2) => o = (none, r)) (Go X 9 21 0 (am_loc (am_nl 21) [oR 1 0]) [] s o) := by
  show J _ _ (Go X 9 21 0 [some (oR 1 0), none, none] [] s o)
  unfold f21
  refine g_p q21 2 2 [some (oR 1 0), none, none] [vI 0, oR 1 0] rfl ?_
  refine g_put q21 rfl rfl rfl (fun _ => rfl) (fun s1 => ?_)
  refine g_p q21 2 7 [some (oR 1 0), none, none] [vI 0, oR 1 0] rfl ?_
  refine g_put q21 rfl rfl rfl (fun _ => rfl) (fun s2 => ?_)
  refine g_p q21 2 12 [some (oR 1 0), none, none] [vI 0, oR 1 0] rfl ?_
  refine g_put q21 rfl rfl rfl (fun _ => rfl) (fun s3 => ?_)
  refine g_p q21 4 19 [some (oR 1 0), some (vI 0), some (vI 0)] [] rfl ?_
  refine g_wkJ [true, true, true] (L0 := [some (oR 1 0), some (vI 0), some (vI 0)]) rfl ?_
  refine g_itr (H21_a X o) (E21_a X o) (fun | (x4, x5, s6) => g21_a X x4 x5 s6 o) ?_
  intro s12
  show J _ _ (Go X 9 21 48 [some (oR 1 0), none, none] [] s12 o)
  refine g_p q21 3 51 [some (oR 1 0), none, none] [oR 1 0, vI 0, oR 1 0] rfl ?_
  refine g_get q21 rfl rfl rfl (fun _ => rfl) (fun v13 => ?_)
  refine g_p q21 1 55 [some (oR 1 0), none, none] [vI 0, vI v13, vI 0, oR 1 0] rfl ?_
  refine g_cV q21 rfl (g26 X 0 v13 0 s12) rfl rfl rfl rfl rfl (fun s14 => ?_)
  exact g_retV q21 rfl rfl
theorem q32 : am_cd 32 = am_c32 := rfl
theorem g32 (X : X2) (s : S2) (o : Option (AV R2) × S2) : J (f32 s) (fun (r : Int) => o = (some (vI r), s)) (Go X 1 32 0 (am_loc (am_nl 32) [oR 1 0]) [] s o) := by
  show J _ _ (Go X 1 32 0 [some (oR 1 0)] [] s o)
  unfold f32
  refine g_p q32 1 1 [some (oR 1 0)] [oR 1 0] rfl ?_
  refine g_get q32 rfl rfl rfl (fun _ => rfl) (fun v1 => ?_)
  refine g_i1 q32 rfl rfl ?_ ?_
  ·
    refine g_p q32 1 39 [some (oR 1 0)] [vI 0] rfl ?_
    exact g_ret q32 rfl rfl rfl
  ·
    refine g_p q32 1 8 [some (oR 1 0)] [oR 1 0] rfl ?_
    refine g_get q32 rfl rfl rfl (fun _ => rfl) (fun v2 => ?_)
    refine g_i1 q32 rfl rfl ?_ ?_
    ·
      refine g_p q32 1 39 [some (oR 1 0)] [vI 0] rfl ?_
      exact g_ret q32 rfl rfl rfl
    ·
      refine g_p q32 1 15 [some (oR 1 0)] [oR 1 0] rfl ?_
      refine g_get q32 rfl rfl rfl (fun _ => rfl) (fun v3 => ?_)
      refine g_p q32 1 19 [some (oR 1 0)] [oR 1 0, vI v3] rfl ?_
      refine g_m (S := [aR 130 0, vI v3]) (some (aR 130 0)) q32 rfl rfl rfl (fun _ => rfl) rfl ?_
      refine g_m (S := [vI 401, vI v3]) (some (vI 401)) q32 rfl rfl rfl (fun _ => rfl) rfl ?_
      refine g_i2 q32 rfl rfl ?_ ?_
      ·
        refine g_p q32 1 39 [some (oR 1 0)] [vI 0] rfl ?_
        exact g_ret q32 rfl rfl rfl
      ·
        refine g_p q32 1 27 [some (oR 1 0)] [oR 1 0] rfl ?_
        refine g_m (S := [aR 130 0]) (some (aR 130 0)) q32 rfl rfl rfl (fun _ => rfl) rfl ?_
        refine g_p q32 1 31 [some (oR 1 0)] [oR 1 0, aR 130 0] rfl ?_
        refine g_get q32 rfl rfl rfl (fun _ => rfl) (fun v4 => ?_)
        refine g_ld q32 rfl rfl rfl rfl rfl rfl (fun v5 => ?_)
        refine g_p q32 1 39 [some (oR 1 0)] [vI v5] rfl ?_
        exact g_ret q32 rfl rfl rfl
theorem q33 : am_cd 33 = am_c33 := rfl
theorem g33 (X : X2) (a0 : Int) (s : S2) (o : Option (AV R2) × S2) : J (f33 a0) (fun (r : Int) => o = (some (vI r), s)) (Go X 1 33 0 (am_loc (am_nl 33) [vI a0]) [] s o) := by
  show J _ _ (Go X 1 33 0 [some (vI a0)] [] s o)
  unfold f33
  refine g_p q33 2 4 [some (vI a0)] [vI 274, vI a0] rfl ?_
  refine g_i2 q33 rfl rfl ?_ ?_
  ·
    refine g_p q33 2 47 [some (vI a0)] [vI 1] rfl ?_
    exact g_ret q33 rfl rfl rfl
  ·
    refine g_p q33 2 11 [some (vI a0)] [vI 256, vI a0] rfl ?_
    refine g_i2 q33 rfl rfl ?_ ?_
    ·
      refine g_p q33 2 47 [some (vI a0)] [vI 1] rfl ?_
      exact g_ret q33 rfl rfl rfl
    ·
      refine g_p q33 2 18 [some (vI a0)] [vI 257, vI a0] rfl ?_
      refine g_i2 q33 rfl rfl ?_ ?_
      ·
        refine g_p q33 2 47 [some (vI a0)] [vI 1] rfl ?_
        exact g_ret q33 rfl rfl rfl
      ·
        refine g_p q33 2 25 [some (vI a0)] [vI 275, vI a0] rfl ?_
        refine g_i2 q33 rfl rfl ?_ ?_
        ·
          refine g_p q33 2 47 [some (vI a0)] [vI 1] rfl ?_
          exact g_ret q33 rfl rfl rfl
        ·
          refine g_p q33 2 32 [some (vI a0)] [vI 276, vI a0] rfl ?_
          refine g_i2 q33 rfl rfl ?_ ?_
          ·
            refine g_p q33 2 47 [some (vI a0)] [vI 1] rfl ?_
            exact g_ret q33 rfl rfl rfl
          ·
            refine g_p q33 2 39 [some (vI a0)] [vI 268, vI a0] rfl ?_
            refine g_i2 q33 rfl rfl ?_ ?_
            ·
              refine g_p q33 1 47 [some (vI a0)] [vI 0] rfl ?_
              exact g_ret q33 rfl rfl rfl
            ·
              refine g_p q33 2 47 [some (vI a0)] [vI 1] rfl ?_
              exact g_ret q33 rfl rfl rfl
theorem q34 : am_cd 34 = am_c34 := rfl
theorem g34 (X : X2) (a1 : Int) (s : S2) (o : Option (AV R2) × S2) : J (f34 a1 s) (fun (r : S2) => o = (none, r)) (Go X 1 34 0 (am_loc (am_nl 34) [oR 1 0, vI a1]) [] s o) := by
  show J _ _ (Go X 1 34 0 [some (oR 1 0), some (vI a1)] [] s o)
  unfold f34
  refine g_p q34 1 1 [some (oR 1 0), some (vI a1)] [oR 1 0] rfl ?_
  refine g_get q34 rfl rfl rfl (fun _ => rfl) (fun v1 => ?_)
  refine g_i1 q34 rfl rfl ?_ ?_
  ·
    exact g_retV q34 rfl rfl
  ·
    refine g_p q34 1 8 [some (oR 1 0), some (vI a1)] [oR 1 0] rfl ?_
    refine g_get q34 rfl rfl rfl (fun _ => rfl) (fun v2 => ?_)
    refine g_i1 q34 rfl rfl ?_ ?_
    ·
      exact g_retV q34 rfl rfl
    ·
      refine g_p q34 1 15 [some (oR 1 0), some (vI a1)] [oR 1 0] rfl ?_
      refine g_get q34 rfl rfl rfl (fun _ => rfl) (fun v3 => ?_)
      refine g_p q34 1 19 [some (oR 1 0), some (vI a1)] [oR 1 0, vI v3] rfl ?_
      refine g_m (S := [aR 131 0, vI v3]) (some (aR 131 0)) q34 rfl rfl rfl (fun _ => rfl) rfl ?_
      refine g_m (S := [vI 401, vI v3]) (some (vI 401)) q34 rfl rfl rfl (fun _ => rfl) rfl ?_
      refine g_i2 q34 rfl rfl ?_ ?_
      ·
        exact g_retV q34 rfl rfl
      ·
        refine g_p q34 4 31 [some (oR 1 0), some (vI a1)] [oR 1 0, vI 8, vI 1, oR 1 0] rfl ?_
        refine g_m (S := [aR 131 0, vI 8, vI 1, oR 1 0]) (some (aR 131 0)) q34 rfl rfl rfl (fun _ => rfl) rfl ?_
        refine g_p q34 1 35 [some (oR 1 0), some (vI a1)] [oR 1 0, aR 131 0, vI 8, vI 1, oR 1 0] rfl ?_
        refine g_get q34 rfl rfl rfl (fun _ => rfl) (fun v4 => ?_)
        refine g_ld q34 rfl rfl rfl rfl rfl rfl (fun v5 => ?_)
        refine g_p q34 4 43 [some (oR 1 0), some (vI a1)] [vI (jadd (jadd 1 (jmul 8 v5)) a1), oR 1 0] rfl ?_
        refine g_put q34 rfl rfl rfl (fun _ => rfl) (fun s6 => ?_)
        exact g_retV q34 rfl rfl
theorem q35 : am_cd 35 = am_c35 := rfl
theorem g35 (X : X2) (a1 : Int) (s : S2) (o : Option (AV R2) × S2) : J (f35 a1 s) (fun (r : Int) => o = (some (vI r), s)) (Go X 1 35 0 (am_loc (am_nl 35) [oR 2 0, vI a1]) [] s o) := by
  show J _ _ (Go X 1 35 0 [some (oR 2 0), some (vI a1)] [] s o)
  unfold f35
  refine g_p q35 1 1 [some (oR 2 0), some (vI a1)] [vI a1] rfl ?_
  refine g_sw q35 rfl ?_
  refine g_swc ?_ ?_
  ·
    refine g_p q35 1 69 [some (oR 2 0), some (vI a1)] [oR 2 0] rfl ?_
    refine g_m (S := [oR 3 5]) (some (oR 3 5)) q35 rfl rfl rfl (fun _ => rfl) rfl ?_
    refine g_get q35 rfl rfl rfl (fun _ => rfl) (fun v1 => ?_)
    refine g_i1 q35 rfl rfl ?_ ?_
    ·
      refine g_p q35 1 94 [some (oR 2 0), some (vI a1)] [vI 0] rfl ?_
      exact g_ret q35 rfl rfl rfl
    ·
      refine g_p q35 1 79 [some (oR 2 0), some (vI a1)] [oR 2 0] rfl ?_
      refine g_m (S := [oR 3 5]) (some (oR 3 5)) q35 rfl rfl rfl (fun _ => rfl) rfl ?_
      refine g_get q35 rfl rfl rfl (fun _ => rfl) (fun v2 => ?_)
      refine g_p q35 1 86 [some (oR 2 0), some (vI a1)] [vI 4, vI v2] rfl ?_
      refine g_i2 q35 rfl rfl ?_ ?_
      ·
        refine g_p q35 1 94 [some (oR 2 0), some (vI a1)] [vI 0] rfl ?_
        exact g_ret q35 rfl rfl rfl
      ·
        refine g_p q35 2 94 [some (oR 2 0), some (vI a1)] [vI 1] rfl ?_
        exact g_ret q35 rfl rfl rfl
  ·
    refine g_swc ?_ ?_
    ·
      refine g_p q35 1 96 [some (oR 2 0), some (vI a1)] [oR 2 0] rfl ?_
      refine g_m (S := [oR 3 5]) (some (oR 3 5)) q35 rfl rfl rfl (fun _ => rfl) rfl ?_
      refine g_get q35 rfl rfl rfl (fun _ => rfl) (fun v3 => ?_)
      refine g_i1 q35 rfl rfl ?_ ?_
      ·
        refine g_p q35 1 122 [some (oR 2 0), some (vI a1)] [vI 0] rfl ?_
        exact g_ret q35 rfl rfl rfl
      ·
        refine g_p q35 1 106 [some (oR 2 0), some (vI a1)] [oR 2 0] rfl ?_
        refine g_m (S := [oR 3 5]) (some (oR 3 5)) q35 rfl rfl rfl (fun _ => rfl) rfl ?_
        refine g_get q35 rfl rfl rfl (fun _ => rfl) (fun v4 => ?_)
        refine g_p q35 1 114 [some (oR 2 0), some (vI a1)] [vI 6, vI v4] rfl ?_
        refine g_i2 q35 rfl rfl ?_ ?_
        ·
          refine g_p q35 1 122 [some (oR 2 0), some (vI a1)] [vI 0] rfl ?_
          exact g_ret q35 rfl rfl rfl
        ·
          refine g_p q35 2 122 [some (oR 2 0), some (vI a1)] [vI 1] rfl ?_
          exact g_ret q35 rfl rfl rfl
    ·
      refine g_swc ?_ ?_
      ·
        refine g_p q35 1 152 [some (oR 2 0), some (vI a1)] [oR 2 0] rfl ?_
        refine g_m (S := [oR 3 5]) (some (oR 3 5)) q35 rfl rfl rfl (fun _ => rfl) rfl ?_
        refine g_get q35 rfl rfl rfl (fun _ => rfl) (fun v5 => ?_)
        refine g_i1 q35 rfl rfl ?_ ?_
        ·
          refine g_p q35 1 177 [some (oR 2 0), some (vI a1)] [vI 0] rfl ?_
          exact g_ret q35 rfl rfl rfl
        ·
          refine g_p q35 1 162 [some (oR 2 0), some (vI a1)] [oR 2 0] rfl ?_
          refine g_m (S := [oR 3 5]) (some (oR 3 5)) q35 rfl rfl rfl (fun _ => rfl) rfl ?_
          refine g_get q35 rfl rfl rfl (fun _ => rfl) (fun v6 => ?_)
          refine g_p q35 1 169 [some (oR 2 0), some (vI a1)] [vI 3, vI v6] rfl ?_
          refine g_i2 q35 rfl rfl ?_ ?_
          ·
            refine g_p q35 1 177 [some (oR 2 0), some (vI a1)] [vI 0] rfl ?_
            exact g_ret q35 rfl rfl rfl
          ·
            refine g_p q35 2 177 [some (oR 2 0), some (vI a1)] [vI 1] rfl ?_
            exact g_ret q35 rfl rfl rfl
      ·
        refine g_swc ?_ ?_
        ·
          refine g_p q35 1 53 [some (oR 2 0), some (vI a1)] [oR 2 0] rfl ?_
          refine g_m (S := [oR 3 5]) (some (oR 3 5)) q35 rfl rfl rfl (fun _ => rfl) rfl ?_
          refine g_get q35 rfl rfl rfl (fun _ => rfl) (fun v7 => ?_)
          refine g_i1 q35 rfl rfl ?_ ?_
          ·
            refine g_p q35 1 67 [some (oR 2 0), some (vI a1)] [vI 0] rfl ?_
            exact g_ret q35 rfl rfl rfl
          ·
            refine g_p q35 2 67 [some (oR 2 0), some (vI a1)] [vI 1] rfl ?_
            exact g_ret q35 rfl rfl rfl
        ·
          refine g_swc ?_ ?_
          ·
            refine g_p q35 1 124 [some (oR 2 0), some (vI a1)] [oR 2 0] rfl ?_
            refine g_m (S := [oR 3 5]) (some (oR 3 5)) q35 rfl rfl rfl (fun _ => rfl) rfl ?_
            refine g_get q35 rfl rfl rfl (fun _ => rfl) (fun v8 => ?_)
            refine g_i1 q35 rfl rfl ?_ ?_
            ·
              refine g_p q35 1 150 [some (oR 2 0), some (vI a1)] [vI 0] rfl ?_
              exact g_ret q35 rfl rfl rfl
            ·
              refine g_p q35 1 134 [some (oR 2 0), some (vI a1)] [oR 2 0] rfl ?_
              refine g_m (S := [oR 3 5]) (some (oR 3 5)) q35 rfl rfl rfl (fun _ => rfl) rfl ?_
              refine g_get q35 rfl rfl rfl (fun _ => rfl) (fun v9 => ?_)
              refine g_p q35 1 142 [some (oR 2 0), some (vI a1)] [vI 10, vI v9] rfl ?_
              refine g_i2 q35 rfl rfl ?_ ?_
              ·
                refine g_p q35 1 150 [some (oR 2 0), some (vI a1)] [vI 0] rfl ?_
                exact g_ret q35 rfl rfl rfl
              ·
                refine g_p q35 2 150 [some (oR 2 0), some (vI a1)] [vI 1] rfl ?_
                exact g_ret q35 rfl rfl rfl
          ·
            refine g_swe ?_
            refine g_p q35 1 179 [some (oR 2 0), some (vI a1)] [oR 2 0] rfl ?_
            refine g_m (S := [oR 3 5]) (some (oR 3 5)) q35 rfl rfl rfl (fun _ => rfl) rfl ?_
            refine g_get q35 rfl rfl rfl (fun _ => rfl) (fun v10 => ?_)
            exact g_retb q35 rfl rfl
theorem q36 : am_cd 36 = am_c36 := rfl
theorem g36 (X : X2) (s : S2) (o : Option (AV R2) × S2) : J (f36 s) (fun (r : S2) => o = (none, r)) (Go X 1 36 0 (am_loc (am_nl 36) [oR 1 0]) [] s o) := by
  show J _ _ (Go X 1 36 0 [some (oR 1 0)] [] s o)
  unfold f36
  refine g_p q36 1 1 [some (oR 1 0)] [oR 1 0] rfl ?_
  refine g_get q36 rfl rfl rfl (fun _ => rfl) (fun v1 => ?_)
  refine g_p q36 1 5 [some (oR 1 0)] [oR 1 0, vI v1] rfl ?_
  refine g_get q36 rfl rfl rfl (fun _ => rfl) (fun v2 => ?_)
  refine g_p q36 2 10 [some (oR 1 0)] [vI (jsub v2 1), vI v1] rfl ?_
  refine g_i2 q36 rfl rfl ?_ ?_
  ·
    exact g_retV q36 rfl rfl
  ·
    refine g_p q36 2 15 [some (oR 1 0)] [oR 1 0, oR 1 0] rfl ?_
    refine g_get q36 rfl rfl rfl (fun _ => rfl) (fun v3 => ?_)
    refine g_p q36 2 20 [some (oR 1 0)] [vI (jadd v3 1), oR 1 0] rfl ?_
    refine g_put q36 rfl rfl rfl (fun _ => rfl) (fun s4 => ?_)
    exact g_retV q36 rfl rfl
theorem q40 : am_cd 40 = am_c40 := rfl
theorem g40 (X : X2) (s : S2) (o : Option (AV R2) × S2) : J (f40 s) (fun (r : Int) => o = (some (vI r), s)) (Go X 1 40 0 (am_loc (am_nl 40) [oR 1 0]) [] s o) := by
  show J _ _ (Go X 1 40 0 [some (oR 1 0)] [] s o)
  unfold f40
  refine g_p q40 1 1 [some (oR 1 0)] [oR 1 0] rfl ?_
  refine g_get q40 rfl rfl rfl (fun _ => rfl) (fun v1 => ?_)
  refine g_i1 q40 rfl rfl ?_ ?_
  ·
    refine g_p q40 1 32 [some (oR 1 0)] [vI (-1)] rfl ?_
    exact g_ret q40 rfl rfl rfl
  ·
    refine g_p q40 1 8 [some (oR 1 0)] [oR 1 0] rfl ?_
    refine g_get q40 rfl rfl rfl (fun _ => rfl) (fun v2 => ?_)
    refine g_p q40 1 12 [some (oR 1 0)] [oR 1 0, vI v2] rfl ?_
    refine g_m (S := [aR 132 0, vI v2]) (some (aR 132 0)) q40 rfl rfl rfl (fun _ => rfl) rfl ?_
    refine g_m (S := [vI 401, vI v2]) (some (vI 401)) q40 rfl rfl rfl (fun _ => rfl) rfl ?_
    refine g_i2 q40 rfl rfl ?_ ?_
    ·
      refine g_p q40 1 32 [some (oR 1 0)] [vI (-1)] rfl ?_
      exact g_ret q40 rfl rfl rfl
    ·
      refine g_p q40 1 20 [some (oR 1 0)] [oR 1 0] rfl ?_
      refine g_m (S := [aR 132 0]) (some (aR 132 0)) q40 rfl rfl rfl (fun _ => rfl) rfl ?_
      refine g_p q40 1 24 [some (oR 1 0)] [oR 1 0, aR 132 0] rfl ?_
      refine g_get q40 rfl rfl rfl (fun _ => rfl) (fun v3 => ?_)
      refine g_ld q40 rfl rfl rfl rfl rfl rfl (fun v4 => ?_)
      refine g_p q40 1 32 [some (oR 1 0)] [vI v4] rfl ?_
      exact g_ret q40 rfl rfl rfl
theorem q39 : am_cd 39 = am_c39 := rfl
theorem g39 (X : X2) (a1 : Int) (a2 : Int) (s : S2) (o : Option (AV R2) × S2) : J (f39 a1 a2 s) (fun (r : Int × S2) => o = (some (vI r.1), r.2)) (Go X 2 39 0 (am_loc (am_nl 39) [oR 1 0, vI a1, vI a2]) [] s o) := by
  show J _ _ (Go X 2 39 0 [some (oR 1 0), some (vI a1), some (vI a2), none] [] s o)
  unfold f39
  refine g_p q39 1 1 [some (oR 1 0), some (vI a1), some (vI a2), none] [oR 1 0] rfl ?_
  refine g_cPI q39 rfl (g32 X s) rfl rfl rfl rfl rfl (fun r1 => ?_)
  refine g_p q39 1 5 [some (oR 1 0), some (vI a1), some (vI a2), none] [vI 2, vI r1] rfl ?_
  refine g_i2 q39 rfl rfl ?_ ?_
  ·
    refine g_p q39 1 16 [some (oR 1 0), some (vI a1), some (vI a2), none] [oR 1 0] rfl ?_
    refine g_cPI q39 rfl (g40 X s) rfl rfl rfl rfl rfl (fun r2 => ?_)
    refine g_p q39 3 22 [some (oR 1 0), some (vI a1), some (vI a2), some (vI r2)] [vI a1, vI r2] rfl ?_
    refine g_jn (fun j30 => ∀ (_ : Unit), J (j30 ()) (fun (r : Int × S2) => o = (some (vI r.1), r.2)) (Go X 2 39 30 [some (oR 1 0), none, none, none] [] s o)) ?_ (fun j30 hj30 => ?_)
    ·
      intro _
      refine g_p q39 2 32 [some (oR 1 0), none, none, none] [vI 1, oR 1 0] rfl ?_
      refine g_cV q39 rfl (g34 X 1 s) rfl rfl rfl rfl rfl (fun s3 => ?_)
      refine g_p q39 1 36 [some (oR 1 0), none, none, none] [vI (-1)] rfl ?_
      exact g_ret q39 rfl rfl rfl
    ·
      refine g_i2 q39 rfl rfl ?_ ?_
      ·
        exact g_wkJ [true, false, false, false] rfl (hj30 ())
      ·
        refine g_p q39 2 27 [some (oR 1 0), some (vI a1), some (vI a2), some (vI r2)] [vI a2, vI r2] rfl ?_
        refine g_i2 q39 rfl rfl ?_ ?_
        ·
          refine g_p q39 1 38 [some (oR 1 0), some (vI a1), some (vI a2), some (vI r2)] [oR 1 0] rfl ?_
          refine g_cV q39 rfl (g36 X s) rfl rfl rfl rfl rfl (fun s4 => ?_)
          refine g_p q39 1 42 [some (oR 1 0), some (vI a1), some (vI a2), some (vI r2)] [vI r2] rfl ?_
          exact g_ret q39 rfl rfl rfl
        ·
          exact g_wkJ [true, false, false, false] rfl (hj30 ())
  ·
    refine g_p q39 2 10 [some (oR 1 0), some (vI a1), some (vI a2), none] [vI 0, oR 1 0] rfl ?_
    refine g_cV q39 rfl (g34 X 0 s) rfl rfl rfl rfl rfl (fun s5 => ?_)
    refine g_p q39 1 14 [some (oR 1 0), some (vI a1), some (vI a2), none] [vI (-1)] rfl ?_
    exact g_ret q39 rfl rfl rfl
theorem q38 : am_cd 38 = am_c38 := rfl
theorem g38 (X : X2) (s : S2) (o : Option (AV R2) × S2) : J (f38 s) (fun (r : S2) => o = (none, r)) (Go X 3 38 0 (am_loc (am_nl 38) [oR 2 0, oR 1 0]) [] s o) := by
  show J _ _ (Go X 3 38 0 [some (oR 2 0), some (oR 1 0)] [] s o)
  unfold f38
  refine g_p q38 1 1 [some (oR 2 0), some (oR 1 0)] [oR 2 0] rfl ?_
  refine g_m (S := [oR 3 5]) (some (oR 3 5)) q38 rfl rfl rfl (fun _ => rfl) rfl ?_
  refine g_p q38 3 7 [some (oR 2 0), some (oR 1 0)] [vI 5, vI 1, oR 1 0, oR 3 5] rfl ?_
  refine g_cRI q38 rfl (g39 X 1 5 s) rfl rfl rfl rfl rfl (fun r1 s2 => ?_)
  refine g_put q38 rfl rfl rfl (fun _ => rfl) (fun s3 => ?_)
  refine g_p q38 1 14 [some (oR 2 0), some (oR 1 0)] [oR 2 0] rfl ?_
  refine g_m (S := [oR 3 5]) (some (oR 3 5)) q38 rfl rfl rfl (fun _ => rfl) rfl ?_
  refine g_p q38 3 21 [some (oR 2 0), some (oR 1 0)] [vI 20, vI 1, oR 1 0, oR 3 5] rfl ?_
  refine g_cRI q38 rfl (g39 X 1 20 s3) rfl rfl rfl rfl rfl (fun r4 s5 => ?_)
  refine g_put q38 rfl rfl rfl (fun _ => rfl) (fun s6 => ?_)
  refine g_p q38 1 28 [some (oR 2 0), some (oR 1 0)] [oR 2 0] rfl ?_
  refine g_m (S := [oR 3 5]) (some (oR 3 5)) q38 rfl rfl rfl (fun _ => rfl) rfl ?_
  refine g_p q38 1 32 [some (oR 2 0), some (oR 1 0)] [vI 1, oR 3 5] rfl ?_
  refine g_put q38 rfl rfl rfl (fun _ => rfl) (fun s7 => ?_)
  exact g_retV q38 rfl rfl
theorem q41 : am_cd 41 = am_c41 := rfl
theorem g41 (X : X2) (s : S2) (o : Option (AV R2) × S2) : J (f41 s) (fun (r : S2) => o = (none, r)) (Go X 3 41 0 (am_loc (am_nl 41) [oR 2 0, oR 1 0]) [] s o) := by
  show J _ _ (Go X 3 41 0 [some (oR 2 0), some (oR 1 0), none] [] s o)
  unfold f41
  refine g_p q41 3 4 [some (oR 2 0), some (oR 1 0), none] [vI 20, vI 0, oR 1 0] rfl ?_
  refine g_cRI q41 rfl (g39 X 0 20 s) rfl rfl rfl rfl rfl (fun r1 s2 => ?_)
  refine g_p q41 2 9 [some (oR 2 0), some (oR 1 0), some (vI r1)] [oR 2 0] rfl ?_
  refine g_m (S := [oR 3 5]) (some (oR 3 5)) q41 rfl rfl rfl (fun _ => rfl) rfl ?_
  refine g_get q41 rfl rfl rfl (fun _ => rfl) (fun v3 => ?_)
  refine g_i1 q41 rfl rfl ?_ ?_
  ·
    exact g_retV q41 rfl rfl
  ·
    refine g_p q41 1 19 [some (oR 2 0), some (oR 1 0), some (vI r1)] [oR 2 0] rfl ?_
    refine g_m (S := [oR 3 5]) (some (oR 3 5)) q41 rfl rfl rfl (fun _ => rfl) rfl ?_
    refine g_get q41 rfl rfl rfl (fun _ => rfl) (fun v4 => ?_)
    refine g_p q41 1 26 [some (oR 2 0), some (oR 1 0), some (vI r1)] [vI 4, vI v4] rfl ?_
    refine g_i2 q41 rfl rfl ?_ ?_
    ·
      exact g_retV q41 rfl rfl
    ·
      refine g_p q41 1 30 [some (oR 2 0), some (oR 1 0), some (vI r1)] [oR 2 0] rfl ?_
      refine g_m (S := [oR 3 5]) (some (oR 3 5)) q41 rfl rfl rfl (fun _ => rfl) rfl ?_
      refine g_m (S := [oR 4 161]) (some (oR 4 161)) q41 rfl rfl rfl (fun _ => rfl) rfl ?_
      refine g_m (S := [aR 517 161]) (some (aR 517 161)) q41 rfl rfl rfl (fun _ => rfl) rfl ?_
      refine g_p q41 1 40 [some (oR 2 0), some (oR 1 0), some (vI r1)] [oR 2 0, aR 517 161] rfl ?_
      refine g_m (S := [oR 3 5, aR 517 161]) (some (oR 3 5)) q41 rfl rfl rfl (fun _ => rfl) rfl ?_
      refine g_get q41 rfl rfl rfl (fun _ => rfl) (fun v5 => ?_)
      refine g_p q41 1 47 [some (oR 2 0), some (oR 1 0), some (vI r1)] [vI r1, vI v5, aR 517 161] rfl ?_
      refine g_sto q41 rfl rfl rfl rfl (fun s6 => ?_)
      refine g_p q41 1 49 [some (oR 2 0), some (oR 1 0), some (vI r1)] [oR 2 0] rfl ?_
      refine g_m (S := [oR 3 5]) (some (oR 3 5)) q41 rfl rfl rfl (fun _ => rfl) rfl ?_
      refine g_p q41 1 53 [some (oR 2 0), some (oR 1 0), some (vI r1)] [oR 3 5, oR 3 5] rfl ?_
      refine g_get q41 rfl rfl rfl (fun _ => rfl) (fun v7 => ?_)
      refine g_p q41 2 58 [some (oR 2 0), some (oR 1 0), some (vI r1)] [vI (jadd v7 1), oR 3 5] rfl ?_
      refine g_put q41 rfl rfl rfl (fun _ => rfl) (fun s8 => ?_)
      exact g_retV q41 rfl rfl
theorem q43 : am_cd 43 = am_c43 := rfl
theorem g43 (X : X2) (s : S2) (o : Option (AV R2) × S2) : J (f43 s) (fun (r : Int) => o = (some (vI r), s)) (Go X 1 43 0 (am_loc (am_nl 43) [oR 1 0]) [] s o) := by
  show J _ _ (Go X 1 43 0 [some (oR 1 0)] [] s o)
  unfold f43
  refine g_p q43 1 1 [some (oR 1 0)] [oR 1 0] rfl ?_
  refine g_get q43 rfl rfl rfl (fun _ => rfl) (fun v1 => ?_)
  refine g_i1 q43 rfl rfl ?_ ?_
  ·
    refine g_p q43 1 32 [some (oR 1 0)] [vI 0] rfl ?_
    exact g_ret q43 rfl rfl rfl
  ·
    refine g_p q43 1 8 [some (oR 1 0)] [oR 1 0] rfl ?_
    refine g_get q43 rfl rfl rfl (fun _ => rfl) (fun v2 => ?_)
    refine g_p q43 1 12 [some (oR 1 0)] [oR 1 0, vI v2] rfl ?_
    refine g_m (S := [aR 131 0, vI v2]) (some (aR 131 0)) q43 rfl rfl rfl (fun _ => rfl) rfl ?_
    refine g_m (S := [vI 401, vI v2]) (some (vI 401)) q43 rfl rfl rfl (fun _ => rfl) rfl ?_
    refine g_i2 q43 rfl rfl ?_ ?_
    ·
      refine g_p q43 1 32 [some (oR 1 0)] [vI 0] rfl ?_
      exact g_ret q43 rfl rfl rfl
    ·
      refine g_p q43 1 20 [some (oR 1 0)] [oR 1 0] rfl ?_
      refine g_m (S := [aR 131 0]) (some (aR 131 0)) q43 rfl rfl rfl (fun _ => rfl) rfl ?_
      refine g_p q43 1 24 [some (oR 1 0)] [oR 1 0, aR 131 0] rfl ?_
      refine g_get q43 rfl rfl rfl (fun _ => rfl) (fun v3 => ?_)
      refine g_ld q43 rfl rfl rfl rfl rfl rfl (fun v4 => ?_)
      refine g_p q43 1 32 [some (oR 1 0)] [vI v4] rfl ?_
      exact g_ret q43 rfl rfl rfl
theorem q44 : am_cd 44 = am_c44 := rfl
theorem g44 (X : X2) (a1 : Int) (a2 : Int) (s : S2) (o : Option (AV R2) × S2) : J (f44 a1 a2 s) (fun (r : S2) => o = (none, r)) (Go X 1 44 0 (am_loc (am_nl 44) [oR 1 0, vI a1, vI a2]) [] s o) := by
  show J _ _ (Go X 1 44 0 [some (oR 1 0), some (vI a1), some (vI a2)] [] s o)
  unfold f44
  refine g_p q44 1 1 [some (oR 1 0), some (vI a1), some (vI a2)] [oR 1 0] rfl ?_
  refine g_get q44 rfl rfl rfl (fun _ => rfl) (fun v1 => ?_)
  refine g_i1 q44 rfl rfl ?_ ?_
  ·
    exact g_retV q44 rfl rfl
  ·
    refine g_p q44 8 16 [some (oR 1 0), some (vI a1), some (vI a2)] [vI (jadd (jadd 1 (jmul 8 a1)) a2), oR 1 0] rfl ?_
    refine g_put q44 rfl rfl rfl (fun _ => rfl) (fun s2 => ?_)
    exact g_retV q44 rfl rfl
theorem q42 : am_cd 42 = am_c42 := rfl
theorem g42 (X : X2) (s : S2) (o : Option (AV R2) × S2) : J (f42 s) (fun (r : S2) => o = (none, r)) (Go X 3 42 0 (am_loc (am_nl 42) [oR 2 0, oR 1 0]) [] s o) := by
  show J _ _ (Go X 3 42 0 [some (oR 2 0), some (oR 1 0), none, none, none, none, none, none] [] s o)
  unfold f42
  refine g_p q42 3 4 [some (oR 2 0), some (oR 1 0), none, none, none, none, none, none] [vI 7, vI 0, oR 1 0] rfl ?_
  refine g_cRI q42 rfl (g39 X 0 7 s) rfl rfl rfl rfl rfl (fun r1 s2 => ?_)
  refine g_p q42 2 9 [some (oR 2 0), some (oR 1 0), some (vI r1), none, none, none, none, none] [oR 1 0] rfl ?_
  refine g_cPI q42 rfl (g43 X s2) rfl rfl rfl rfl rfl (fun r3 => ?_)
  refine g_p q42 4 17 [some (oR 2 0), some (oR 1 0), some (vI r1), some (vI r3), none, none, none, none] [vI 7, vI 0, oR 1 0] rfl ?_
  refine g_cRI q42 rfl (g39 X 0 7 s2) rfl rfl rfl rfl rfl (fun r4 s5 => ?_)
  refine g_p q42 3 25 [some (oR 2 0), some (oR 1 0), some (vI r1), some (vI r3), some (vI r4), none, none, none] [vI r4, vI r1] rfl ?_
  refine g_jn (fun j34 => ∀ (s6 : S2), J (j34 s6) (fun (r : S2) => o = (none, r)) (Go X 3 42 34 [some (oR 2 0), some (oR 1 0), some (vI r1), none, some (vI r4), none, none, none] [] s6 o)) ?_ (fun j34 hj34 => ?_)
  ·
    intro s6
    refine g_p q42 3 38 [some (oR 2 0), some (oR 1 0), some (vI r1), none, some (vI r4), none, none, none] [vI 9, vI 1, oR 1 0] rfl ?_
    refine g_cRI q42 rfl (g39 X 1 9 s6) rfl rfl rfl rfl rfl (fun r7 s8 => ?_)
    refine g_p q42 4 47 [some (oR 2 0), some (oR 1 0), some (vI r1), none, some (vI r4), some (vI r7), none, none] [vI 99, vI 1, oR 1 0] rfl ?_
    refine g_cRI q42 rfl (g39 X 1 99 s8) rfl rfl rfl rfl rfl (fun r9 s10 => ?_)
    refine g_p q42 2 53 [some (oR 2 0), some (oR 1 0), some (vI r1), none, some (vI r4), some (vI r7), some (vI r9), none] [oR 2 0] rfl ?_
    refine g_m (S := [oR 3 5]) (some (oR 3 5)) q42 rfl rfl rfl (fun _ => rfl) rfl ?_
    refine g_get q42 rfl rfl rfl (fun _ => rfl) (fun v11 => ?_)
    refine g_p q42 2 63 [some (oR 2 0), some (oR 1 0), some (vI r1), none, some (vI r4), some (vI r7), some (vI r9), some (vI v11)] [vI v11] rfl ?_
    refine g_i1 q42 rfl rfl ?_ ?_
    ·
      exact g_retV q42 rfl rfl
    ·
      refine g_p q42 2 70 [some (oR 2 0), some (oR 1 0), some (vI r1), none, some (vI r4), some (vI r7), some (vI r9), some (vI v11)] [vI 6, vI v11] rfl ?_
      refine g_i2 q42 rfl rfl ?_ ?_
      ·
        exact g_retV q42 rfl rfl
      ·
        refine g_p q42 1 74 [some (oR 2 0), some (oR 1 0), some (vI r1), none, some (vI r4), some (vI r7), some (vI r9), some (vI v11)] [oR 2 0] rfl ?_
        refine g_m (S := [oR 3 5]) (some (oR 3 5)) q42 rfl rfl rfl (fun _ => rfl) rfl ?_
        refine g_m (S := [aR 391 5]) (some (aR 391 5)) q42 rfl rfl rfl (fun _ => rfl) rfl ?_
        refine g_p q42 2 83 [some (oR 2 0), some (oR 1 0), some (vI r1), none, some (vI r4), some (vI r7), some (vI r9), some (vI v11)] [vI r1, vI v11, aR 391 5] rfl ?_
        refine g_sto q42 rfl rfl rfl rfl (fun s12 => ?_)
        refine g_p q42 1 85 [some (oR 2 0), some (oR 1 0), some (vI r1), none, some (vI r4), some (vI r7), some (vI r9), some (vI v11)] [oR 2 0] rfl ?_
        refine g_m (S := [oR 3 5]) (some (oR 3 5)) q42 rfl rfl rfl (fun _ => rfl) rfl ?_
        refine g_m (S := [aR 392 5]) (some (aR 392 5)) q42 rfl rfl rfl (fun _ => rfl) rfl ?_
        refine g_p q42 2 95 [some (oR 2 0), some (oR 1 0), some (vI r1), none, some (vI r4), some (vI r7), some (vI r9), some (vI v11)] [vI r4, vI v11, aR 392 5] rfl ?_
        refine g_sto q42 rfl rfl rfl rfl (fun s13 => ?_)
        refine g_p q42 1 97 [some (oR 2 0), some (oR 1 0), some (vI r1), none, some (vI r4), some (vI r7), some (vI r9), some (vI v11)] [oR 2 0] rfl ?_
        refine g_m (S := [oR 3 5]) (some (oR 3 5)) q42 rfl rfl rfl (fun _ => rfl) rfl ?_
        refine g_m (S := [aR 393 5]) (some (aR 393 5)) q42 rfl rfl rfl (fun _ => rfl) rfl ?_
        refine g_p q42 2 107 [some (oR 2 0), some (oR 1 0), some (vI r1), none, some (vI r4), some (vI r7), some (vI r9), some (vI v11)] [vI r7, vI v11, aR 393 5] rfl ?_
        refine g_sto q42 rfl rfl rfl rfl (fun s14 => ?_)
        refine g_p q42 1 109 [some (oR 2 0), some (oR 1 0), some (vI r1), none, some (vI r4), some (vI r7), some (vI r9), some (vI v11)] [oR 2 0] rfl ?_
        refine g_m (S := [oR 3 5]) (some (oR 3 5)) q42 rfl rfl rfl (fun _ => rfl) rfl ?_
        refine g_m (S := [aR 394 5]) (some (aR 394 5)) q42 rfl rfl rfl (fun _ => rfl) rfl ?_
        refine g_p q42 2 119 [some (oR 2 0), some (oR 1 0), some (vI r1), none, some (vI r4), some (vI r7), some (vI r9), some (vI v11)] [vI r9, vI v11, aR 394 5] rfl ?_
        refine g_sto q42 rfl rfl rfl rfl (fun s15 => ?_)
        refine g_p q42 1 121 [some (oR 2 0), some (oR 1 0), some (vI r1), none, some (vI r4), some (vI r7), some (vI r9), some (vI v11)] [oR 2 0] rfl ?_
        refine g_m (S := [oR 3 5]) (some (oR 3 5)) q42 rfl rfl rfl (fun _ => rfl) rfl ?_
        refine g_p q42 1 125 [some (oR 2 0), some (oR 1 0), some (vI r1), none, some (vI r4), some (vI r7), some (vI r9), some (vI v11)] [oR 3 5, oR 3 5] rfl ?_
        refine g_get q42 rfl rfl rfl (fun _ => rfl) (fun v16 => ?_)
        refine g_p q42 2 130 [some (oR 2 0), some (oR 1 0), some (vI r1), none, some (vI r4), some (vI r7), some (vI r9), some (vI v11)] [vI (jadd v16 1), oR 3 5] rfl ?_
        refine g_put q42 rfl rfl rfl (fun _ => rfl) (fun s17 => ?_)
        exact g_retV q42 rfl rfl
  ·
    refine g_i2 q42 rfl rfl ?_ ?_
    ·
      exact g_wkJ [true, true, true, false, true, false, false, false] rfl (hj34 s5)
    ·
      refine g_p q42 3 31 [some (oR 2 0), some (oR 1 0), some (vI r1), some (vI r3), some (vI r4), none, none, none] [vI 1, vI r3, oR 1 0] rfl ?_
      refine g_cV q42 rfl (g44 X r3 1 s5) rfl rfl rfl rfl rfl (fun s18 => ?_)
      exact g_wkJ [true, true, true, false, true, false, false, false] rfl (hj34 s18)
theorem q45 : am_cd 45 = am_c45 := rfl
theorem g45 (X : X2) (s : S2) (o : Option (AV R2) × S2) : J (f45 s) (fun (r : S2) => o = (none, r)) (Go X 3 45 0 (am_loc (am_nl 45) [oR 2 0, oR 1 0]) [] s o) := by
  show J _ _ (Go X 3 45 0 [some (oR 2 0), some (oR 1 0), none, none, none, none] [] s o)
  unfold f45
  refine g_p q45 3 3 [some (oR 2 0), some (oR 1 0), none, none, none, none] [oR 2 0, vI 0, oR 1 0] rfl ?_
  refine g_m (S := [oR 3 5, vI 0, oR 1 0]) (some (oR 3 5)) q45 rfl rfl rfl (fun _ => rfl) rfl ?_
  refine g_get q45 rfl rfl rfl (fun _ => rfl) (fun v1 => ?_)
  refine g_p q45 2 11 [some (oR 2 0), some (oR 1 0), none, none, none, none] [vI (jsub v1 1), vI 0, oR 1 0] rfl ?_
  refine g_cRI q45 rfl (g39 X 0 (jsub v1 1) s) rfl rfl rfl rfl rfl (fun r2 s3 => ?_)
  refine g_p q45 4 18 [some (oR 2 0), some (oR 1 0), some (vI r2), none, none, none] [vI 4, vI 1, oR 1 0] rfl ?_
  refine g_cRI q45 rfl (g39 X 1 4 s3) rfl rfl rfl rfl rfl (fun r4 s5 => ?_)
  refine g_p q45 4 26 [some (oR 2 0), some (oR 1 0), some (vI r2), some (vI r4), none, none] [vI 20, vI 0, oR 1 0] rfl ?_
  refine g_cRI q45 rfl (g39 X 0 20 s5) rfl rfl rfl rfl rfl (fun r6 s7 => ?_)
  refine g_p q45 2 32 [some (oR 2 0), some (oR 1 0), some (vI r2), some (vI r4), some (vI r6), none] [oR 2 0] rfl ?_
  refine g_m (S := [oR 3 5]) (some (oR 3 5)) q45 rfl rfl rfl (fun _ => rfl) rfl ?_
  refine g_get q45 rfl rfl rfl (fun _ => rfl) (fun v8 => ?_)
  refine g_p q45 2 42 [some (oR 2 0), some (oR 1 0), some (vI r2), some (vI r4), some (vI r6), some (vI v8)] [vI v8] rfl ?_
  refine g_i1 q45 rfl rfl ?_ ?_
  ·
    exact g_retV q45 rfl rfl
  ·
    refine g_p q45 2 49 [some (oR 2 0), some (oR 1 0), some (vI r2), some (vI r4), some (vI r6), some (vI v8)] [vI 10, vI v8] rfl ?_
    refine g_i2 q45 rfl rfl ?_ ?_
    ·
      exact g_retV q45 rfl rfl
    ·
      refine g_p q45 1 53 [some (oR 2 0), some (oR 1 0), some (vI r2), some (vI r4), some (vI r6), some (vI v8)] [oR 2 0] rfl ?_
      refine g_m (S := [oR 3 5]) (some (oR 3 5)) q45 rfl rfl rfl (fun _ => rfl) rfl ?_
      refine g_m (S := [aR 395 5]) (some (aR 395 5)) q45 rfl rfl rfl (fun _ => rfl) rfl ?_
      refine g_p q45 2 62 [some (oR 2 0), some (oR 1 0), some (vI r2), some (vI r4), some (vI r6), some (vI v8)] [vI r2, vI v8, aR 395 5] rfl ?_
      refine g_sto q45 rfl rfl rfl rfl (fun s9 => ?_)
      refine g_p q45 1 64 [some (oR 2 0), some (oR 1 0), some (vI r2), some (vI r4), some (vI r6), some (vI v8)] [oR 2 0] rfl ?_
      refine g_m (S := [oR 3 5]) (some (oR 3 5)) q45 rfl rfl rfl (fun _ => rfl) rfl ?_
      refine g_m (S := [aR 396 5]) (some (aR 396 5)) q45 rfl rfl rfl (fun _ => rfl) rfl ?_
      refine g_p q45 2 73 [some (oR 2 0), some (oR 1 0), some (vI r2), some (vI r4), some (vI r6), some (vI v8)] [vI r4, vI v8, aR 396 5] rfl ?_
      refine g_sto q45 rfl rfl rfl rfl (fun s10 => ?_)
      refine g_p q45 1 75 [some (oR 2 0), some (oR 1 0), some (vI r2), some (vI r4), some (vI r6), some (vI v8)] [oR 2 0] rfl ?_
      refine g_m (S := [oR 3 5]) (some (oR 3 5)) q45 rfl rfl rfl (fun _ => rfl) rfl ?_
      refine g_m (S := [aR 397 5]) (some (aR 397 5)) q45 rfl rfl rfl (fun _ => rfl) rfl ?_
      refine g_p q45 2 85 [some (oR 2 0), some (oR 1 0), some (vI r2), some (vI r4), some (vI r6), some (vI v8)] [vI r6, vI v8, aR 397 5] rfl ?_
      refine g_sto q45 rfl rfl rfl rfl (fun s11 => ?_)
      refine g_p q45 1 87 [some (oR 2 0), some (oR 1 0), some (vI r2), some (vI r4), some (vI r6), some (vI v8)] [oR 2 0] rfl ?_
      refine g_m (S := [oR 3 5]) (some (oR 3 5)) q45 rfl rfl rfl (fun _ => rfl) rfl ?_
      refine g_m (S := [oR 4 161]) (some (oR 4 161)) q45 rfl rfl rfl (fun _ => rfl) rfl ?_
      refine g_m (S := [aR 516 161]) (some (aR 516 161)) q45 rfl rfl rfl (fun _ => rfl) rfl ?_
      refine g_p q45 2 100 [some (oR 2 0), some (oR 1 0), some (vI r2), some (vI r4), some (vI r6), some (vI v8)] [vI r6, vI v8, aR 516 161] rfl ?_
      refine g_sto q45 rfl rfl rfl rfl (fun s12 => ?_)
      refine g_p q45 1 102 [some (oR 2 0), some (oR 1 0), some (vI r2), some (vI r4), some (vI r6), some (vI v8)] [oR 2 0] rfl ?_
      refine g_m (S := [oR 3 5]) (some (oR 3 5)) q45 rfl rfl rfl (fun _ => rfl) rfl ?_
      refine g_p q45 1 106 [some (oR 2 0), some (oR 1 0), some (vI r2), some (vI r4), some (vI r6), some (vI v8)] [oR 3 5, oR 3 5] rfl ?_
      refine g_get q45 rfl rfl rfl (fun _ => rfl) (fun v13 => ?_)
      refine g_p q45 2 111 [some (oR 2 0), some (oR 1 0), some (vI r2), some (vI r4), some (vI r6), some (vI v8)] [vI (jadd v13 1), oR 3 5] rfl ?_
      refine g_put q45 rfl rfl rfl (fun _ => rfl) (fun s14 => ?_)
      exact g_retV q45 rfl rfl
theorem q46 : am_cd 46 = am_c46 := rfl
theorem g46 (X : X2) (s : S2) (o : Option (AV R2) × S2) : J (f46 s) (fun (r : S2) => o = (none, r)) (Go X 3 46 0 (am_loc (am_nl 46) [oR 2 0, oR 1 0]) [] s o) := by
  show J _ _ (Go X 3 46 0 [some (oR 2 0), some (oR 1 0), none, none] [] s o)
  unfold f46
  refine g_p q46 3 4 [some (oR 2 0), some (oR 1 0), none, none] [vI 99, vI 0, oR 1 0] rfl ?_
  refine g_cRI q46 rfl (g39 X 0 99 s) rfl rfl rfl rfl rfl (fun r1 s2 => ?_)
  refine g_p q46 4 12 [some (oR 2 0), some (oR 1 0), some (vI r1), none] [vI 99, vI r1, oR 1 0] rfl ?_
  refine g_cRI q46 rfl (g39 X r1 99 s2) rfl rfl rfl rfl rfl (fun r3 s4 => ?_)
  refine g_p q46 2 17 [some (oR 2 0), some (oR 1 0), some (vI r1), some (vI r3)] [oR 2 0] rfl ?_
  refine g_m (S := [oR 3 5]) (some (oR 3 5)) q46 rfl rfl rfl (fun _ => rfl) rfl ?_
  refine g_get q46 rfl rfl rfl (fun _ => rfl) (fun v5 => ?_)
  refine g_i1 q46 rfl rfl ?_ ?_
  ·
    exact g_retV q46 rfl rfl
  ·
    refine g_p q46 1 27 [some (oR 2 0), some (oR 1 0), some (vI r1), some (vI r3)] [oR 2 0] rfl ?_
    refine g_m (S := [oR 3 5]) (some (oR 3 5)) q46 rfl rfl rfl (fun _ => rfl) rfl ?_
    refine g_get q46 rfl rfl rfl (fun _ => rfl) (fun v6 => ?_)
    refine g_p q46 1 34 [some (oR 2 0), some (oR 1 0), some (vI r1), some (vI r3)] [vI 3, vI v6] rfl ?_
    refine g_i2 q46 rfl rfl ?_ ?_
    ·
      exact g_retV q46 rfl rfl
    ·
      refine g_p q46 1 38 [some (oR 2 0), some (oR 1 0), some (vI r1), some (vI r3)] [oR 2 0] rfl ?_
      refine g_m (S := [oR 3 5]) (some (oR 3 5)) q46 rfl rfl rfl (fun _ => rfl) rfl ?_
      refine g_m (S := [aR 398 5]) (some (aR 398 5)) q46 rfl rfl rfl (fun _ => rfl) rfl ?_
      refine g_p q46 1 45 [some (oR 2 0), some (oR 1 0), some (vI r1), some (vI r3)] [oR 2 0, aR 398 5] rfl ?_
      refine g_m (S := [oR 3 5, aR 398 5]) (some (oR 3 5)) q46 rfl rfl rfl (fun _ => rfl) rfl ?_
      refine g_get q46 rfl rfl rfl (fun _ => rfl) (fun v7 => ?_)
      refine g_p q46 1 52 [some (oR 2 0), some (oR 1 0), some (vI r1), some (vI r3)] [vI r1, vI v7, aR 398 5] rfl ?_
      refine g_sto q46 rfl rfl rfl rfl (fun s8 => ?_)
      refine g_p q46 1 54 [some (oR 2 0), some (oR 1 0), some (vI r1), some (vI r3)] [oR 2 0] rfl ?_
      refine g_m (S := [oR 3 5]) (some (oR 3 5)) q46 rfl rfl rfl (fun _ => rfl) rfl ?_
      refine g_m (S := [aR 399 5]) (some (aR 399 5)) q46 rfl rfl rfl (fun _ => rfl) rfl ?_
      refine g_p q46 1 61 [some (oR 2 0), some (oR 1 0), some (vI r1), some (vI r3)] [oR 2 0, aR 399 5] rfl ?_
      refine g_m (S := [oR 3 5, aR 399 5]) (some (oR 3 5)) q46 rfl rfl rfl (fun _ => rfl) rfl ?_
      refine g_get q46 rfl rfl rfl (fun _ => rfl) (fun v9 => ?_)
      refine g_p q46 1 68 [some (oR 2 0), some (oR 1 0), some (vI r1), some (vI r3)] [vI r3, vI v9, aR 399 5] rfl ?_
      refine g_sto q46 rfl rfl rfl rfl (fun s10 => ?_)
      refine g_p q46 1 70 [some (oR 2 0), some (oR 1 0), some (vI r1), some (vI r3)] [oR 2 0] rfl ?_
      refine g_m (S := [oR 3 5]) (some (oR 3 5)) q46 rfl rfl rfl (fun _ => rfl) rfl ?_
      refine g_p q46 1 74 [some (oR 2 0), some (oR 1 0), some (vI r1), some (vI r3)] [oR 3 5, oR 3 5] rfl ?_
      refine g_get q46 rfl rfl rfl (fun _ => rfl) (fun v11 => ?_)
      refine g_p q46 2 79 [some (oR 2 0), some (oR 1 0), some (vI r1), some (vI r3)] [vI (jadd v11 1), oR 3 5] rfl ?_
      refine g_put q46 rfl rfl rfl (fun _ => rfl) (fun s12 => ?_)
      exact g_retV q46 rfl rfl
theorem q49 : am_cd 49 = am_c49 := rfl
theorem g49 (X : X2) (a0 : Nat) (a1 : Int) (s : S2) (o : Option (AV R2) × S2) : J (f49 a0 a1 s) (fun (r : Int) => o = (some (vI r), s)) (Go X 1 49 0 (am_loc (am_nl 49) [oR 3 a0, vI a1]) [] s o) := by
  show J _ _ (Go X 1 49 0 [some (oR 3 a0), some (vI a1)] [] s o)
  unfold f49
  refine g_p q49 1 1 [some (oR 3 a0), some (vI a1)] [vI a1] rfl ?_
  refine g_i1 q49 rfl rfl ?_ ?_
  ·
    refine g_p q49 1 23 [some (oR 3 a0), some (vI a1)] [vI 0] rfl ?_
    exact g_ret q49 rfl rfl rfl
  ·
    refine g_p q49 2 6 [some (oR 3 a0), some (vI a1)] [oR 3 a0, vI a1] rfl ?_
    refine g_get q49 rfl rfl rfl (fun _ => rfl) (fun v1 => ?_)
    refine g_i2 q49 rfl rfl ?_ ?_
    ·
      refine g_p q49 1 23 [some (oR 3 a0), some (vI a1)] [vI 0] rfl ?_
      exact g_ret q49 rfl rfl rfl
    ·
      refine g_p q49 2 15 [some (oR 3 a0), some (vI a1)] [vI 10, vI a1] rfl ?_
      refine g_i2 q49 rfl rfl ?_ ?_
      ·
        refine g_p q49 1 23 [some (oR 3 a0), some (vI a1)] [vI 0] rfl ?_
        exact g_ret q49 rfl rfl rfl
      ·
        refine g_p q49 2 23 [some (oR 3 a0), some (vI a1)] [vI 1] rfl ?_
        exact g_ret q49 rfl rfl rfl
theorem q50 : am_cd 50 = am_c50 := rfl
theorem g50 (X : X2) (a0 : Nat) (a1 : Int) (s : S2) (o : Option (AV R2) × S2) : J (f50 a0 a1 s) (fun (r : Int) => o = (some (vI r), s)) (Go X 1 50 0 (am_loc (am_nl 50) [oR 3 a0, vI a1]) [] s o) := by
  show J _ _ (Go X 1 50 0 [some (oR 3 a0), some (vI a1)] [] s o)
  unfold f50
  refine g_p q50 1 1 [some (oR 3 a0), some (vI a1)] [vI a1] rfl ?_
  refine g_i1 q50 rfl rfl ?_ ?_
  ·
    refine g_p q50 1 23 [some (oR 3 a0), some (vI a1)] [vI 0] rfl ?_
    exact g_ret q50 rfl rfl rfl
  ·
    refine g_p q50 2 6 [some (oR 3 a0), some (vI a1)] [oR 3 a0, vI a1] rfl ?_
    refine g_get q50 rfl rfl rfl (fun _ => rfl) (fun v1 => ?_)
    refine g_i2 q50 rfl rfl ?_ ?_
    ·
      refine g_p q50 1 23 [some (oR 3 a0), some (vI a1)] [vI 0] rfl ?_
      exact g_ret q50 rfl rfl rfl
    ·
      refine g_p q50 2 15 [some (oR 3 a0), some (vI a1)] [vI 6, vI a1] rfl ?_
      refine g_i2 q50 rfl rfl ?_ ?_
      ·
        refine g_p q50 1 23 [some (oR 3 a0), some (vI a1)] [vI 0] rfl ?_
        exact g_ret q50 rfl rfl rfl
      ·
        refine g_p q50 2 23 [some (oR 3 a0), some (vI a1)] [vI 1] rfl ?_
        exact g_ret q50 rfl rfl rfl
theorem q51 : am_cd 51 = am_c51 := rfl
theorem g51 (X : X2) (a0 : Nat) (a1 : Int) (s : S2) (o : Option (AV R2) × S2) : J (f51 a0 a1 s) (fun (r : Int) => o = (some (vI r), s)) (Go X 1 51 0 (am_loc (am_nl 51) [oR 3 a0, vI a1]) [] s o) := by
  show J _ _ (Go X 1 51 0 [some (oR 3 a0), some (vI a1)] [] s o)
  unfold f51
  refine g_p q51 1 1 [some (oR 3 a0), some (vI a1)] [vI a1] rfl ?_
  refine g_i1 q51 rfl rfl ?_ ?_
  ·
    refine g_p q51 1 22 [some (oR 3 a0), some (vI a1)] [vI 0] rfl ?_
    exact g_ret q51 rfl rfl rfl
  ·
    refine g_p q51 2 6 [some (oR 3 a0), some (vI a1)] [oR 3 a0, vI a1] rfl ?_
    refine g_get q51 rfl rfl rfl (fun _ => rfl) (fun v1 => ?_)
    refine g_i2 q51 rfl rfl ?_ ?_
    ·
      refine g_p q51 1 22 [some (oR 3 a0), some (vI a1)] [vI 0] rfl ?_
      exact g_ret q51 rfl rfl rfl
    ·
      refine g_p q51 2 14 [some (oR 3 a0), some (vI a1)] [vI 4, vI a1] rfl ?_
      refine g_i2 q51 rfl rfl ?_ ?_
      ·
        refine g_p q51 1 22 [some (oR 3 a0), some (vI a1)] [vI 0] rfl ?_
        exact g_ret q51 rfl rfl rfl
      ·
        refine g_p q51 2 22 [some (oR 3 a0), some (vI a1)] [vI 1] rfl ?_
        exact g_ret q51 rfl rfl rfl
theorem q53 : am_cd 53 = am_c53 := rfl
def H53_a (X : X2) (y1 : Nat) (y2 : Nat) (y3 : Int) (s6 : S2) (o : Option (AV R2) × S2) (a : Int × Int) : Prop := Go X 1 53 5 [some (oR 4 y1), some (oR 3 y2), some (vI y3), some (vI (a.1)), some (vI (a.2))] [] s6 o
def E53_a (X : X2) (y1 : Nat) (y2 : Nat) (y3 : Int) (s6 : S2) (o : Option (AV R2) × S2) : (Int) → Prop := (fun (r : Int) => Go X 1 53 39 [none, none, none, some (vI r), none] [] s6 o)
theorem g53_a (X : X2) (y1 : Nat) (y2 : Nat) (y3 : Int) (x4 : Int) (x5 : Int) (s6 : S2) (o : Option (AV R2) × S2) : J (f53_a y1 y2 y3 x4 x5 s6) (am_kx (H53_a X y1 y2 y3 s6 o) (E53_a X y1 y2 y3 s6 o)) (Go X 1 53 5 [some (oR 4 y1), some (oR 3 y2), some (vI y3), some (vI x4), some (vI x5)] [] s6 o) := by
  unfold f53_a
  refine g_p q53 2 9 [some (oR 4 y1), some (oR 3 y2), some (vI y3), some (vI x4), some (vI x5)] [vI 10, vI x5] rfl ?_
  refine g_i2 q53 rfl rfl ?_ ?_
  ·
    exact g_end (fun h => g_wk [false, false, false, true, false] rfl h)
  ·
    refine g_p q53 1 13 [some (oR 4 y1), some (oR 3 y2), some (vI y3), some (vI x4), some (vI x5)] [oR 4 y1] rfl ?_
    refine g_m (S := [aR 515 y1]) (some (aR 515 y1)) q53 rfl rfl rfl (fun _ => rfl) rfl ?_
    refine g_p q53 1 18 [some (oR 4 y1), some (oR 3 y2), some (vI y3), some (vI x4), some (vI x5)] [vI x5, aR 515 y1] rfl ?_
    refine g_ld q53 rfl rfl rfl rfl rfl rfl (fun v7 => ?_)
    refine g_p q53 1 20 [some (oR 4 y1), some (oR 3 y2), some (vI y3), some (vI x4), some (vI x5)] [vI y3, vI v7] rfl ?_
    refine g_i2 q53 rfl rfl ?_ ?_
    ·
      refine g_inc (fun v8 => [some (oR 4 y1), some (oR 3 y2), some (vI y3), some (vI x4), some (vI v8)]) q53 rfl rfl (fun _ => rfl) (fun v8 => ?_)
      refine g_p q53 1 5 [some (oR 4 y1), some (oR 3 y2), some (vI y3), some (vI x4), some (vI v8)] [] rfl ?_
      exact g_end (fun h => g_wk [true, true, true, true, true] rfl h)
    ·
      refine g_p q53 2 25 [some (oR 4 y1), some (oR 3 y2), some (vI y3), some (vI x4), some (vI x5)] [oR 3 y2, vI x4] rfl ?_
      refine g_m (S := [aR 396 y2, vI x4]) (some (aR 396 y2)) q53 rfl rfl rfl (fun _ => rfl) rfl ?_
      refine g_p q53 1 30 [some (oR 4 y1), some (oR 3 y2), some (vI y3), some (vI x4), some (vI x5)] [vI x5, aR 396 y2, vI x4] rfl ?_
      refine g_ld q53 rfl rfl rfl rfl rfl rfl (fun v9 => ?_)
      refine g_p q53 1 32 [some (oR 4 y1), some (oR 3 y2), some (vI y3), some (vI x4), some (vI x5)] [vI (jadd x4 v9)] rfl ?_
      refine g_top (fun v10 => ?_)
      refine g_p q53 1 33 [some (oR 4 y1), some (oR 3 y2), some (vI y3), some (vI v10), some (vI x5)] [] rfl ?_
      refine g_inc (fun v11 => [some (oR 4 y1), some (oR 3 y2), some (vI y3), some (vI v10), some (vI v11)]) q53 rfl rfl (fun _ => rfl) (fun v11 => ?_)
      refine g_p q53 1 5 [some (oR 4 y1), some (oR 3 y2), some (vI y3), some (vI v10), some (vI v11)] [] rfl ?_
      exact g_end (fun h => g_wk [true, true, true, true, true] rfl h)
theorem g53 (X : X2) (a0 : Nat) (a1 : Nat) (a2 : Int) (s : S2) (o : Option (AV R2) × S2) : J (f53 a0 a1 a2 s) (fun (r : Int) => o = (some (vI r), s)) (Go X 1 53 0 (am_loc (am_nl 53) [oR 4 a0, oR 3 a1, vI a2]) [] s o) := by
  show J _ _ (Go X 1 53 0 [some (oR 4 a0), some (oR 3 a1), some (vI a2), none, none] [] s o)
  unfold f53
  refine g_p q53 4 5 [some (oR 4 a0), some (oR 3 a1), some (vI a2), some (vI 0), some (vI 0)] [] rfl ?_
  refine g_wkJ [true, true, true, true, true] (L0 := [some (oR 4 a0), some (oR 3 a1), some (vI a2), some (vI 0), some (vI 0)]) rfl ?_
  refine g_itr (H53_a X a0 a1 a2 s o) (E53_a X a0 a1 a2 s o) (fun | (x4, x5) => g53_a X a0 a1 a2 x4 x5 s o) ?_
  intro z12
  show J _ _ (Go X 1 53 39 [none, none, none, some (vI z12), none] [] s o)
  refine g_p q53 1 40 [none, none, none, some (vI z12), none] [vI z12] rfl ?_
  exact g_ret q53 rfl rfl rfl
theorem q52 : am_cd 52 = am_c52 := rfl
theorem g52 (X : X2) (a0 : Nat) (a1 : Nat) (a2 : Int) (s : S2) (o : Option (AV R2) × S2) : J (f52 a0 a1 a2 s) (fun (r : Int) => o = (some (vI r), s)) (Go X 2 52 0 (am_loc (am_nl 52) [oR 4 a0, oR 3 a1, vI a2]) [] s o) := by
  show J _ _ (Go X 2 52 0 [some (oR 4 a0), some (oR 3 a1), some (vI a2)] [] s o)
  unfold f52
  refine g_p q52 2 2 [some (oR 4 a0), some (oR 3 a1), some (vI a2)] [vI a2, oR 3 a1] rfl ?_
  refine g_cPI q52 rfl (g50 X a1 a2 s) rfl rfl rfl rfl rfl (fun r1 => ?_)
  refine g_i1 q52 rfl rfl ?_ ?_
  ·
    refine g_p q52 1 25 [some (oR 4 a0), some (oR 3 a1), some (vI a2)] [vI 0] rfl ?_
    exact g_ret q52 rfl rfl rfl
  ·
    refine g_p q52 1 9 [some (oR 4 a0), some (oR 3 a1), some (vI a2)] [oR 3 a1] rfl ?_
    refine g_m (S := [aR 393 a1]) (some (aR 393 a1)) q52 rfl rfl rfl (fun _ => rfl) rfl ?_
    refine g_p q52 1 13 [some (oR 4 a0), some (oR 3 a1), some (vI a2)] [vI a2, aR 393 a1] rfl ?_
    refine g_ld q52 rfl rfl rfl rfl rfl rfl (fun v2 => ?_)
    refine g_p q52 3 17 [some (oR 4 a0), some (oR 3 a1), some (vI a2)] [vI a2, oR 3 a1, oR 4 a0, vI v2] rfl ?_
    refine g_cPI q52 rfl (g53 X a0 a1 a2 s) rfl rfl rfl rfl rfl (fun r3 => ?_)
    refine g_p q52 2 25 [some (oR 4 a0), some (oR 3 a1), some (vI a2)] [vI (jsub v2 r3)] rfl ?_
    refine g_top (fun v4 => ?_)
    exact g_ret q52 rfl rfl rfl
theorem q48 : am_cd 48 = am_c48 := rfl
theorem g48 (X : X2) (a0 : Nat) (a1 : Nat) (a2 : Int) (a3 : Int) (s : S2) (o : Option (AV R2) × S2) : J (f48 a0 a1 a2 a3 s) (fun (r : Int) => o = (some (vI r), s)) (Go X 3 48 0 (am_loc (am_nl 48) [oR 4 a0, oR 3 a1, vI a2, vI a3]) [] s o) := by
  show J _ _ (Go X 3 48 0 [some (oR 4 a0), some (oR 3 a1), some (vI a2), some (vI a3), none] [] s o)
  unfold f48
  refine g_p q48 2 2 [some (oR 4 a0), some (oR 3 a1), some (vI a2), some (vI a3), none] [vI a2, oR 3 a1] rfl ?_
  refine g_cPI q48 rfl (g49 X a1 a2 s) rfl rfl rfl rfl rfl (fun r1 => ?_)
  refine g_i1 q48 rfl rfl ?_ ?_
  ·
    refine g_p q48 1 36 [some (oR 4 a0), some (oR 3 a1), some (vI a2), some (vI a3), none] [vI 0] rfl ?_
    exact g_ret q48 rfl rfl rfl
  ·
    refine g_p q48 2 10 [some (oR 4 a0), some (oR 3 a1), some (vI a2), some (vI a3), none] [vI a3, oR 3 a1] rfl ?_
    refine g_cPI q48 rfl (g50 X a1 a3 s) rfl rfl rfl rfl rfl (fun r2 => ?_)
    refine g_i1 q48 rfl rfl ?_ ?_
    ·
      refine g_p q48 1 36 [some (oR 4 a0), some (oR 3 a1), some (vI a2), some (vI a3), none] [vI 0] rfl ?_
      exact g_ret q48 rfl rfl rfl
    ·
      refine g_p q48 1 17 [some (oR 4 a0), some (oR 3 a1), some (vI a2), some (vI a3), none] [oR 4 a0] rfl ?_
      refine g_m (S := [aR 515 a0]) (some (aR 515 a0)) q48 rfl rfl rfl (fun _ => rfl) rfl ?_
      refine g_p q48 1 21 [some (oR 4 a0), some (oR 3 a1), some (vI a2), some (vI a3), none] [vI a2, aR 515 a0] rfl ?_
      refine g_ld q48 rfl rfl rfl rfl rfl rfl (fun v3 => ?_)
      refine g_p q48 1 23 [some (oR 4 a0), some (oR 3 a1), some (vI a2), some (vI a3), none] [vI (-1), vI v3] rfl ?_
      refine g_i2 q48 rfl rfl ?_ ?_
      ·
        refine g_p q48 1 36 [some (oR 4 a0), some (oR 3 a1), some (vI a2), some (vI a3), none] [vI 0] rfl ?_
        exact g_ret q48 rfl rfl rfl
      ·
        refine g_p q48 1 27 [some (oR 4 a0), some (oR 3 a1), some (vI a2), some (vI a3), none] [oR 4 a0] rfl ?_
        refine g_m (S := [aR 514 a0]) (some (aR 514 a0)) q48 rfl rfl rfl (fun _ => rfl) rfl ?_
        refine g_p q48 1 31 [some (oR 4 a0), some (oR 3 a1), some (vI a2), some (vI a3), none] [vI a3, aR 514 a0] rfl ?_
        refine g_ld q48 rfl rfl rfl rfl rfl rfl (fun v4 => ?_)
        refine g_i1 q48 rfl rfl ?_ ?_
        ·
          refine g_p q48 1 38 [some (oR 4 a0), some (oR 3 a1), some (vI a2), some (vI a3), none] [oR 3 a1] rfl ?_
          refine g_m (S := [aR 395 a1]) (some (aR 395 a1)) q48 rfl rfl rfl (fun _ => rfl) rfl ?_
          refine g_p q48 1 42 [some (oR 4 a0), some (oR 3 a1), some (vI a2), some (vI a3), none] [vI a2, aR 395 a1] rfl ?_
          refine g_ld q48 rfl rfl rfl rfl rfl rfl (fun v5 => ?_)
          refine g_p q48 3 48 [some (oR 4 a0), some (oR 3 a1), some (vI a2), some (vI a3), some (vI v5)] [vI v5, oR 3 a1] rfl ?_
          refine g_cPI q48 rfl (g51 X a1 v5 s) rfl rfl rfl rfl rfl (fun r6 => ?_)
          refine g_i1 q48 rfl rfl ?_ ?_
          ·
            refine g_p q48 1 85 [some (oR 4 a0), some (oR 3 a1), some (vI a2), some (vI a3), some (vI v5)] [vI 0] rfl ?_
            exact g_ret q48 rfl rfl rfl
          ·
            refine g_p q48 1 55 [some (oR 4 a0), some (oR 3 a1), some (vI a2), some (vI a3), some (vI v5)] [oR 4 a0] rfl ?_
            refine g_m (S := [aR 517 a0]) (some (aR 517 a0)) q48 rfl rfl rfl (fun _ => rfl) rfl ?_
            refine g_p q48 1 60 [some (oR 4 a0), some (oR 3 a1), some (vI a2), some (vI a3), some (vI v5)] [vI v5, aR 517 a0] rfl ?_
            refine g_ld q48 rfl rfl rfl rfl rfl rfl (fun v7 => ?_)
            refine g_p q48 1 62 [some (oR 4 a0), some (oR 3 a1), some (vI a2), some (vI a3), some (vI v5)] [vI 2, vI v7] rfl ?_
            refine g_i2 q48 rfl rfl ?_ ?_
            ·
              refine g_p q48 1 85 [some (oR 4 a0), some (oR 3 a1), some (vI a2), some (vI a3), some (vI v5)] [vI 0] rfl ?_
              exact g_ret q48 rfl rfl rfl
            ·
              refine g_p q48 1 66 [some (oR 4 a0), some (oR 3 a1), some (vI a2), some (vI a3), some (vI v5)] [oR 3 a1] rfl ?_
              refine g_m (S := [aR 396 a1]) (some (aR 396 a1)) q48 rfl rfl rfl (fun _ => rfl) rfl ?_
              refine g_p q48 1 70 [some (oR 4 a0), some (oR 3 a1), some (vI a2), some (vI a3), some (vI v5)] [vI a2, aR 396 a1] rfl ?_
              refine g_ld q48 rfl rfl rfl rfl rfl rfl (fun v8 => ?_)
              refine g_p q48 3 74 [some (oR 4 a0), some (oR 3 a1), some (vI a2), some (vI a3), some (vI v5)] [vI a3, oR 3 a1, oR 4 a0, vI v8] rfl ?_
              refine g_cPI q48 rfl (g52 X a0 a1 a3 s) rfl rfl rfl rfl rfl (fun r9 => ?_)
              refine g_i2 q48 rfl rfl ?_ ?_
              ·
                refine g_p q48 1 85 [some (oR 4 a0), some (oR 3 a1), some (vI a2), some (vI a3), some (vI v5)] [vI 0] rfl ?_
                exact g_ret q48 rfl rfl rfl
              ·
                refine g_p q48 2 85 [some (oR 4 a0), some (oR 3 a1), some (vI a2), some (vI a3), some (vI v5)] [vI 1] rfl ?_
                exact g_ret q48 rfl rfl rfl
        ·
          refine g_p q48 1 36 [some (oR 4 a0), some (oR 3 a1), some (vI a2), some (vI a3), none] [vI 0] rfl ?_
          exact g_ret q48 rfl rfl rfl
theorem q54 : am_cd 54 = am_c54 := rfl
theorem g54 (X : X2) (a0 : Nat) (a1 : Nat) (a2 : Int) (a3 : Int) (s : S2) (o : Option (AV R2) × S2) : J (f54 a0 a1 a2 a3 s) (fun (r : S2) => o = (none, r)) (Go X 4 54 0 (am_loc (am_nl 54) [oR 4 a0, oR 3 a1, vI a2, vI a3]) [] s o) := by
  show J _ _ (Go X 4 54 0 [some (oR 4 a0), some (oR 3 a1), some (vI a2), some (vI a3)] [] s o)
  unfold f54
  refine g_p q54 4 4 [some (oR 4 a0), some (oR 3 a1), some (vI a2), some (vI a3)] [vI a3, vI a2, oR 3 a1, oR 4 a0] rfl ?_
  refine g_cPI q54 rfl (g48 X a0 a1 a2 a3 s) rfl rfl rfl rfl rfl (fun r1 => ?_)
  refine g_i1 q54 rfl rfl ?_ ?_
  ·
    exact g_retV q54 rfl rfl
  ·
    refine g_p q54 1 11 [some (oR 4 a0), some (oR 3 a1), some (vI a2), some (vI a3)] [oR 4 a0] rfl ?_
    refine g_m (S := [aR 515 a0]) (some (aR 515 a0)) q54 rfl rfl rfl (fun _ => rfl) rfl ?_
    refine g_p q54 2 16 [some (oR 4 a0), some (oR 3 a1), some (vI a2), some (vI a3)] [vI a3, vI a2, aR 515 a0] rfl ?_
    refine g_sto q54 rfl rfl rfl rfl (fun s2 => ?_)
    refine g_p q54 1 18 [some (oR 4 a0), some (oR 3 a1), some (vI a2), some (vI a3)] [oR 4 a0] rfl ?_
    refine g_m (S := [aR 517 a0]) (some (aR 517 a0)) q54 rfl rfl rfl (fun _ => rfl) rfl ?_
    refine g_p q54 1 22 [some (oR 4 a0), some (oR 3 a1), some (vI a2), some (vI a3)] [oR 3 a1, aR 517 a0] rfl ?_
    refine g_m (S := [aR 395 a1, aR 517 a0]) (some (aR 395 a1)) q54 rfl rfl rfl (fun _ => rfl) rfl ?_
    refine g_p q54 1 26 [some (oR 4 a0), some (oR 3 a1), some (vI a2), some (vI a3)] [vI a2, aR 395 a1, aR 517 a0] rfl ?_
    refine g_ld q54 rfl rfl rfl rfl rfl rfl (fun v3 => ?_)
    refine g_p q54 1 28 [some (oR 4 a0), some (oR 3 a1), some (vI a2), some (vI a3)] [vI v3, aR 517 a0, vI v3, aR 517 a0] rfl ?_
    refine g_ld q54 rfl rfl rfl rfl rfl rfl (fun v4 => ?_)
    refine g_p q54 2 31 [some (oR 4 a0), some (oR 3 a1), some (vI a2), some (vI a3)] [vI (jsub v4 2), vI v3, aR 517 a0] rfl ?_
    refine g_sto q54 rfl rfl rfl rfl (fun s5 => ?_)
    exact g_retV q54 rfl rfl
theorem q47 : am_cd 47 = am_c47 := rfl
theorem g47 (X : X2) (s : S2) (o : Option (AV R2) × S2) : J (f47 s) (fun (r : S2) => o = (none, r)) (Go X 5 47 0 (am_loc (am_nl 47) [oR 2 0, oR 1 0]) [] s o) := by
  show J _ _ (Go X 5 47 0 [some (oR 2 0), some (oR 1 0), none, none, none] [] s o)
  unfold f47
  refine g_p q47 3 3 [some (oR 2 0), some (oR 1 0), none, none, none] [oR 2 0, vI 0, oR 1 0] rfl ?_
  refine g_m (S := [oR 3 5, vI 0, oR 1 0]) (some (oR 3 5)) q47 rfl rfl rfl (fun _ => rfl) rfl ?_
  refine g_get q47 rfl rfl rfl (fun _ => rfl) (fun v1 => ?_)
  refine g_p q47 2 11 [some (oR 2 0), some (oR 1 0), none, none, none] [vI (jsub v1 1), vI 0, oR 1 0] rfl ?_
  refine g_cRI q47 rfl (g39 X 0 (jsub v1 1) s) rfl rfl rfl rfl rfl (fun r2 s3 => ?_)
  refine g_p q47 2 16 [some (oR 2 0), some (oR 1 0), some (vI r2), none, none] [oR 1 0] rfl ?_
  refine g_cPI q47 rfl (g43 X s3) rfl rfl rfl rfl rfl (fun r4 => ?_)
  refine g_p q47 4 23 [some (oR 2 0), some (oR 1 0), some (vI r2), some (vI r4), none] [oR 2 0, vI 0, oR 1 0] rfl ?_
  refine g_m (S := [oR 3 5, vI 0, oR 1 0]) (some (oR 3 5)) q47 rfl rfl rfl (fun _ => rfl) rfl ?_
  refine g_get q47 rfl rfl rfl (fun _ => rfl) (fun v5 => ?_)
  refine g_p q47 2 31 [some (oR 2 0), some (oR 1 0), some (vI r2), some (vI r4), none] [vI (jsub v5 1), vI 0, oR 1 0] rfl ?_
  refine g_cRI q47 rfl (g39 X 0 (jsub v5 1) s3) rfl rfl rfl rfl rfl (fun r6 s7 => ?_)
  refine g_p q47 2 37 [some (oR 2 0), some (oR 1 0), some (vI r2), some (vI r4), some (vI r6)] [oR 2 0] rfl ?_
  refine g_m (S := [oR 3 5]) (some (oR 3 5)) q47 rfl rfl rfl (fun _ => rfl) rfl ?_
  refine g_m (S := [oR 4 161]) (some (oR 4 161)) q47 rfl rfl rfl (fun _ => rfl) rfl ?_
  refine g_p q47 1 44 [some (oR 2 0), some (oR 1 0), some (vI r2), some (vI r4), some (vI r6)] [oR 2 0, oR 4 161] rfl ?_
  refine g_m (S := [oR 3 5, oR 4 161]) (some (oR 3 5)) q47 rfl rfl rfl (fun _ => rfl) rfl ?_
  refine g_p q47 2 50 [some (oR 2 0), some (oR 1 0), some (vI r2), some (vI r4), some (vI r6)] [vI r6, vI r2, oR 3 5, oR 4 161] rfl ?_
  refine g_cPI q47 rfl (g48 X 161 5 r2 r6 s7) rfl rfl rfl rfl rfl (fun r8 => ?_)
  refine g_i1 q47 rfl rfl ?_ ?_
  ·
    refine g_p q47 3 79 [some (oR 2 0), some (oR 1 0), some (vI r2), some (vI r4), some (vI r6)] [vI 1, vI r4, oR 1 0] rfl ?_
    refine g_cV q47 rfl (g44 X r4 1 s7) rfl rfl rfl rfl rfl (fun s9 => ?_)
    exact g_retV q47 rfl rfl
  ·
    refine g_p q47 1 57 [some (oR 2 0), some (oR 1 0), some (vI r2), some (vI r4), some (vI r6)] [oR 2 0] rfl ?_
    refine g_m (S := [oR 3 5]) (some (oR 3 5)) q47 rfl rfl rfl (fun _ => rfl) rfl ?_
    refine g_m (S := [oR 4 161]) (some (oR 4 161)) q47 rfl rfl rfl (fun _ => rfl) rfl ?_
    refine g_p q47 1 64 [some (oR 2 0), some (oR 1 0), some (vI r2), some (vI r4), some (vI r6)] [oR 2 0, oR 4 161] rfl ?_
    refine g_m (S := [oR 3 5, oR 4 161]) (some (oR 3 5)) q47 rfl rfl rfl (fun _ => rfl) rfl ?_
    refine g_p q47 2 70 [some (oR 2 0), some (oR 1 0), some (vI r2), some (vI r4), some (vI r6)] [vI r6, vI r2, oR 3 5, oR 4 161] rfl ?_
    refine g_cV q47 rfl (g54 X 161 5 r2 r6 s7) rfl rfl rfl rfl rfl (fun s10 => ?_)
    refine g_p q47 1 82 [some (oR 2 0), some (oR 1 0), some (vI r2), some (vI r4), some (vI r6)] [] rfl ?_
    exact g_retV q47 rfl rfl
theorem q37 : am_cd 37 = am_c37 := rfl
theorem g37 (X : X2) (a2 : Int) (s : S2) (o : Option (AV R2) × S2) : J (f37 a2 s) (fun (r : S2) => o = (none, r)) (Go X 6 37 0 (am_loc (am_nl 37) [oR 2 0, oR 1 0, vI a2]) [] s o) := by
  show J _ _ (Go X 6 37 0 [some (oR 2 0), some (oR 1 0), some (vI a2)] [] s o)
  unfold f37
  refine g_p q37 1 1 [some (oR 2 0), some (oR 1 0), some (vI a2)] [vI a2] rfl ?_
  refine g_sw q37 rfl ?_
  refine g_swc ?_ ?_
  ·
    refine g_p q37 2 62 [some (oR 2 0), some (oR 1 0), some (vI a2)] [oR 1 0, oR 2 0] rfl ?_
    refine g_cV q37 rfl (g41 X s) rfl rfl rfl rfl rfl (fun s1 => ?_)
    refine g_p q37 1 97 [some (oR 2 0), some (oR 1 0), some (vI a2)] [] rfl ?_
    exact g_retV q37 rfl rfl
  ·
    refine g_swc ?_ ?_
    ·
      refine g_p q37 2 70 [some (oR 2 0), some (oR 1 0), some (vI a2)] [oR 1 0, oR 2 0] rfl ?_
      refine g_cV q37 rfl (g42 X s) rfl rfl rfl rfl rfl (fun s2 => ?_)
      refine g_p q37 1 97 [some (oR 2 0), some (oR 1 0), some (vI a2)] [] rfl ?_
      exact g_retV q37 rfl rfl
    ·
      refine g_swc ?_ ?_
      ·
        refine g_p q37 2 86 [some (oR 2 0), some (oR 1 0), some (vI a2)] [oR 1 0, oR 2 0] rfl ?_
        refine g_cV q37 rfl (g46 X s) rfl rfl rfl rfl rfl (fun s3 => ?_)
        refine g_p q37 1 97 [some (oR 2 0), some (oR 1 0), some (vI a2)] [] rfl ?_
        exact g_retV q37 rfl rfl
      ·
        refine g_swc ?_ ?_
        ·
          refine g_p q37 2 54 [some (oR 2 0), some (oR 1 0), some (vI a2)] [oR 1 0, oR 2 0] rfl ?_
          refine g_cV q37 rfl (g38 X s) rfl rfl rfl rfl rfl (fun s4 => ?_)
          refine g_p q37 1 97 [some (oR 2 0), some (oR 1 0), some (vI a2)] [] rfl ?_
          exact g_retV q37 rfl rfl
        ·
          refine g_swc ?_ ?_
          ·
            refine g_p q37 2 78 [some (oR 2 0), some (oR 1 0), some (vI a2)] [oR 1 0, oR 2 0] rfl ?_
            refine g_cV q37 rfl (g45 X s) rfl rfl rfl rfl rfl (fun s5 => ?_)
            refine g_p q37 1 97 [some (oR 2 0), some (oR 1 0), some (vI a2)] [] rfl ?_
            exact g_retV q37 rfl rfl
          ·
            refine g_swe ?_
            refine g_p q37 2 94 [some (oR 2 0), some (oR 1 0), some (vI a2)] [oR 1 0, oR 2 0] rfl ?_
            refine g_cV q37 rfl (g47 X s) rfl rfl rfl rfl rfl (fun s6 => ?_)
            exact g_retV q37 rfl rfl
theorem q55 : am_cd 55 = am_c55 := rfl
theorem g55 (X : X2) (a1 : Int) (s : S2) (o : Option (AV R2) × S2) : J (f55 a1 s) (fun (r : S2) => o = (none, r)) (Go X 2 55 0 (am_loc (am_nl 55) [oR 1 0, vI a1]) [] s o) := by
  show J _ _ (Go X 2 55 0 [some (oR 1 0), some (vI a1)] [] s o)
  unfold f55
  refine g_p q55 1 1 [some (oR 1 0), some (vI a1)] [oR 1 0] rfl ?_
  refine g_cPI q55 rfl (g32 X s) rfl rfl rfl rfl rfl (fun r1 => ?_)
  refine g_p q55 1 5 [some (oR 1 0), some (vI a1)] [vI a1, vI r1] rfl ?_
  refine g_i2 q55 rfl rfl ?_ ?_
  ·
    refine g_p q55 2 17 [some (oR 1 0), some (vI a1)] [vI 0, oR 1 0] rfl ?_
    refine g_cV q55 rfl (g34 X 0 s) rfl rfl rfl rfl rfl (fun s2 => ?_)
    exact g_retV q55 rfl rfl
  ·
    refine g_p q55 1 9 [some (oR 1 0), some (vI a1)] [oR 1 0] rfl ?_
    refine g_cV q55 rfl (g36 X s) rfl rfl rfl rfl rfl (fun s3 => ?_)
    refine g_p q55 1 20 [some (oR 1 0), some (vI a1)] [] rfl ?_
    exact g_retV q55 rfl rfl
theorem q19 : am_cd 19 = am_c19 := rfl
def H19_a (X : X2) (o : Option (AV R2) × S2) (a : Int × S2) : Prop := Go X 10 19 13 [some (oR 2 0), some (oR 1 0), some (vI (a.1)), none] [] (a.2) o
def E19_a (X : X2) (o : Option (AV R2) × S2) : (S2) ⊕ (S2) → Prop := (am_kx (fun (r : S2) => Go X 10 19 92 [none, none, none, none] [] r o) (fun (r : S2) => Go X 10 19 106 [none, some (oR 1 0), none, none] [] r o))
theorem g19_a (X : X2) (x3 : Int) (s4 : S2) (o : Option (AV R2) × S2) : J (f19_a x3 s4) (am_kx (H19_a X o) (E19_a X o)) (Go X 10 19 13 [some (oR 2 0), some (oR 1 0), some (vI x3), none] [] s4 o) := by
  unfold f19_a
  refine g_p q19 2 16 [some (oR 2 0), some (oR 1 0), some (vI x3), none] [vI 40, vI x3] rfl ?_
  refine g_i2 q19 rfl rfl ?_ ?_
  ·
    exact g_end (fun h => g_wk [false, true, false, false] rfl h)
  ·
    refine g_p q19 1 20 [some (oR 2 0), some (oR 1 0), some (vI x3), none] [oR 1 0] rfl ?_
    refine g_get q19 rfl rfl rfl (fun _ => rfl) (fun v5 => ?_)
    refine g_i1 q19 rfl rfl ?_ ?_
    ·
      exact g_end (fun h => g_wk [false, true, false, false] rfl h)
    ·
      refine g_p q19 1 27 [some (oR 2 0), some (oR 1 0), some (vI x3), none] [oR 1 0] rfl ?_
      refine g_cPI q19 rfl (g32 X s4) rfl rfl rfl rfl rfl (fun r6 => ?_)
      refine g_p q19 2 32 [some (oR 2 0), some (oR 1 0), some (vI x3), some (vI r6)] [vI r6] rfl ?_
      refine g_cPI q19 rfl (g33 X r6 s4) rfl rfl rfl rfl rfl (fun r7 => ?_)
      refine g_jn (fun j78 => ∀ (s8 : S2), J (j78 s8) (am_kx (H19_a X o) (E19_a X o)) (Go X 10 19 78 [some (oR 2 0), some (oR 1 0), some (vI x3), none] [] s8 o)) ?_ (fun j78 hj78 => ?_)
      ·
        intro s8
        refine g_p q19 1 79 [some (oR 2 0), some (oR 1 0), some (vI x3), none] [oR 1 0] rfl ?_
        refine g_get q19 rfl rfl rfl (fun _ => rfl) (fun v9 => ?_)
        refine g_jn (fun j94 => ∀ (_ : Unit), J (j94 ()) (am_kx (H19_a X o) (E19_a X o)) (Go X 10 19 94 [some (oR 2 0), some (oR 1 0), some (vI x3), none] [] s8 o)) ?_ (fun j94 hj94 => ?_)
        ·
          intro _
          refine g_p q19 2 97 [some (oR 2 0), some (oR 1 0), some (vI x3), none] [vI 59, oR 1 0] rfl ?_
          refine g_cV q19 rfl (g55 X 59 s8) rfl rfl rfl rfl rfl (fun s10 => ?_)
          refine g_inc (fun v11 => [some (oR 2 0), some (oR 1 0), some (vI v11), none]) q19 rfl rfl (fun _ => rfl) (fun v11 => ?_)
          refine g_p q19 1 13 [some (oR 2 0), some (oR 1 0), some (vI v11), none] [] rfl ?_
          exact g_end (fun h => g_wk [true, true, true, false] rfl h)
        ·
          refine g_i1 q19 rfl rfl ?_ ?_
          ·
            exact g_wkJ [true, true, true, false] rfl (hj94 ())
          ·
            refine g_p q19 1 86 [some (oR 2 0), some (oR 1 0), some (vI x3), none] [oR 1 0] rfl ?_
            refine g_cPI q19 rfl (g32 X s8) rfl rfl rfl rfl rfl (fun r12 => ?_)
            refine g_i1 q19 rfl rfl ?_ ?_
            ·
              exact g_wkJ [true, true, true, false] rfl (hj94 ())
            ·
              exact g_end (fun h => g_wk [false, false, false, false] rfl h)
      ·
        refine g_i1 q19 rfl rfl ?_ ?_
        ·
          refine g_p q19 2 49 [some (oR 2 0), some (oR 1 0), some (vI x3), some (vI r6)] [vI 40, vI x3] rfl ?_
          refine g_jn (fun j60 => ∀ (_ : Unit), J (j60 ()) (am_kx (H19_a X o) (E19_a X o)) (Go X 10 19 60 [some (oR 2 0), some (oR 1 0), some (vI x3), none] [] s4 o)) ?_ (fun j60 hj60 => ?_)
          ·
            intro _
            refine g_p q19 2 62 [some (oR 2 0), some (oR 1 0), some (vI x3), none] [vI 4, oR 1 0] rfl ?_
            refine g_cV q19 rfl (g34 X 4 s4) rfl rfl rfl rfl rfl (fun s13 => ?_)
            refine g_p q19 1 78 [some (oR 2 0), some (oR 1 0), some (vI x3), none] [] rfl ?_
            exact g_wkJ [true, true, true, false] rfl (hj78 s13)
          ·
            refine g_i2 q19 rfl rfl ?_ ?_
            ·
              exact g_wkJ [true, true, true, false] rfl (hj60 ())
            ·
              refine g_p q19 2 54 [some (oR 2 0), some (oR 1 0), some (vI x3), some (vI r6)] [vI r6, oR 2 0] rfl ?_
              refine g_cPI q19 rfl (g35 X r6 s4) rfl rfl rfl rfl rfl (fun r14 => ?_)
              refine g_i1 q19 rfl rfl ?_ ?_
              ·
                refine g_p q19 1 69 [some (oR 2 0), some (oR 1 0), some (vI x3), some (vI r6)] [oR 1 0] rfl ?_
                refine g_cV q19 rfl (g36 X s4) rfl rfl rfl rfl rfl (fun s15 => ?_)
                refine g_p q19 3 75 [some (oR 2 0), some (oR 1 0), some (vI x3), some (vI r6)] [vI r6, oR 1 0, oR 2 0] rfl ?_
                refine g_cV q19 rfl (g37 X r6 s15) rfl rfl rfl rfl rfl (fun s16 => ?_)
                exact g_wkJ [true, true, true, false] rfl (hj78 s16)
              ·
                exact g_wkJ [true, true, true, false] rfl (hj60 ())
        ·
          refine g_p q19 2 40 [some (oR 2 0), some (oR 1 0), some (vI x3), some (vI r6)] [vI 0, oR 1 0] rfl ?_
          refine g_cV q19 rfl (g34 X 0 s4) rfl rfl rfl rfl rfl (fun s17 => ?_)
          refine g_p q19 1 78 [some (oR 2 0), some (oR 1 0), some (vI x3), some (vI r6)] [] rfl ?_
          exact g_wkJ [true, true, true, false] rfl (hj78 s17)
theorem g19 (X : X2) (s : S2) (o : Option (AV R2) × S2) : J (f19 s) (fun (r : Int × S2) => o = (some (vI r.1), r.2)) (Go X 10 19 0 (am_loc (am_nl 19) [oR 2 0, oR 1 0]) [] s o) := by
  show J _ _ (Go X 10 19 0 [some (oR 2 0), some (oR 1 0), none, none] [] s o)
  unfold f19
  refine g_p q19 1 1 [some (oR 2 0), some (oR 1 0), none, none] [oR 2 0] rfl ?_
  refine g_m (S := [oR 3 5]) (some (oR 3 5)) q19 rfl rfl rfl (fun _ => rfl) rfl ?_
  refine g_cV q19 rfl (g20 X 5 s) rfl rfl rfl rfl rfl (fun s1 => ?_)
  refine g_p q19 1 8 [some (oR 2 0), some (oR 1 0), none, none] [oR 1 0] rfl ?_
  refine g_cV q19 rfl (g21 X s1) rfl rfl rfl rfl rfl (fun s2 => ?_)
  refine g_p q19 2 13 [some (oR 2 0), some (oR 1 0), some (vI 0), none] [] rfl ?_
  refine g_wkJ [true, true, true, false] (L0 := [some (oR 2 0), some (oR 1 0), some (vI 0), none]) rfl ?_
  refine g_itr (H19_a X o) (E19_a X o) (fun | (x3, s4) => g19_a X x3 s4 o) ?_
  refine g_se ?_ ?_
  ·
    intro s18
    show J _ _ (Go X 10 19 92 [none, none, none, none] [] s18 o)
    refine g_p q19 1 93 [none, none, none, none] [vI 0] rfl ?_
    exact g_ret q19 rfl rfl rfl
  ·
    intro s19
    show J _ _ (Go X 10 19 106 [none, some (oR 1 0), none, none] [] s19 o)
    refine g_p q19 1 107 [none, some (oR 1 0), none, none] [oR 1 0] rfl ?_
    refine g_get q19 rfl rfl rfl (fun _ => rfl) (fun v20 => ?_)
    exact g_ret q19 rfl rfl rfl
theorem q58 : am_cd 58 = am_c58 := rfl
theorem g58 (X : X2) (a0 : Nat) (a1 : Nat) (s : S2) (o : Option (AV R2) × S2) : J (f58 a0 a1 s) (fun (r : S2) => o = (none, r)) (Go X 1 58 0 (am_loc (am_nl 58) [oR 4 a0, oR 4 a1]) [] s o) := by
  show J _ _ (Go X 1 58 0 [some (oR 4 a0), some (oR 4 a1)] [] s o)
  unfold f58
  refine g_p q58 2 2 [some (oR 4 a0), some (oR 4 a1)] [oR 4 a1, oR 4 a0] rfl ?_
  refine g_get q58 rfl rfl rfl (fun _ => rfl) (fun v1 => ?_)
  refine g_put q58 rfl rfl rfl (fun _ => rfl) (fun s2 => ?_)
  refine g_p q58 1 9 [some (oR 4 a0), some (oR 4 a1)] [oR 4 a1] rfl ?_
  refine g_m (S := [aR 513 a1]) (some (aR 513 a1)) q58 rfl rfl rfl (fun _ => rfl) rfl ?_
  refine g_p q58 2 14 [some (oR 4 a0), some (oR 4 a1)] [oR 4 a0, vI 0, aR 513 a1] rfl ?_
  refine g_m (S := [aR 513 a0, vI 0, aR 513 a1]) (some (aR 513 a0)) q58 rfl rfl rfl (fun _ => rfl) rfl ?_
  refine g_p q58 2 20 [some (oR 4 a0), some (oR 4 a1)] [vI 6, vI 0, aR 513 a0, vI 0, aR 513 a1] rfl ?_
  refine g_cpy (im := 0) q58 rfl rfl rfl rfl rfl (fun s3 => ?_)
  refine g_p q58 1 24 [some (oR 4 a0), some (oR 4 a1)] [oR 4 a1] rfl ?_
  refine g_m (S := [aR 514 a1]) (some (aR 514 a1)) q58 rfl rfl rfl (fun _ => rfl) rfl ?_
  refine g_p q58 2 29 [some (oR 4 a0), some (oR 4 a1)] [oR 4 a0, vI 0, aR 514 a1] rfl ?_
  refine g_m (S := [aR 514 a0, vI 0, aR 514 a1]) (some (aR 514 a0)) q58 rfl rfl rfl (fun _ => rfl) rfl ?_
  refine g_p q58 2 35 [some (oR 4 a0), some (oR 4 a1)] [vI 6, vI 0, aR 514 a0, vI 0, aR 514 a1] rfl ?_
  refine g_cpy (im := 0) q58 rfl rfl rfl rfl rfl (fun s4 => ?_)
  refine g_p q58 1 39 [some (oR 4 a0), some (oR 4 a1)] [oR 4 a1] rfl ?_
  refine g_m (S := [aR 515 a1]) (some (aR 515 a1)) q58 rfl rfl rfl (fun _ => rfl) rfl ?_
  refine g_p q58 2 44 [some (oR 4 a0), some (oR 4 a1)] [oR 4 a0, vI 0, aR 515 a1] rfl ?_
  refine g_m (S := [aR 515 a0, vI 0, aR 515 a1]) (some (aR 515 a0)) q58 rfl rfl rfl (fun _ => rfl) rfl ?_
  refine g_p q58 2 50 [some (oR 4 a0), some (oR 4 a1)] [vI 10, vI 0, aR 515 a0, vI 0, aR 515 a1] rfl ?_
  refine g_cpy (im := 0) q58 rfl rfl rfl rfl rfl (fun s5 => ?_)
  refine g_p q58 1 54 [some (oR 4 a0), some (oR 4 a1)] [oR 4 a1] rfl ?_
  refine g_m (S := [aR 516 a1]) (some (aR 516 a1)) q58 rfl rfl rfl (fun _ => rfl) rfl ?_
  refine g_p q58 2 59 [some (oR 4 a0), some (oR 4 a1)] [oR 4 a0, vI 0, aR 516 a1] rfl ?_
  refine g_m (S := [aR 516 a0, vI 0, aR 516 a1]) (some (aR 516 a0)) q58 rfl rfl rfl (fun _ => rfl) rfl ?_
  refine g_p q58 2 65 [some (oR 4 a0), some (oR 4 a1)] [vI 10, vI 0, aR 516 a0, vI 0, aR 516 a1] rfl ?_
  refine g_cpy (im := 0) q58 rfl rfl rfl rfl rfl (fun s6 => ?_)
  refine g_p q58 1 69 [some (oR 4 a0), some (oR 4 a1)] [oR 4 a1] rfl ?_
  refine g_m (S := [aR 517 a1]) (some (aR 517 a1)) q58 rfl rfl rfl (fun _ => rfl) rfl ?_
  refine g_p q58 2 74 [some (oR 4 a0), some (oR 4 a1)] [oR 4 a0, vI 0, aR 517 a1] rfl ?_
  refine g_m (S := [aR 517 a0, vI 0, aR 517 a1]) (some (aR 517 a0)) q58 rfl rfl rfl (fun _ => rfl) rfl ?_
  refine g_p q58 2 79 [some (oR 4 a0), some (oR 4 a1)] [vI 4, vI 0, aR 517 a0, vI 0, aR 517 a1] rfl ?_
  refine g_cpy (im := 0) q58 rfl rfl rfl rfl rfl (fun s7 => ?_)
  refine g_p q58 1 83 [some (oR 4 a0), some (oR 4 a1)] [oR 4 a1] rfl ?_
  refine g_m (S := [aR 518 a1]) (some (aR 518 a1)) q58 rfl rfl rfl (fun _ => rfl) rfl ?_
  refine g_p q58 2 88 [some (oR 4 a0), some (oR 4 a1)] [oR 4 a0, vI 0, aR 518 a1] rfl ?_
  refine g_m (S := [aR 518 a0, vI 0, aR 518 a1]) (some (aR 518 a0)) q58 rfl rfl rfl (fun _ => rfl) rfl ?_
  refine g_p q58 2 93 [some (oR 4 a0), some (oR 4 a1)] [vI 4, vI 0, aR 518 a0, vI 0, aR 518 a1] rfl ?_
  refine g_cpy (im := 0) q58 rfl rfl rfl rfl rfl (fun s8 => ?_)
  exact g_retV q58 rfl rfl
theorem q57 : am_cd 57 = am_c57 := rfl
theorem g57 (X : X2) (a0 : Nat) (a1 : Nat) (s : S2) (o : Option (AV R2) × S2) : J (f57 a0 a1 s) (fun (r : S2) => o = (none, r)) (Go X 2 57 0 (am_loc (am_nl 57) [oR 3 a0, oR 3 a1]) [] s o) := by
  show J _ _ (Go X 2 57 0 [some (oR 3 a0), some (oR 3 a1)] [] s o)
  unfold f57
  refine g_p q57 2 2 [some (oR 3 a0), some (oR 3 a1)] [oR 3 a1, oR 3 a0] rfl ?_
  refine g_get q57 rfl rfl rfl (fun _ => rfl) (fun v1 => ?_)
  refine g_putb q57 rfl rfl rfl (fun _ h => if_pos h) (fun s2 => ?_)
  refine g_p q57 2 10 [some (oR 3 a0), some (oR 3 a1)] [oR 3 a1, oR 3 a0] rfl ?_
  refine g_get q57 rfl rfl rfl (fun _ => rfl) (fun v3 => ?_)
  refine g_put q57 rfl rfl rfl (fun _ => rfl) (fun s4 => ?_)
  refine g_p q57 2 18 [some (oR 3 a0), some (oR 3 a1)] [oR 3 a1, oR 3 a0] rfl ?_
  refine g_get q57 rfl rfl rfl (fun _ => rfl) (fun v5 => ?_)
  refine g_put q57 rfl rfl rfl (fun _ => rfl) (fun s6 => ?_)
  refine g_p q57 2 26 [some (oR 3 a0), some (oR 3 a1)] [oR 3 a1, oR 3 a0] rfl ?_
  refine g_get q57 rfl rfl rfl (fun _ => rfl) (fun v7 => ?_)
  refine g_put q57 rfl rfl rfl (fun _ => rfl) (fun s8 => ?_)
  refine g_p q57 2 34 [some (oR 3 a0), some (oR 3 a1)] [oR 3 a1, oR 3 a0] rfl ?_
  refine g_get q57 rfl rfl rfl (fun _ => rfl) (fun v9 => ?_)
  refine g_put q57 rfl rfl rfl (fun _ => rfl) (fun s10 => ?_)
  refine g_p q57 2 42 [some (oR 3 a0), some (oR 3 a1)] [oR 3 a1, oR 3 a0] rfl ?_
  refine g_get q57 rfl rfl rfl (fun _ => rfl) (fun v11 => ?_)
  refine g_put q57 rfl rfl rfl (fun _ => rfl) (fun s12 => ?_)
  refine g_p q57 2 50 [some (oR 3 a0), some (oR 3 a1)] [oR 3 a1, oR 3 a0] rfl ?_
  refine g_get q57 rfl rfl rfl (fun _ => rfl) (fun v13 => ?_)
  refine g_put q57 rfl rfl rfl (fun _ => rfl) (fun s14 => ?_)
  refine g_p q57 1 57 [some (oR 3 a0), some (oR 3 a1)] [oR 3 a1] rfl ?_
  refine g_m (S := [aR 391 a1]) (some (aR 391 a1)) q57 rfl rfl rfl (fun _ => rfl) rfl ?_
  refine g_p q57 2 62 [some (oR 3 a0), some (oR 3 a1)] [oR 3 a0, vI 0, aR 391 a1] rfl ?_
  refine g_m (S := [aR 391 a0, vI 0, aR 391 a1]) (some (aR 391 a0)) q57 rfl rfl rfl (fun _ => rfl) rfl ?_
  refine g_p q57 2 68 [some (oR 3 a0), some (oR 3 a1)] [vI 6, vI 0, aR 391 a0, vI 0, aR 391 a1] rfl ?_
  refine g_cpy (im := 0) q57 rfl rfl rfl rfl rfl (fun s15 => ?_)
  refine g_p q57 1 72 [some (oR 3 a0), some (oR 3 a1)] [oR 3 a1] rfl ?_
  refine g_m (S := [aR 392 a1]) (some (aR 392 a1)) q57 rfl rfl rfl (fun _ => rfl) rfl ?_
  refine g_p q57 2 77 [some (oR 3 a0), some (oR 3 a1)] [oR 3 a0, vI 0, aR 392 a1] rfl ?_
  refine g_m (S := [aR 392 a0, vI 0, aR 392 a1]) (some (aR 392 a0)) q57 rfl rfl rfl (fun _ => rfl) rfl ?_
  refine g_p q57 2 83 [some (oR 3 a0), some (oR 3 a1)] [vI 6, vI 0, aR 392 a0, vI 0, aR 392 a1] rfl ?_
  refine g_cpy (im := 0) q57 rfl rfl rfl rfl rfl (fun s16 => ?_)
  refine g_p q57 1 87 [some (oR 3 a0), some (oR 3 a1)] [oR 3 a1] rfl ?_
  refine g_m (S := [aR 393 a1]) (some (aR 393 a1)) q57 rfl rfl rfl (fun _ => rfl) rfl ?_
  refine g_p q57 2 92 [some (oR 3 a0), some (oR 3 a1)] [oR 3 a0, vI 0, aR 393 a1] rfl ?_
  refine g_m (S := [aR 393 a0, vI 0, aR 393 a1]) (some (aR 393 a0)) q57 rfl rfl rfl (fun _ => rfl) rfl ?_
  refine g_p q57 2 98 [some (oR 3 a0), some (oR 3 a1)] [vI 6, vI 0, aR 393 a0, vI 0, aR 393 a1] rfl ?_
  refine g_cpy (im := 0) q57 rfl rfl rfl rfl rfl (fun s17 => ?_)
  refine g_p q57 1 102 [some (oR 3 a0), some (oR 3 a1)] [oR 3 a1] rfl ?_
  refine g_m (S := [aR 394 a1]) (some (aR 394 a1)) q57 rfl rfl rfl (fun _ => rfl) rfl ?_
  refine g_p q57 2 107 [some (oR 3 a0), some (oR 3 a1)] [oR 3 a0, vI 0, aR 394 a1] rfl ?_
  refine g_m (S := [aR 394 a0, vI 0, aR 394 a1]) (some (aR 394 a0)) q57 rfl rfl rfl (fun _ => rfl) rfl ?_
  refine g_p q57 2 113 [some (oR 3 a0), some (oR 3 a1)] [vI 6, vI 0, aR 394 a0, vI 0, aR 394 a1] rfl ?_
  refine g_cpy (im := 0) q57 rfl rfl rfl rfl rfl (fun s18 => ?_)
  refine g_p q57 1 117 [some (oR 3 a0), some (oR 3 a1)] [oR 3 a1] rfl ?_
  refine g_m (S := [aR 395 a1]) (some (aR 395 a1)) q57 rfl rfl rfl (fun _ => rfl) rfl ?_
  refine g_p q57 2 122 [some (oR 3 a0), some (oR 3 a1)] [oR 3 a0, vI 0, aR 395 a1] rfl ?_
  refine g_m (S := [aR 395 a0, vI 0, aR 395 a1]) (some (aR 395 a0)) q57 rfl rfl rfl (fun _ => rfl) rfl ?_
  refine g_p q57 2 128 [some (oR 3 a0), some (oR 3 a1)] [vI 10, vI 0, aR 395 a0, vI 0, aR 395 a1] rfl ?_
  refine g_cpy (im := 0) q57 rfl rfl rfl rfl rfl (fun s19 => ?_)
  refine g_p q57 1 132 [some (oR 3 a0), some (oR 3 a1)] [oR 3 a1] rfl ?_
  refine g_m (S := [aR 396 a1]) (some (aR 396 a1)) q57 rfl rfl rfl (fun _ => rfl) rfl ?_
  refine g_p q57 2 137 [some (oR 3 a0), some (oR 3 a1)] [oR 3 a0, vI 0, aR 396 a1] rfl ?_
  refine g_m (S := [aR 396 a0, vI 0, aR 396 a1]) (some (aR 396 a0)) q57 rfl rfl rfl (fun _ => rfl) rfl ?_
  refine g_p q57 2 143 [some (oR 3 a0), some (oR 3 a1)] [vI 10, vI 0, aR 396 a0, vI 0, aR 396 a1] rfl ?_
  refine g_cpy (im := 0) q57 rfl rfl rfl rfl rfl (fun s20 => ?_)
  refine g_p q57 1 147 [some (oR 3 a0), some (oR 3 a1)] [oR 3 a1] rfl ?_
  refine g_m (S := [aR 397 a1]) (some (aR 397 a1)) q57 rfl rfl rfl (fun _ => rfl) rfl ?_
  refine g_p q57 2 152 [some (oR 3 a0), some (oR 3 a1)] [oR 3 a0, vI 0, aR 397 a1] rfl ?_
  refine g_m (S := [aR 397 a0, vI 0, aR 397 a1]) (some (aR 397 a0)) q57 rfl rfl rfl (fun _ => rfl) rfl ?_
  refine g_p q57 2 158 [some (oR 3 a0), some (oR 3 a1)] [vI 10, vI 0, aR 397 a0, vI 0, aR 397 a1] rfl ?_
  refine g_cpy (im := 0) q57 rfl rfl rfl rfl rfl (fun s21 => ?_)
  refine g_p q57 1 162 [some (oR 3 a0), some (oR 3 a1)] [oR 3 a1] rfl ?_
  refine g_m (S := [aR 398 a1]) (some (aR 398 a1)) q57 rfl rfl rfl (fun _ => rfl) rfl ?_
  refine g_p q57 2 167 [some (oR 3 a0), some (oR 3 a1)] [oR 3 a0, vI 0, aR 398 a1] rfl ?_
  refine g_m (S := [aR 398 a0, vI 0, aR 398 a1]) (some (aR 398 a0)) q57 rfl rfl rfl (fun _ => rfl) rfl ?_
  refine g_p q57 2 172 [some (oR 3 a0), some (oR 3 a1)] [vI 3, vI 0, aR 398 a0, vI 0, aR 398 a1] rfl ?_
  refine g_cpy (im := 0) q57 rfl rfl rfl rfl rfl (fun s22 => ?_)
  refine g_p q57 1 176 [some (oR 3 a0), some (oR 3 a1)] [oR 3 a1] rfl ?_
  refine g_m (S := [aR 399 a1]) (some (aR 399 a1)) q57 rfl rfl rfl (fun _ => rfl) rfl ?_
  refine g_p q57 2 181 [some (oR 3 a0), some (oR 3 a1)] [oR 3 a0, vI 0, aR 399 a1] rfl ?_
  refine g_m (S := [aR 399 a0, vI 0, aR 399 a1]) (some (aR 399 a0)) q57 rfl rfl rfl (fun _ => rfl) rfl ?_
  refine g_p q57 2 186 [some (oR 3 a0), some (oR 3 a1)] [vI 3, vI 0, aR 399 a0, vI 0, aR 399 a1] rfl ?_
  refine g_cpy (im := 0) q57 rfl rfl rfl rfl rfl (fun s23 => ?_)
  refine g_p q57 1 190 [some (oR 3 a0), some (oR 3 a1)] [oR 3 a0] rfl ?_
  refine g_m (S := [oR 4 (32 * a0 + 1)]) (some (oR 4 (32 * a0 + 1))) q57 rfl rfl rfl (fun _ => rfl) rfl ?_
  refine g_p q57 1 194 [some (oR 3 a0), some (oR 3 a1)] [oR 3 a1, oR 4 (32 * a0 + 1)] rfl ?_
  refine g_m (S := [oR 4 (32 * a1 + 1), oR 4 (32 * a0 + 1)]) (some (oR 4 (32 * a1 + 1))) q57 rfl rfl rfl (fun _ => rfl) rfl ?_
  refine g_cV q57 rfl (g58 X (32 * a0 + 1) (32 * a1 + 1) s23) rfl rfl rfl rfl rfl (fun s24 => ?_)
  exact g_retV q57 rfl rfl
theorem q56 : am_cd 56 = am_c56 := rfl
theorem g56 (X : X2) (a0 : Nat) (a1 : Nat) (s : S2) (o : Option (AV R2) × S2) : J (f56 a0 a1 s) (fun (r : S2) => o = (none, r)) (Go X 3 56 0 (am_loc (am_nl 56) [oR 8 a0, oR 3 a1]) [] s o) := by
  show J _ _ (Go X 3 56 0 [some (oR 8 a0), some (oR 3 a1)] [] s o)
  unfold f56
  refine g_p q56 1 1 [some (oR 8 a0), some (oR 3 a1)] [oR 8 a0] rfl ?_
  refine g_m (S := [oR 3 a0]) (some (oR 3 a0)) q56 rfl rfl rfl (fun _ => rfl) rfl ?_
  refine g_p q56 1 5 [some (oR 8 a0), some (oR 3 a1)] [oR 3 a1, oR 3 a0] rfl ?_
  refine g_cV q56 rfl (g57 X a0 a1 s) rfl rfl rfl rfl rfl (fun s1 => ?_)
  refine g_p q56 1 9 [some (oR 8 a0), some (oR 3 a1)] [oR 8 a0] rfl ?_
  refine g_m (S := [oR 4 (32 * a0 + 0)]) (some (oR 4 (32 * a0 + 0))) q56 rfl rfl rfl (fun _ => rfl) rfl ?_
  refine g_p q56 1 13 [some (oR 8 a0), some (oR 3 a1)] [oR 3 a1, oR 4 (32 * a0 + 0)] rfl ?_
  refine g_m (S := [oR 4 (32 * a1 + 1), oR 4 (32 * a0 + 0)]) (some (oR 4 (32 * a1 + 1))) q56 rfl rfl rfl (fun _ => rfl) rfl ?_
  refine g_cV q56 rfl (g58 X (32 * a0 + 0) (32 * a1 + 1) s1) rfl rfl rfl rfl rfl (fun s2 => ?_)
  refine g_p q56 2 21 [some (oR 8 a0), some (oR 3 a1)] [vI 0, oR 8 a0] rfl ?_
  refine g_put q56 rfl rfl rfl (fun _ => rfl) (fun s3 => ?_)
  refine g_p q56 2 26 [some (oR 8 a0), some (oR 3 a1)] [vI 0, oR 8 a0] rfl ?_
  refine g_put q56 rfl rfl rfl (fun _ => rfl) (fun s4 => ?_)
  exact g_retV q56 rfl rfl
theorem q18 : am_cd 18 = am_c18 := rfl
theorem g18 (X : X2) (s : S2) (o : Option (AV R2) × S2) : J (f18 s) (fun (r : Int × S2) => o = (some (vI r.1), r.2)) (Go X 11 18 0 (am_loc (am_nl 18) [oR 0 0]) [] s o) := by
  show J _ _ (Go X 11 18 0 [some (oR 0 0), none] [] s o)
  unfold f18
  refine g_p q18 1 1 [some (oR 0 0), none] [oR 0 0] rfl ?_
  refine g_m (S := [oR 2 0]) (some (oR 2 0)) q18 rfl rfl rfl (fun _ => rfl) rfl ?_
  refine g_p q18 1 5 [some (oR 0 0), none] [oR 0 0, oR 2 0] rfl ?_
  refine g_m (S := [oR 1 0, oR 2 0]) (some (oR 1 0)) q18 rfl rfl rfl (fun _ => rfl) rfl ?_
  refine g_cRI q18 rfl (g19 X s) rfl rfl rfl rfl rfl (fun r1 s2 => ?_)
  refine g_p q18 2 13 [some (oR 0 0), some (vI r1)] [oR 0 0] rfl ?_
  refine g_m (S := [oR 1 0]) (some (oR 1 0)) q18 rfl rfl rfl (fun _ => rfl) rfl ?_
  refine g_p q18 1 17 [some (oR 0 0), some (vI r1)] [vI 0, oR 1 0] rfl ?_
  refine g_put q18 rfl rfl rfl (fun _ => rfl) (fun s3 => ?_)
  refine g_p q18 1 21 [some (oR 0 0), some (vI r1)] [vI r1] rfl ?_
  refine g_i1 q18 rfl rfl ?_ ?_
  ·
    refine g_p q18 1 30 [some (oR 0 0), some (vI r1)] [oR 0 0] rfl ?_
    refine g_m (S := [oR 8 0]) (some (oR 8 0)) q18 rfl rfl rfl (fun _ => rfl) rfl ?_
    refine g_p q18 1 34 [some (oR 0 0), some (vI r1)] [oR 0 0, oR 8 0] rfl ?_
    refine g_m (S := [oR 2 0, oR 8 0]) (some (oR 2 0)) q18 rfl rfl rfl (fun _ => rfl) rfl ?_
    refine g_m (S := [oR 3 5, oR 8 0]) (some (oR 3 5)) q18 rfl rfl rfl (fun _ => rfl) rfl ?_
    refine g_cV q18 rfl (g56 X 0 5 s3) rfl rfl rfl rfl rfl (fun s4 => ?_)
    refine g_p q18 1 44 [some (oR 0 0), some (vI r1)] [oR 0 0] rfl ?_
    refine g_m (S := [oR 8 0]) (some (oR 8 0)) q18 rfl rfl rfl (fun _ => rfl) rfl ?_
    refine g_m (S := [oR 3 0]) (some (oR 3 0)) q18 rfl rfl rfl (fun _ => rfl) rfl ?_
    refine g_get q18 rfl rfl rfl (fun _ => rfl) (fun v5 => ?_)
    exact g_ret q18 rfl rfl rfl
  ·
    refine g_p q18 3 28 [some (oR 0 0), some (vI r1)] [vI (jsub (-2) r1)] rfl ?_
    refine g_top (fun v6 => ?_)
    exact g_ret q18 rfl rfl rfl
theorem q60 : am_cd 60 = am_c60 := rfl
theorem g60 (X : X2) (s : S2) (o : Option (AV R2) × S2) : J (f60 s) (fun (r : Int) => o = (some (vI r), s)) (Go X 1 60 0 (am_loc (am_nl 60) [oR 7 0]) [] s o) := by
  show J _ _ (Go X 1 60 0 [some (oR 7 0)] [] s o)
  unfold f60
  refine g_p q60 1 1 [some (oR 7 0)] [oR 7 0] rfl ?_
  refine g_get q60 rfl rfl rfl (fun _ => rfl) (fun v1 => ?_)
  refine g_p q60 1 6 [some (oR 7 0)] [vI 6, vI v1] rfl ?_
  refine g_i2 q60 rfl rfl ?_ ?_
  ·
    refine g_p q60 1 14 [some (oR 7 0)] [vI 0] rfl ?_
    exact g_ret q60 rfl rfl rfl
  ·
    refine g_p q60 2 14 [some (oR 7 0)] [vI 1] rfl ?_
    exact g_ret q60 rfl rfl rfl
theorem q64 : am_cd 64 = am_c64 := rfl
theorem g64 (X : X2) (a0 : Int) (s : S2) (o : Option (AV R2) × S2) : J (f64 a0) (fun (r : Int) => o = (some (vI r), s)) (Go X 1 64 0 (am_loc (am_nl 64) [vI a0]) [] s o) := by
  show J _ _ (Go X 1 64 0 [some (vI a0)] [] s o)
  unfold f64
  refine g_p q64 2 2 [some (vI a0)] [vI 2, vI a0] rfl ?_
  refine g_i2 q64 rfl rfl ?_ ?_
  ·
    refine g_p q64 2 24 [some (vI a0)] [vI 1] rfl ?_
    exact g_ret q64 rfl rfl rfl
  ·
    refine g_p q64 2 9 [some (vI a0)] [vI 256, vI a0] rfl ?_
    refine g_i2 q64 rfl rfl ?_ ?_
    ·
      refine g_p q64 1 24 [some (vI a0)] [vI 0] rfl ?_
      exact g_ret q64 rfl rfl rfl
    ·
      refine g_p q64 2 16 [some (vI a0)] [vI 268, vI a0] rfl ?_
      refine g_i2 q64 rfl rfl ?_ ?_
      ·
        refine g_p q64 1 24 [some (vI a0)] [vI 0] rfl ?_
        exact g_ret q64 rfl rfl rfl
      ·
        refine g_p q64 2 24 [some (vI a0)] [vI 1] rfl ?_
        exact g_ret q64 rfl rfl rfl
