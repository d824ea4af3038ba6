/-! THE SMALL MACHINE FOLLOWS THE FUNCTIONS, written by a program (gen_fn.py) -/
theorem q151 : am_cd 151 = am_c151 := rfl
def H151_a (X : X2) (y1 : Nat) (s4 : S2) (o : Option (AV R2) × S2) (a : Int × Int) : Prop := Go X 1 151 4 [some (oR 4 y1), some (vI (a.1)), some (vI (a.2))] [] s4 o
def E151_a (X : X2) (y1 : Nat) (s4 : S2) (o : Option (AV R2) × S2) : (Int) → Prop := (fun (r : Int) => Go X 1 151 27 [none, some (vI r), none] [] s4 o)
theorem g151_a (X : X2) (y1 : Nat) (x2 : Int) (x3 : Int) (s4 : S2) (o : Option (AV R2) × S2) : J (f151_a y1 x2 x3 s4) (am_kx (H151_a X y1 s4 o) (E151_a X y1 s4 o)) (Go X 1 151 4 [some (oR 4 y1), some (vI x2), some (vI x3)] [] s4 o) := by
  unfold f151_a
  refine g_p q151 2 7 [some (oR 4 y1), some (vI x2), some (vI x3)] [vI 6, vI x3] rfl ?_
  refine g_i2 q151 rfl rfl ?_ ?_
  ·
    exact g_end (fun h => g_wk [false, true, false] rfl h)
  ·
    refine g_p q151 2 12 [some (oR 4 y1), some (vI x2), some (vI x3)] [oR 4 y1, vI x2] rfl ?_
    refine g_m (S := [aR 514 y1, vI x2]) (some (aR 514 y1)) q151 rfl rfl rfl (fun _ => rfl) rfl ?_
    refine g_p q151 1 16 [some (oR 4 y1), some (vI x2), some (vI x3)] [vI x3, aR 514 y1, vI x2] rfl ?_
    refine g_ld q151 rfl rfl rfl rfl rfl rfl (fun v5 => ?_)
    refine g_p q151 3 20 [some (oR 4 y1), some (vI x2), some (vI x3)] [vI (jor x2 (jshl v5 x3))] rfl ?_
    refine g_top (fun v6 => ?_)
    refine g_p q151 1 21 [some (oR 4 y1), some (vI v6), some (vI x3)] [] rfl ?_
    refine g_inc (fun v7 => [some (oR 4 y1), some (vI v6), some (vI v7)]) q151 rfl rfl (fun _ => rfl) (fun v7 => ?_)
    refine g_p q151 1 4 [some (oR 4 y1), some (vI v6), some (vI v7)] [] rfl ?_
    exact g_end (fun h => g_wk [true, true, true] rfl h)
theorem g151 (X : X2) (a0 : Nat) (s : S2) (o : Option (AV R2) × S2) : J (f151 a0 s) (fun (r : Int) => o = (some (vI r), s)) (Go X 1 151 0 (am_loc (am_nl 151) [oR 4 a0]) [] s o) := by
  show J _ _ (Go X 1 151 0 [some (oR 4 a0), none, none] [] s o)
  unfold f151
  refine g_p q151 4 4 [some (oR 4 a0), some (vI 0), some (vI 0)] [] rfl ?_
  refine g_wkJ [true, true, true] (L0 := [some (oR 4 a0), some (vI 0), some (vI 0)]) rfl ?_
  refine g_itr (H151_a X a0 s o) (E151_a X a0 s o) (fun | (x2, x3) => g151_a X a0 x2 x3 s o) ?_
  intro z8
  show J _ _ (Go X 1 151 27 [none, some (vI z8), none] [] s o)
  refine g_p q151 1 28 [none, some (vI z8), none] [vI z8] rfl ?_
  exact g_ret q151 rfl rfl rfl
theorem q150 : am_cd 150 = am_c150 := rfl
theorem g150 (X : X2) (a1 : Int) (s : S2) (o : Option (AV R2) × S2) : J (f150 a1 s) (fun (r : Int) => o = (some (vI r), s)) (Go X 2 150 0 (am_loc (am_nl 150) [oR 0 0, vI a1]) [] s o) := by
  show J _ _ (Go X 2 150 0 [some (oR 0 0), some (vI a1), none] [] s o)
  unfold f150
  refine g_p q150 1 1 [some (oR 0 0), some (vI a1), none] [oR 0 0] rfl ?_
  refine g_m (S := [oR 8 0]) (some (oR 8 0)) q150 rfl rfl rfl (fun _ => rfl) rfl ?_
  refine g_m (S := [oR 3 0]) (some (oR 3 0)) q150 rfl rfl rfl (fun _ => rfl) rfl ?_
  refine g_p q150 2 9 [some (oR 0 0), some (vI a1), some (oR 3 0)] [vI a1] rfl ?_
  refine g_sw q150 rfl ?_
  refine g_swc ?_ ?_
  ·
    refine g_p q150 1 85 [some (oR 0 0), some (vI a1), some (oR 3 0)] [oR 3 0] rfl ?_
    refine g_get q150 rfl rfl rfl (fun _ => rfl) (fun v1 => ?_)
    exact g_ret q150 rfl rfl rfl
  ·
    refine g_swc ?_ ?_
    ·
      refine g_p q150 1 90 [some (oR 0 0), some (vI a1), some (oR 3 0)] [oR 3 0] rfl ?_
      refine g_get q150 rfl rfl rfl (fun _ => rfl) (fun v2 => ?_)
      exact g_ret q150 rfl rfl rfl
    ·
      refine g_swc ?_ ?_
      ·
        refine g_p q150 1 95 [some (oR 0 0), some (vI a1), some (oR 3 0)] [oR 3 0] rfl ?_
        refine g_get q150 rfl rfl rfl (fun _ => rfl) (fun v3 => ?_)
        exact g_ret q150 rfl rfl rfl
      ·
        refine g_swc ?_ ?_
        ·
          refine g_p q150 1 100 [some (oR 0 0), some (vI a1), some (oR 3 0)] [oR 3 0] rfl ?_
          refine g_get q150 rfl rfl rfl (fun _ => rfl) (fun v4 => ?_)
          exact g_ret q150 rfl rfl rfl
        ·
          refine g_swc ?_ ?_
          ·
            refine g_p q150 1 105 [some (oR 0 0), some (vI a1), some (oR 3 0)] [oR 3 0] rfl ?_
            refine g_get q150 rfl rfl rfl (fun _ => rfl) (fun v5 => ?_)
            exact g_ret q150 rfl rfl rfl
          ·
            refine g_swc ?_ ?_
            ·
              refine g_p q150 1 110 [some (oR 0 0), some (vI a1), some (oR 3 0)] [oR 0 0] rfl ?_
              refine g_m (S := [oR 7 0]) (some (oR 7 0)) q150 rfl rfl rfl (fun _ => rfl) rfl ?_
              refine g_get q150 rfl rfl rfl (fun _ => rfl) (fun v6 => ?_)
              exact g_ret q150 rfl rfl rfl
            ·
              refine g_swc ?_ ?_
              ·
                refine g_p q150 1 118 [some (oR 0 0), some (vI a1), some (oR 3 0)] [oR 0 0] rfl ?_
                refine g_m (S := [oR 8 0]) (some (oR 8 0)) q150 rfl rfl rfl (fun _ => rfl) rfl ?_
                refine g_get q150 rfl rfl rfl (fun _ => rfl) (fun v7 => ?_)
                exact g_ret q150 rfl rfl rfl
              ·
                refine g_swc ?_ ?_
                ·
                  refine g_p q150 1 126 [some (oR 0 0), some (vI a1), some (oR 3 0)] [oR 0 0] rfl ?_
                  refine g_m (S := [oR 8 0]) (some (oR 8 0)) q150 rfl rfl rfl (fun _ => rfl) rfl ?_
                  refine g_m (S := [oR 4 0]) (some (oR 4 0)) q150 rfl rfl rfl (fun _ => rfl) rfl ?_
                  refine g_get q150 rfl rfl rfl (fun _ => rfl) (fun v8 => ?_)
                  exact g_ret q150 rfl rfl rfl
                ·
                  refine g_swc ?_ ?_
                  ·
                    refine g_p q150 1 137 [some (oR 0 0), some (vI a1), some (oR 3 0)] [oR 0 0] rfl ?_
                    refine g_m (S := [oR 8 0]) (some (oR 8 0)) q150 rfl rfl rfl (fun _ => rfl) rfl ?_
                    refine g_m (S := [oR 4 0]) (some (oR 4 0)) q150 rfl rfl rfl (fun _ => rfl) rfl ?_
                    refine g_cPI q150 rfl (g124 X 0 s) rfl rfl rfl rfl rfl (fun r9 => ?_)
                    exact g_ret q150 rfl rfl rfl
                  ·
                    refine g_swc ?_ ?_
                    ·
                      refine g_p q150 1 148 [some (oR 0 0), some (vI a1), some (oR 3 0)] [oR 0 0] rfl ?_
                      refine g_m (S := [oR 8 0]) (some (oR 8 0)) q150 rfl rfl rfl (fun _ => rfl) rfl ?_
                      refine g_m (S := [oR 4 0]) (some (oR 4 0)) q150 rfl rfl rfl (fun _ => rfl) rfl ?_
                      refine g_cPI q150 rfl (g151 X 0 s) rfl rfl rfl rfl rfl (fun r10 => ?_)
                      exact g_ret q150 rfl rfl rfl
                    ·
                      refine g_swc ?_ ?_
                      ·
                        refine g_p q150 2 160 [some (oR 0 0), some (vI a1), some (oR 3 0)] [oR 0 0, oR 3 0] rfl ?_
                        refine g_m (S := [oR 8 0, oR 3 0]) (some (oR 8 0)) q150 rfl rfl rfl (fun _ => rfl) rfl ?_
                        refine g_m (S := [oR 4 0, oR 3 0]) (some (oR 4 0)) q150 rfl rfl rfl (fun _ => rfl) rfl ?_
                        refine g_get q150 rfl rfl rfl (fun _ => rfl) (fun v11 => ?_)
                        refine g_cPI q150 rfl (g79 X 0 v11 s) rfl rfl rfl rfl rfl (fun r12 => ?_)
                        refine g_i1 q150 rfl rfl ?_ ?_
                        ·
                          refine g_p q150 1 180 [some (oR 0 0), some (vI a1), some (oR 3 0)] [vI 0] rfl ?_
                          exact g_ret q150 rfl rfl rfl
                        ·
                          refine g_p q150 2 180 [some (oR 0 0), some (vI a1), some (oR 3 0)] [vI 1] rfl ?_
                          exact g_ret q150 rfl rfl rfl
                      ·
                        refine g_swc ?_ ?_
                        ·
                          refine g_p q150 1 182 [some (oR 0 0), some (vI a1), some (oR 3 0)] [oR 0 0] rfl ?_
                          refine g_m (S := [oR 8 0]) (some (oR 8 0)) q150 rfl rfl rfl (fun _ => rfl) rfl ?_
                          refine g_get q150 rfl rfl rfl (fun _ => rfl) (fun v13 => ?_)
                          exact g_ret q150 rfl rfl rfl
                        ·
                          refine g_swc ?_ ?_
                          ·
                            refine g_p q150 1 190 [some (oR 0 0), some (vI a1), some (oR 3 0)] [oR 0 0] rfl ?_
                            refine g_m (S := [oR 8 0]) (some (oR 8 0)) q150 rfl rfl rfl (fun _ => rfl) rfl ?_
                            refine g_get q150 rfl rfl rfl (fun _ => rfl) (fun v14 => ?_)
                            exact g_ret q150 rfl rfl rfl
                          ·
                            refine g_swc ?_ ?_
                            ·
                              refine g_p q150 1 198 [some (oR 0 0), some (vI a1), some (oR 3 0)] [oR 0 0] rfl ?_
                              refine g_m (S := [oR 8 0]) (some (oR 8 0)) q150 rfl rfl rfl (fun _ => rfl) rfl ?_
                              refine g_get q150 rfl rfl rfl (fun _ => rfl) (fun v15 => ?_)
                              exact g_ret q150 rfl rfl rfl
                            ·
                              refine g_swc ?_ ?_
                              ·
                                refine g_p q150 1 206 [some (oR 0 0), some (vI a1), some (oR 3 0)] [oR 0 0] rfl ?_
                                refine g_m (S := [oR 1 0]) (some (oR 1 0)) q150 rfl rfl rfl (fun _ => rfl) rfl ?_
                                refine g_get q150 rfl rfl rfl (fun _ => rfl) (fun v16 => ?_)
                                exact g_ret q150 rfl rfl rfl
                              ·
                                refine g_swe ?_
                                refine g_p q150 1 214 [some (oR 0 0), some (vI a1), some (oR 3 0)] [vI (-1)] rfl ?_
                                exact g_ret q150 rfl rfl rfl
theorem q153 : am_cd 153 = am_c153 := rfl
def H153_a (X : X2) (y3 : Nat) (y4 : Nat) (o : Option (AV R2) × S2) (a : Int × S2) : Prop := Go X 3 153 24 [some (oR 8 y3), some (oR 8 y4), some (vI (a.1))] [] (a.2) o
def E153_a (X : X2) (y3 : Nat) (y4 : Nat) (o : Option (AV R2) × S2) : (S2) → Prop := (fun (r : S2) => Go X 3 153 51 [some (oR 8 y3), some (oR 8 y4), none] [] r o)
theorem g153_a (X : X2) (y3 : Nat) (y4 : Nat) (x5 : Int) (s6 : S2) (o : Option (AV R2) × S2) : J (f153_a y3 y4 x5 s6) (am_kx (H153_a X y3 y4 o) (E153_a X y3 y4 o)) (Go X 3 153 24 [some (oR 8 y3), some (oR 8 y4), some (vI x5)] [] s6 o) := by
  unfold f153_a
  refine g_p q153 2 27 [some (oR 8 y3), some (oR 8 y4), some (vI x5)] [vI 20, vI x5] rfl ?_
  refine g_i2 q153 rfl rfl ?_ ?_
  ·
    exact g_end (fun h => g_wk [true, true, false] rfl h)
  ·
    refine g_p q153 1 31 [some (oR 8 y3), some (oR 8 y4), some (vI x5)] [oR 8 y4] rfl ?_
    refine g_m (S := [aR 1026 y4]) (some (aR 1026 y4)) q153 rfl rfl rfl (fun _ => rfl) rfl ?_
    refine g_p q153 1 35 [some (oR 8 y3), some (oR 8 y4), some (vI x5)] [vI x5, aR 1026 y4] rfl ?_
    refine g_ldr q153 rfl rfl rfl rfl rfl (fun i8 => ?_)
    refine g_p q153 1 37 [some (oR 8 y3), some (oR 8 y4), some (vI x5)] [oR 8 y3, oR 4 i8] rfl ?_
    refine g_m (S := [aR 1026 y3, oR 4 i8]) (some (aR 1026 y3)) q153 rfl rfl rfl (fun _ => rfl) rfl ?_
    refine g_p q153 1 41 [some (oR 8 y3), some (oR 8 y4), some (vI x5)] [vI x5, aR 1026 y3, oR 4 i8] rfl ?_
    refine g_ldr q153 rfl rfl rfl rfl rfl (fun i10 => ?_)
    refine g_cV q153 rfl (g286 X i8 i10 s6) rfl rfl rfl rfl rfl (fun s11 => ?_)
    refine g_inc (fun v12 => [some (oR 8 y3), some (oR 8 y4), some (vI v12)]) q153 rfl rfl (fun _ => rfl) (fun v12 => ?_)
    refine g_p q153 1 24 [some (oR 8 y3), some (oR 8 y4), some (vI v12)] [] rfl ?_
    exact g_end (fun h => g_wk [true, true, true] rfl h)
theorem g153 (X : X2) (a0 : Nat) (a1 : Nat) (s : S2) (o : Option (AV R2) × S2) : J (f153 a0 a1 s) (fun (r : S2) => o = (none, r)) (Go X 3 153 0 (am_loc (am_nl 153) [oR 8 a0, oR 8 a1]) [] s o) := by
  show J _ _ (Go X 3 153 0 [some (oR 8 a0), some (oR 8 a1), none] [] s o)
  unfold f153
  refine g_p q153 1 1 [some (oR 8 a0), some (oR 8 a1), none] [oR 8 a0] rfl ?_
  refine g_m (S := [oR 3 a0]) (some (oR 3 a0)) q153 rfl rfl rfl (fun _ => rfl) rfl ?_
  refine g_p q153 1 5 [some (oR 8 a0), some (oR 8 a1), none] [oR 8 a1, oR 3 a0] rfl ?_
  refine g_m (S := [oR 3 a1, oR 3 a0]) (some (oR 3 a1)) q153 rfl rfl rfl (fun _ => rfl) rfl ?_
  refine g_cV q153 rfl (g57 X a0 a1 s) rfl rfl rfl rfl rfl (fun s1 => ?_)
  refine g_p q153 1 12 [some (oR 8 a0), some (oR 8 a1), none] [oR 8 a0] rfl ?_
  refine g_m (S := [oR 4 (32 * a0 + 0)]) (some (oR 4 (32 * a0 + 0))) q153 rfl rfl rfl (fun _ => rfl) rfl ?_
  refine g_p q153 1 16 [some (oR 8 a0), some (oR 8 a1), none] [oR 8 a1, oR 4 (32 * a0 + 0)] rfl ?_
  refine g_m (S := [oR 4 (32 * a1 + 0), oR 4 (32 * a0 + 0)]) (some (oR 4 (32 * a1 + 0))) q153 rfl rfl rfl (fun _ => rfl) rfl ?_
  refine g_cV q153 rfl (g58 X (32 * a0 + 0) (32 * a1 + 0) s1) rfl rfl rfl rfl rfl (fun s2 => ?_)
  refine g_p q153 2 24 [some (oR 8 a0), some (oR 8 a1), some (vI 0)] [] rfl ?_
  refine g_wkJ [true, true, true] (L0 := [some (oR 8 a0), some (oR 8 a1), some (vI 0)]) rfl ?_
  refine g_itr (H153_a X a0 a1 o) (E153_a X a0 a1 o) (fun | (x5, s6) => g153_a X a0 a1 x5 s6 o) ?_
  intro s13
  show J _ _ (Go X 3 153 51 [some (oR 8 a0), some (oR 8 a1), none] [] s13 o)
  refine g_p q153 2 53 [some (oR 8 a0), some (oR 8 a1), none] [oR 8 a1, oR 8 a0] rfl ?_
  refine g_get q153 rfl rfl rfl (fun _ => rfl) (fun v14 => ?_)
  refine g_put q153 rfl rfl rfl (fun _ => rfl) (fun s15 => ?_)
  refine g_p q153 2 61 [some (oR 8 a0), some (oR 8 a1), none] [oR 8 a1, oR 8 a0] rfl ?_
  refine g_get q153 rfl rfl rfl (fun _ => rfl) (fun v16 => ?_)
  refine g_put q153 rfl rfl rfl (fun _ => rfl) (fun s17 => ?_)
  refine g_p q153 1 68 [some (oR 8 a0), some (oR 8 a1), none] [oR 8 a1] rfl ?_
  refine g_m (S := [aR 1029 a1]) (some (aR 1029 a1)) q153 rfl rfl rfl (fun _ => rfl) rfl ?_
  refine g_p q153 2 73 [some (oR 8 a0), some (oR 8 a1), none] [oR 8 a0, vI 0, aR 1029 a1] rfl ?_
  refine g_m (S := [aR 1029 a0, vI 0, aR 1029 a1]) (some (aR 1029 a0)) q153 rfl rfl rfl (fun _ => rfl) rfl ?_
  refine g_p q153 2 79 [some (oR 8 a0), some (oR 8 a1), none] [vI 10, vI 0, aR 1029 a0, vI 0, aR 1029 a1] rfl ?_
  refine g_cpy (im := 0) q153 rfl rfl rfl rfl rfl (fun s18 => ?_)
  refine g_p q153 1 83 [some (oR 8 a0), some (oR 8 a1), none] [oR 8 a1] rfl ?_
  refine g_m (S := [aR 1030 a1]) (some (aR 1030 a1)) q153 rfl rfl rfl (fun _ => rfl) rfl ?_
  refine g_p q153 2 88 [some (oR 8 a0), some (oR 8 a1), none] [oR 8 a0, vI 0, aR 1030 a1] rfl ?_
  refine g_m (S := [aR 1030 a0, vI 0, aR 1030 a1]) (some (aR 1030 a0)) q153 rfl rfl rfl (fun _ => rfl) rfl ?_
  refine g_p q153 2 94 [some (oR 8 a0), some (oR 8 a1), none] [vI 10, vI 0, aR 1030 a0, vI 0, aR 1030 a1] rfl ?_
  refine g_cpy (im := 0) q153 rfl rfl rfl rfl rfl (fun s19 => ?_)
  refine g_p q153 1 98 [some (oR 8 a0), some (oR 8 a1), none] [oR 8 a1] rfl ?_
  refine g_m (S := [aR 1031 a1]) (some (aR 1031 a1)) q153 rfl rfl rfl (fun _ => rfl) rfl ?_
  refine g_p q153 2 103 [some (oR 8 a0), some (oR 8 a1), none] [oR 8 a0, vI 0, aR 1031 a1] rfl ?_
  refine g_m (S := [aR 1031 a0, vI 0, aR 1031 a1]) (some (aR 1031 a0)) q153 rfl rfl rfl (fun _ => rfl) rfl ?_
  refine g_p q153 2 109 [some (oR 8 a0), some (oR 8 a1), none] [vI 10, vI 0, aR 1031 a0, vI 0, aR 1031 a1] rfl ?_
  refine g_cpy (im := 0) q153 rfl rfl rfl rfl rfl (fun s20 => ?_)
  refine g_p q153 2 114 [some (oR 8 a0), some (oR 8 a1), none] [oR 8 a1, oR 8 a0] rfl ?_
  refine g_get q153 rfl rfl rfl (fun _ => rfl) (fun v21 => ?_)
  refine g_put q153 rfl rfl rfl (fun _ => rfl) (fun s22 => ?_)
  refine g_p q153 2 122 [some (oR 8 a0), some (oR 8 a1), none] [oR 8 a1, oR 8 a0] rfl ?_
  refine g_get q153 rfl rfl rfl (fun _ => rfl) (fun v23 => ?_)
  refine g_put q153 rfl rfl rfl (fun _ => rfl) (fun s24 => ?_)
  refine g_p q153 2 130 [some (oR 8 a0), some (oR 8 a1), none] [oR 8 a1, oR 8 a0] rfl ?_
  refine g_get q153 rfl rfl rfl (fun _ => rfl) (fun v25 => ?_)
  refine g_put q153 rfl rfl rfl (fun _ => rfl) (fun s26 => ?_)
  exact g_retV q153 rfl rfl
theorem q152 : am_cd 152 = am_cI := rfl
theorem g152 (X : X2) (a1 : Int) (s : S2) (o : Option (AV R2) × S2) : J (f152 a1 s) (fun (r : Int × S2) => o = (some (vI r.1), r.2)) (Go X 4 152 0 (am_loc (am_nl 152) [oR 0 0, vI a1]) [] s o) := by
  show J _ _ (Go X 4 152 0 [some (oR 0 0), some (vI a1), none] [] s o)
  unfold f152
  refine g_p q152 1 1 [some (oR 0 0), some (vI a1), none] [vI a1] rfl ?_
  refine g_i1 q152 rfl rfl ?_ ?_
  ·
    refine g_p q152 1 10 [some (oR 0 0), some (vI a1), none] [vI (-1)] rfl ?_
    exact g_ret q152 rfl rfl rfl
  ·
    refine g_p q152 2 6 [some (oR 0 0), some (vI a1), none] [vI 4, vI a1] rfl ?_
    refine g_i2 q152 rfl rfl ?_ ?_
    ·
      refine g_p q152 1 12 [some (oR 0 0), some (vI a1), none] [oR 0 0] rfl ?_
      refine g_m (S := [aR 5 0]) (some (aR 5 0)) q152 rfl rfl rfl (fun _ => rfl) rfl ?_
      refine g_p q152 1 16 [some (oR 0 0), some (vI a1), none] [vI a1, aR 5 0] rfl ?_
      refine g_ldw q152 rfl rfl rfl rfl rfl ?_ (fun i2 => ?_)
      ·
        refine g_p q152 2 19 [some (oR 0 0), some (vI a1), some (vN)] [vN] rfl ?_
        refine g_jn (fun j37 => ∀ (x3 : Nat) (s4 : S2), J (j37 x3 s4) (fun (r : Int × S2) => o = (some (vI r.1), r.2)) (Go X 4 152 37 [some (oR 0 0), none, some (oR 8 x3)] [] s4 o)) ?_ (fun j37 hj37 => ?_)
        ·
          intro x3 s4
          refine g_p q152 2 39 [some (oR 0 0), none, some (oR 8 x3)] [oR 0 0, oR 8 x3] rfl ?_
          refine g_m (S := [oR 8 0, oR 8 x3]) (some (oR 8 0)) q152 rfl rfl rfl (fun _ => rfl) rfl ?_
          refine g_cV q152 rfl (g153 X x3 0 s4) rfl rfl rfl rfl rfl (fun s5 => ?_)
          refine g_p q152 1 46 [some (oR 0 0), none, some (oR 8 x3)] [oR 0 0] rfl ?_
          refine g_m (S := [oR 8 0]) (some (oR 8 0)) q152 rfl rfl rfl (fun _ => rfl) rfl ?_
          refine g_m (S := [oR 4 0]) (some (oR 4 0)) q152 rfl rfl rfl (fun _ => rfl) rfl ?_
          refine g_get q152 rfl rfl rfl (fun _ => rfl) (fun v6 => ?_)
          exact g_ret q152 rfl rfl rfl
        ·
          refine g_p q152 1 22 [some (oR 0 0), some (vI a1), some (vN)] [] rfl ?_
          refine g_nw q152 rfl rfl rfl (fun i7 s8 h7 => ?_)
          refine g_p q152 2 31 [some (oR 0 0), some (vI a1), some (oR 8 i7)] [oR 0 0] rfl ?_
          refine g_m (S := [aR 5 0]) (some (aR 5 0)) q152 rfl rfl rfl (fun _ => rfl) rfl ?_
          refine g_p q152 2 36 [some (oR 0 0), some (vI a1), some (oR 8 i7)] [oR 8 i7, vI a1, aR 5 0] rfl ?_
          refine g_stow q152 rfl rfl rfl rfl h7 (fun s9 => ?_)
          exact g_wkJ [true, false, true] rfl (hj37 i7 s9)
      ·
        refine g_p q152 2 19 [some (oR 0 0), some (vI a1), some (oR 8 i2)] [oR 8 i2] rfl ?_
        refine g_jn (fun j37 => ∀ (x10 : Nat) (s11 : S2), J (j37 x10 s11) (fun (r : Int × S2) => o = (some (vI r.1), r.2)) (Go X 4 152 37 [some (oR 0 0), none, some (oR 8 x10)] [] s11 o)) ?_ (fun j37 hj37 => ?_)
        ·
          intro x10 s11
          refine g_p q152 2 39 [some (oR 0 0), none, some (oR 8 x10)] [oR 0 0, oR 8 x10] rfl ?_
          refine g_m (S := [oR 8 0, oR 8 x10]) (some (oR 8 0)) q152 rfl rfl rfl (fun _ => rfl) rfl ?_
          refine g_cV q152 rfl (g153 X x10 0 s11) rfl rfl rfl rfl rfl (fun s12 => ?_)
          refine g_p q152 1 46 [some (oR 0 0), none, some (oR 8 x10)] [oR 0 0] rfl ?_
          refine g_m (S := [oR 8 0]) (some (oR 8 0)) q152 rfl rfl rfl (fun _ => rfl) rfl ?_
          refine g_m (S := [oR 4 0]) (some (oR 4 0)) q152 rfl rfl rfl (fun _ => rfl) rfl ?_
          refine g_get q152 rfl rfl rfl (fun _ => rfl) (fun v13 => ?_)
          exact g_ret q152 rfl rfl rfl
        ·
          refine g_p q152 1 37 [some (oR 0 0), some (vI a1), some (oR 8 i2)] [] rfl ?_
          exact g_wkJ [true, false, true] rfl (hj37 i2 s)
    ·
      refine g_p q152 1 10 [some (oR 0 0), some (vI a1), none] [vI (-1)] rfl ?_
      exact g_ret q152 rfl rfl rfl
theorem q154 : am_cd 154 = am_c154 := rfl
theorem g154 (X : X2) (a1 : Int) (s : S2) (o : Option (AV R2) × S2) : J (f154 a1 s) (fun (r : Int × S2) => o = (some (vI r.1), r.2)) (Go X 4 154 0 (am_loc (am_nl 154) [oR 0 0, vI a1]) [] s o) := by
  show J _ _ (Go X 4 154 0 [some (oR 0 0), some (vI a1), none] [] s o)
  unfold f154
  refine g_p q154 1 1 [some (oR 0 0), some (vI a1), none] [vI a1] rfl ?_
  refine g_jn (fun j18 => ∀ (_ : Unit), J (j18 ()) (fun (r : Int × S2) => o = (some (vI r.1), r.2)) (Go X 4 154 18 [some (oR 0 0), none, none] [] s o)) ?_ (fun j18 hj18 => ?_)
  ·
    intro _
    refine g_p q154 3 21 [some (oR 0 0), none, some (vN)] [vN] rfl ?_
    refine g_p q154 2 25 [some (oR 0 0), none, some (vN)] [vI (-1)] rfl ?_
    exact g_ret q154 rfl rfl rfl
  ·
    refine g_i1 q154 rfl rfl ?_ ?_
    ·
      exact g_wkJ [true, false, false] rfl (hj18 ())
    ·
      refine g_p q154 2 6 [some (oR 0 0), some (vI a1), none] [vI 4, vI a1] rfl ?_
      refine g_i2 q154 rfl rfl ?_ ?_
      ·
        exact g_wkJ [true, false, false] rfl (hj18 ())
      ·
        refine g_p q154 1 10 [some (oR 0 0), some (vI a1), none] [oR 0 0] rfl ?_
        refine g_m (S := [aR 5 0]) (some (aR 5 0)) q154 rfl rfl rfl (fun _ => rfl) rfl ?_
        refine g_p q154 1 14 [some (oR 0 0), some (vI a1), none] [vI a1, aR 5 0] rfl ?_
        refine g_ldw q154 rfl rfl rfl rfl rfl ?_ (fun i2 => ?_)
        ·
          refine g_p q154 3 21 [some (oR 0 0), some (vI a1), some (vN)] [vN] rfl ?_
          refine g_p q154 2 25 [some (oR 0 0), some (vI a1), some (vN)] [vI (-1)] rfl ?_
          exact g_ret q154 rfl rfl rfl
        ·
          refine g_p q154 3 21 [some (oR 0 0), some (vI a1), some (oR 8 i2)] [oR 8 i2] rfl ?_
          refine g_p q154 2 27 [some (oR 0 0), some (vI a1), some (oR 8 i2)] [oR 0 0] rfl ?_
          refine g_m (S := [oR 8 0]) (some (oR 8 0)) q154 rfl rfl rfl (fun _ => rfl) rfl ?_
          refine g_p q154 1 31 [some (oR 0 0), some (vI a1), some (oR 8 i2)] [oR 8 i2, oR 8 0] rfl ?_
          refine g_cV q154 rfl (g153 X 0 i2 s) rfl rfl rfl rfl rfl (fun s3 => ?_)
          refine g_p q154 1 35 [some (oR 0 0), some (vI a1), some (oR 8 i2)] [oR 0 0] rfl ?_
          refine g_m (S := [oR 8 0]) (some (oR 8 0)) q154 rfl rfl rfl (fun _ => rfl) rfl ?_
          refine g_m (S := [oR 4 0]) (some (oR 4 0)) q154 rfl rfl rfl (fun _ => rfl) rfl ?_
          refine g_get q154 rfl rfl rfl (fun _ => rfl) (fun v4 => ?_)
          exact g_ret q154 rfl rfl rfl
theorem q157 : am_cd 157 = am_c157 := rfl
def H157_a (X : X2) (y1 : Int) (o : Option (AV R2) × S2) (a : Int × S2) : Prop := Go X 1 157 3 [some (oR 12 0), some (vI y1), some (vI (a.1))] [] (a.2) o
def E157_a (X : X2) (y1 : Int) (o : Option (AV R2) × S2) : (S2) → Prop := (fun (r : S2) => Go X 1 157 36 [none, none, none] [] r o)
theorem g157_a (X : X2) (y1 : Int) (x2 : Int) (s3 : S2) (o : Option (AV R2) × S2) : J (f157_a y1 x2 s3) (am_kx (H157_a X y1 o) (E157_a X y1 o)) (Go X 1 157 3 [some (oR 12 0), some (vI y1), some (vI x2)] [] s3 o) := by
  unfold f157_a
  refine g_p q157 1 4 [some (oR 12 0), some (vI y1), some (vI x2)] [vI x2] rfl ?_
  refine g_i1 q157 rfl rfl ?_ ?_
  ·
    exact g_end (fun h => g_wk [false, false, false] rfl h)
  ·
    refine g_p q157 1 8 [some (oR 12 0), some (vI y1), some (vI x2)] [oR 12 0] rfl ?_
    refine g_m (S := [aR 1579 0]) (some (aR 1579 0)) q157 rfl rfl rfl (fun _ => rfl) rfl ?_
    refine g_p q157 1 12 [some (oR 12 0), some (vI y1), some (vI x2)] [oR 12 0, aR 1579 0] rfl ?_
    refine g_get q157 rfl rfl rfl (fun _ => rfl) (fun v4 => ?_)
    refine g_p q157 4 19 [some (oR 12 0), some (vI y1), some (vI x2)] [vI (ji2b (jshr y1 x2)), vI v4, aR 1579 0] rfl ?_
    refine g_stob q157 rfl rfl rfl rfl (fun s5 => ?_)
    refine g_p q157 2 22 [some (oR 12 0), some (vI y1), some (vI x2)] [oR 12 0, oR 12 0] rfl ?_
    refine g_get q157 rfl rfl rfl (fun _ => rfl) (fun v6 => ?_)
    refine g_p q157 2 27 [some (oR 12 0), some (vI y1), some (vI x2)] [vI (jadd v6 1), oR 12 0] rfl ?_
    refine g_put q157 rfl rfl rfl (fun _ => rfl) (fun s7 => ?_)
    refine g_inc (fun v8 => [some (oR 12 0), some (vI y1), some (vI v8)]) q157 rfl rfl (fun _ => rfl) (fun v8 => ?_)
    refine g_p q157 1 3 [some (oR 12 0), some (vI y1), some (vI v8)] [] rfl ?_
    exact g_end (fun h => g_wk [true, true, true] rfl h)
theorem g157 (X : X2) (a1 : Int) (s : S2) (o : Option (AV R2) × S2) : J (f157 a1 s) (fun (r : S2) => o = (none, r)) (Go X 1 157 0 (am_loc (am_nl 157) [oR 12 0, vI a1]) [] s o) := by
  show J _ _ (Go X 1 157 0 [some (oR 12 0), some (vI a1), none] [] s o)
  unfold f157
  refine g_p q157 2 3 [some (oR 12 0), some (vI a1), some (vI 24)] [] rfl ?_
  refine g_wkJ [true, true, true] (L0 := [some (oR 12 0), some (vI a1), some (vI 24)]) rfl ?_
  refine g_itr (H157_a X a1 o) (E157_a X a1 o) (fun | (x2, s3) => g157_a X a1 x2 s3 o) ?_
  intro s9
  show J _ _ (Go X 1 157 36 [none, none, none] [] s9 o)
  exact g_retV q157 rfl rfl
theorem q156 : am_cd 156 = am_c156 := rfl
theorem g156 (X : X2) (a1 : Int) (a2 : Int) (a3 : Int) (a4 : Int) (a5 : Int) (s : S2) (o : Option (AV R2) × S2) : J (f156 a1 a2 a3 a4 a5 s) (fun (r : Int × S2) => o = (some (vI r.1), r.2)) (Go X 2 156 0 (am_loc (am_nl 156) [oR 12 0, vI a1, vI a2, vI a3, vI a4, vI a5]) [] s o) := by
  show J _ _ (Go X 2 156 0 [some (oR 12 0), some (vI a1), some (vI a2), some (vI a3), some (vI a4), some (vI a5)] [] s o)
  unfold f156
  refine g_p q156 1 1 [some (oR 12 0), some (vI a1), some (vI a2), some (vI a3), some (vI a4), some (vI a5)] [oR 12 0] rfl ?_
  refine g_get q156 rfl rfl rfl (fun _ => rfl) (fun v1 => ?_)
  refine g_p q156 3 10 [some (oR 12 0), some (vI a1), some (vI a2), some (vI a3), some (vI a4), some (vI a5)] [vI 400, vI (jadd v1 20)] rfl ?_
  refine g_i2 q156 rfl rfl ?_ ?_
  ·
    refine g_p q156 2 17 [some (oR 12 0), some (vI a1), some (vI a2), some (vI a3), some (vI a4), some (vI a5)] [vI a1, oR 12 0] rfl ?_
    refine g_cV q156 rfl (g157 X a1 s) rfl rfl rfl rfl rfl (fun s2 => ?_)
    refine g_p q156 2 22 [some (oR 12 0), some (vI a1), some (vI a2), some (vI a3), some (vI a4), some (vI a5)] [vI a2, oR 12 0] rfl ?_
    refine g_cV q156 rfl (g157 X a2 s2) rfl rfl rfl rfl rfl (fun s3 => ?_)
    refine g_p q156 2 27 [some (oR 12 0), some (vI a1), some (vI a2), some (vI a3), some (vI a4), some (vI a5)] [vI a3, oR 12 0] rfl ?_
    refine g_cV q156 rfl (g157 X a3 s3) rfl rfl rfl rfl rfl (fun s4 => ?_)
    refine g_p q156 2 33 [some (oR 12 0), some (vI a1), some (vI a2), some (vI a3), some (vI a4), some (vI a5)] [vI a4, oR 12 0] rfl ?_
    refine g_cV q156 rfl (g157 X a4 s4) rfl rfl rfl rfl rfl (fun s5 => ?_)
    refine g_p q156 2 39 [some (oR 12 0), some (vI a1), some (vI a2), some (vI a3), some (vI a4), some (vI a5)] [vI a5, oR 12 0] rfl ?_
    refine g_cV q156 rfl (g157 X a5 s5) rfl rfl rfl rfl rfl (fun s6 => ?_)
    refine g_p q156 1 43 [some (oR 12 0), some (vI a1), some (vI a2), some (vI a3), some (vI a4), some (vI a5)] [oR 12 0] rfl ?_
    refine g_get q156 rfl rfl rfl (fun _ => rfl) (fun v7 => ?_)
    exact g_ret q156 rfl rfl rfl
  ·
    refine g_p q156 1 14 [some (oR 12 0), some (vI a1), some (vI a2), some (vI a3), some (vI a4), some (vI a5)] [vI (-1)] rfl ?_
    exact g_ret q156 rfl rfl rfl
theorem q158 : am_cd 158 = am_c158 := rfl
theorem g158 (X : X2) (a1 : Int) (s : S2) (o : Option (AV R2) × S2) : J (f158 a1 s) (fun (r : Int × S2) => o = (some (vI r.1), r.2)) (Go X 1 158 0 (am_loc (am_nl 158) [oR 12 0, vI a1]) [] s o) := by
  show J _ _ (Go X 1 158 0 [some (oR 12 0), some (vI a1)] [] s o)
  unfold f158
  refine g_p q158 1 1 [some (oR 12 0), some (vI a1)] [vI a1] rfl ?_
  refine g_i1 q158 rfl rfl ?_ ?_
  ·
    refine g_p q158 1 13 [some (oR 12 0), some (vI a1)] [vI (-1)] rfl ?_
    exact g_ret q158 rfl rfl rfl
  ·
    refine g_p q158 2 6 [some (oR 12 0), some (vI a1)] [oR 12 0, vI a1] rfl ?_
    refine g_get q158 rfl rfl rfl (fun _ => rfl) (fun v1 => ?_)
    refine g_i2 q158 rfl rfl ?_ ?_
    ·
      refine g_p q158 2 16 [some (oR 12 0), some (vI a1)] [vI a1, oR 12 0] rfl ?_
      refine g_put q158 rfl rfl rfl (fun _ => rfl) (fun s2 => ?_)
      refine g_p q158 1 20 [some (oR 12 0), some (vI a1)] [vI a1] rfl ?_
      exact g_ret q158 rfl rfl rfl
    ·
      refine g_p q158 1 13 [some (oR 12 0), some (vI a1)] [vI (-1)] rfl ?_
      exact g_ret q158 rfl rfl rfl
theorem q161 : am_cd 161 = am_c161 := rfl
theorem g161 (X : X2) (s : S2) (o : Option (AV R2) × S2) : J (f161 s) (fun (r : S2) => o = (none, r)) (Go X 1 161 0 (am_loc (am_nl 161) [oR 12 0]) [] s o) := by
  show J _ _ (Go X 1 161 0 [some (oR 12 0)] [] s o)
  unfold f161
  refine g_p q161 2 2 [some (oR 12 0)] [vI 0, oR 12 0] rfl ?_
  refine g_put q161 rfl rfl rfl (fun _ => rfl) (fun s1 => ?_)
  refine g_p q161 2 7 [some (oR 12 0)] [vI 0, oR 12 0] rfl ?_
  refine g_put q161 rfl rfl rfl (fun _ => rfl) (fun s2 => ?_)
  refine g_p q161 2 12 [some (oR 12 0)] [vI 0, oR 12 0] rfl ?_
  refine g_put q161 rfl rfl rfl (fun _ => rfl) (fun s3 => ?_)
  refine g_p q161 2 17 [some (oR 12 0)] [vI 0, oR 12 0] rfl ?_
  refine g_put q161 rfl rfl rfl (fun _ => rfl) (fun s4 => ?_)
  refine g_p q161 2 22 [some (oR 12 0)] [vI 0, oR 12 0] rfl ?_
  refine g_put q161 rfl rfl rfl (fun _ => rfl) (fun s5 => ?_)
  exact g_retV q161 rfl rfl
theorem q164 : am_cd 164 = am_c164 := rfl
theorem g164 (X : X2) (s : S2) (o : Option (AV R2) × S2) : J (f164 s) (fun (r : Int) => o = (some (vI r), s)) (Go X 1 164 0 (am_loc (am_nl 164) [oR 12 0]) [] s o) := by
  show J _ _ (Go X 1 164 0 [some (oR 12 0)] [] s o)
  unfold f164
  refine g_p q164 1 1 [some (oR 12 0)] [oR 12 0] rfl ?_
  refine g_get q164 rfl rfl rfl (fun _ => rfl) (fun v1 => ?_)
  refine g_p q164 1 5 [some (oR 12 0)] [oR 12 0, vI v1] rfl ?_
  refine g_get q164 rfl rfl rfl (fun _ => rfl) (fun v2 => ?_)
  refine g_i2 q164 rfl rfl ?_ ?_
  ·
    refine g_p q164 1 28 [some (oR 12 0)] [vI (-1)] rfl ?_
    exact g_ret q164 rfl rfl rfl
  ·
    refine g_p q164 1 12 [some (oR 12 0)] [oR 12 0] rfl ?_
    refine g_m (S := [aR 1579 0]) (some (aR 1579 0)) q164 rfl rfl rfl (fun _ => rfl) rfl ?_
    refine g_p q164 1 16 [some (oR 12 0)] [oR 12 0, aR 1579 0] rfl ?_
    refine g_get q164 rfl rfl rfl (fun _ => rfl) (fun v3 => ?_)
    refine g_ld q164 rfl rfl rfl rfl rfl rfl (fun v4 => ?_)
    refine g_p q164 3 28 [some (oR 12 0)] [vI (jand v4 255)] rfl ?_
    refine g_top (fun v5 => ?_)
    exact g_ret q164 rfl rfl rfl
theorem q163 : am_cd 163 = am_c163 := rfl
def H163_a (X : X2) (o : Option (AV R2) × S2) (a : S2) : Prop := Go X 2 163 0 [some (oR 12 0)] [] a o
def E163_a (X : X2) (o : Option (AV R2) × S2) : (S2) → Prop := (fun (r : S2) => Go X 2 163 22 [none] [] r o)
theorem g163_a (X : X2) (s1 : S2) (o : Option (AV R2) × S2) : J (f163_a s1) (am_kx (H163_a X o) (E163_a X o)) (Go X 2 163 0 [some (oR 12 0)] [] s1 o) := by
  unfold f163_a
  refine g_p q163 1 1 [some (oR 12 0)] [oR 12 0] rfl ?_
  refine g_cPI q163 rfl (g164 X s1) rfl rfl rfl rfl rfl (fun r2 => ?_)
  refine g_p q163 1 6 [some (oR 12 0)] [vI 32, vI r2] rfl ?_
  refine g_i2 q163 rfl rfl ?_ ?_
  ·
    exact g_end (fun h => g_wk [false] rfl h)
  ·
    refine g_p q163 2 11 [some (oR 12 0)] [oR 12 0, oR 12 0] rfl ?_
    refine g_get q163 rfl rfl rfl (fun _ => rfl) (fun v3 => ?_)
    refine g_p q163 2 16 [some (oR 12 0)] [vI (jadd v3 1), oR 12 0] rfl ?_
    refine g_put q163 rfl rfl rfl (fun _ => rfl) (fun s4 => ?_)
    refine g_p q163 1 0 [some (oR 12 0)] [] rfl ?_
    exact g_end (fun h => g_wk [true] rfl h)
theorem g163 (X : X2) (s : S2) (o : Option (AV R2) × S2) : J (f163 s) (fun (r : S2) => o = (none, r)) (Go X 2 163 0 (am_loc (am_nl 163) [oR 12 0]) [] s o) := by
  show J _ _ (Go X 2 163 0 [some (oR 12 0)] [] s o)
  unfold f163
  refine g_wkJ [true] (L0 := [some (oR 12 0)]) rfl ?_
  refine g_itr (H163_a X o) (E163_a X o) (fun s1 => g163_a X s1 o) ?_
  intro s5
  show J _ _ (Go X 2 163 22 [none] [] s5 o)
  exact g_retV q163 rfl rfl
theorem q165 : am_cd 165 = am_c165 := rfl
theorem g165 (X : X2) (a0 : Int) (s : S2) (o : Option (AV R2) × S2) : J (f165 a0) (fun (r : Nat) => o = (some (oR 16 r), s)) (Go X 1 165 0 (am_loc (am_nl 165) [vI a0]) [] s o) := by
  show J _ _ (Go X 1 165 0 [some (vI a0)] [] s o)
  unfold f165
  refine g_p q165 1 1 [some (vI a0)] [vI a0] rfl ?_
  refine g_sw q165 rfl ?_
  refine g_swc ?_ ?_
  ·
    refine g_m (S := [oR 16 2]) (some (oR 16 2)) q165 rfl rfl rfl (fun _ => rfl) rfl ?_
    exact g_ret q165 rfl rfl rfl
  ·
    refine g_swc ?_ ?_
    ·
      refine g_m (S := [oR 16 3]) (some (oR 16 3)) q165 rfl rfl rfl (fun _ => rfl) rfl ?_
      exact g_ret q165 rfl rfl rfl
    ·
      refine g_swc ?_ ?_
      ·
        refine g_m (S := [oR 16 4]) (some (oR 16 4)) q165 rfl rfl rfl (fun _ => rfl) rfl ?_
        exact g_ret q165 rfl rfl rfl
      ·
        refine g_swc ?_ ?_
        ·
          refine g_m (S := [oR 16 5]) (some (oR 16 5)) q165 rfl rfl rfl (fun _ => rfl) rfl ?_
          exact g_ret q165 rfl rfl rfl
        ·
          refine g_swc ?_ ?_
          ·
            refine g_m (S := [oR 16 6]) (some (oR 16 6)) q165 rfl rfl rfl (fun _ => rfl) rfl ?_
            exact g_ret q165 rfl rfl rfl
          ·
            refine g_swe ?_
            refine g_m (S := [oR 16 7]) (some (oR 16 7)) q165 rfl rfl rfl (fun _ => rfl) rfl ?_
            exact g_ret q165 rfl rfl rfl
theorem q166 : am_cd 166 = am_c166 := rfl
def H166_a (X : X2) (y2 : Nat) (s4 : S2) (o : Option (AV R2) × S2) (a : Int) : Prop := Go X 5 166 5 [some (oR 12 0), some (oR 16 y2), some (vI a), none, none] [] s4 o
def E166_a (X : X2) (y2 : Nat) (s4 : S2) (o : Option (AV R2) × S2) : (Int) → Prop := (fun (r : Int) => Go X 5 166 41 [some (oR 12 0), some (oR 16 y2), some (vI r), none, none] [] s4 o)
theorem g166_a (X : X2) (y2 : Nat) (x3 : Int) (s4 : S2) (hy2 : y2 < am_T.length) (o : Option (AV R2) × S2) : J (f166_a x3 s4) (am_kx (H166_a X y2 s4 o) (E166_a X y2 s4 o)) (Go X 5 166 5 [some (oR 12 0), some (oR 16 y2), some (vI x3), none, none] [] s4 o) := by
  unfold f166_a
  refine g_p q166 2 7 [some (oR 12 0), some (oR 16 y2), some (vI x3), none, none] [oR 12 0, vI x3] rfl ?_
  refine g_get q166 rfl rfl rfl (fun _ => rfl) (fun v5 => ?_)
  refine g_i2 q166 rfl rfl ?_ ?_
  ·
    exact g_end (fun h => g_wk [true, true, true, false, false] rfl h)
  ·
    refine g_p q166 1 14 [some (oR 12 0), some (oR 16 y2), some (vI x3), none, none] [oR 12 0] rfl ?_
    refine g_m (S := [aR 1579 0]) (some (aR 1579 0)) q166 rfl rfl rfl (fun _ => rfl) rfl ?_
    refine g_p q166 1 18 [some (oR 12 0), some (oR 16 y2), some (vI x3), none, none] [vI x3, aR 1579 0] rfl ?_
    refine g_ld q166 rfl rfl rfl rfl rfl rfl (fun v6 => ?_)
    refine g_p q166 1 21 [some (oR 12 0), some (oR 16 y2), some (vI x3), none, none] [vI 97, vI v6] rfl ?_
    refine g_i2 q166 rfl rfl ?_ ?_
    ·
      exact g_end (fun h => g_wk [true, true, true, false, false] rfl h)
    ·
      refine g_p q166 1 25 [some (oR 12 0), some (oR 16 y2), some (vI x3), none, none] [oR 12 0] rfl ?_
      refine g_m (S := [aR 1579 0]) (some (aR 1579 0)) q166 rfl rfl rfl (fun _ => rfl) rfl ?_
      refine g_p q166 1 29 [some (oR 12 0), some (oR 16 y2), some (vI x3), none, none] [vI x3, aR 1579 0] rfl ?_
      refine g_ld q166 rfl rfl rfl rfl rfl rfl (fun v7 => ?_)
      refine g_p q166 1 32 [some (oR 12 0), some (oR 16 y2), some (vI x3), none, none] [vI 122, vI v7] rfl ?_
      refine g_i2 q166 rfl rfl ?_ ?_
      ·
        exact g_end (fun h => g_wk [true, true, true, false, false] rfl h)
      ·
        refine g_inc (fun v8 => [some (oR 12 0), some (oR 16 y2), some (vI v8), none, none]) q166 rfl rfl (fun _ => rfl) (fun v8 => ?_)
        refine g_p q166 1 5 [some (oR 12 0), some (oR 16 y2), some (vI v8), none, none] [] rfl ?_
        exact g_end (fun h => g_wk [true, true, true, false, false] rfl h)
def H166_b (X : X2) (y13 : Nat) (s16 : S2) (o : Option (AV R2) × S2) (a : Int × Int) : Prop := Go X 5 166 63 [some (oR 12 0), some (oR 16 y13), none, some (vI (a.1)), some (vI (a.2))] [] s16 o
def E166_b (X : X2) (y13 : Nat) (s16 : S2) (o : Option (AV R2) × S2) : (Int) → Prop := (fun (r : Int) => Go X 5 166 109 [none, none, none, some (vI r), none] [] s16 o)
theorem g166_b (X : X2) (y13 : Nat) (x14 : Int) (x15 : Int) (s16 : S2) (hy13 : y13 < am_T.length) (o : Option (AV R2) × S2) : J (f166_b y13 x14 x15 s16) (am_kx (H166_b X y13 s16 o) (E166_b X y13 s16 o)) (Go X 5 166 63 [some (oR 12 0), some (oR 16 y13), none, some (vI x14), some (vI x15)] [] s16 o) := by
  unfold f166_b
  refine g_p q166 2 66 [some (oR 12 0), some (oR 16 y13), none, some (vI x14), some (vI x15)] [oR 16 y13, vI x15] rfl ?_
  refine g_cPI q166 rfl (g274 X y13 s16 hy13) rfl rfl rfl rfl rfl (fun r17 => ?_)
  refine g_i2 q166 rfl rfl ?_ ?_
  ·
    exact g_end (fun h => g_wk [false, false, false, true, false] rfl h)
  ·
    refine g_p q166 1 73 [some (oR 12 0), some (oR 16 y13), none, some (vI x14), some (vI x15)] [vI x14] rfl ?_
    refine g_i1 q166 rfl rfl ?_ ?_
    ·
      exact g_end (fun h => g_wk [false, false, false, true, false] rfl h)
    ·
      refine g_p q166 1 77 [some (oR 12 0), some (oR 16 y13), none, some (vI x14), some (vI x15)] [oR 12 0] rfl ?_
      refine g_m (S := [aR 1579 0]) (some (aR 1579 0)) q166 rfl rfl rfl (fun _ => rfl) rfl ?_
      refine g_p q166 1 81 [some (oR 12 0), some (oR 16 y13), none, some (vI x14), some (vI x15)] [oR 12 0, aR 1579 0] rfl ?_
      refine g_get q166 rfl rfl rfl (fun _ => rfl) (fun v18 => ?_)
      refine g_p q166 2 87 [some (oR 12 0), some (oR 16 y13), none, some (vI x14), some (vI x15)] [vI (jadd v18 x15), aR 1579 0] rfl ?_
      refine g_ld q166 rfl rfl rfl rfl rfl rfl (fun v19 => ?_)
      refine g_p q166 2 91 [some (oR 12 0), some (oR 16 y13), none, some (vI x14), some (vI x15)] [vI x15, oR 16 y13, vI v19] rfl ?_
      refine g_cPI q166 rfl (g276 X y13 x15 s16 hy13) rfl rfl rfl rfl rfl (fun r20 => ?_)
      refine g_i2 q166 rfl rfl ?_ ?_
      ·
        refine g_p q166 2 103 [some (oR 12 0), some (oR 16 y13), none, some (vI 0), some (vI x15)] [] rfl ?_
        refine g_inc (fun v21 => [some (oR 12 0), some (oR 16 y13), none, some (vI 0), some (vI v21)]) q166 rfl rfl (fun _ => rfl) (fun v21 => ?_)
        refine g_p q166 1 63 [some (oR 12 0), some (oR 16 y13), none, some (vI 0), some (vI v21)] [] rfl ?_
        exact g_end (fun h => g_wk [true, true, false, true, true] rfl h)
      ·
        refine g_p q166 3 103 [some (oR 12 0), some (oR 16 y13), none, some (vI 1), some (vI x15)] [] rfl ?_
        refine g_inc (fun v22 => [some (oR 12 0), some (oR 16 y13), none, some (vI 1), some (vI v22)]) q166 rfl rfl (fun _ => rfl) (fun v22 => ?_)
        refine g_p q166 1 63 [some (oR 12 0), some (oR 16 y13), none, some (vI 1), some (vI v22)] [] rfl ?_
        exact g_end (fun h => g_wk [true, true, false, true, true] rfl h)
theorem g166 (X : X2) (a1 : Nat) (s : S2) (ha1 : a1 < am_T.length) (o : Option (AV R2) × S2) : J (f166 a1 s) (fun (r : Int) => o = (some (vI r), s)) (Go X 5 166 0 (am_loc (am_nl 166) [oR 12 0, oR 16 a1]) [] s o) := by
  show J _ _ (Go X 5 166 0 [some (oR 12 0), some (oR 16 a1), none, none, none] [] s o)
  unfold f166
  refine g_p q166 1 1 [some (oR 12 0), some (oR 16 a1), none, none, none] [oR 12 0] rfl ?_
  refine g_get q166 rfl rfl rfl (fun _ => rfl) (fun v1 => ?_)
  refine g_p q166 1 5 [some (oR 12 0), some (oR 16 a1), some (vI v1), none, none] [] rfl ?_
  refine g_wkJ [true, true, true, false, false] (L0 := [some (oR 12 0), some (oR 16 a1), some (vI v1), none, none]) rfl ?_
  refine g_itr (H166_a X a1 s o) (E166_a X a1 s o) (fun x3 => g166_a X a1 x3 s ha1 o) ?_
  intro z9
  show J _ _ (Go X 5 166 41 [some (oR 12 0), some (oR 16 a1), some (vI z9), none, none] [] s o)
  refine g_p q166 2 43 [some (oR 12 0), some (oR 16 a1), some (vI z9), none, none] [oR 12 0, vI z9] rfl ?_
  refine g_get q166 rfl rfl rfl (fun _ => rfl) (fun v10 => ?_)
  refine g_p q166 2 48 [some (oR 12 0), some (oR 16 a1), some (vI z9), none, none] [oR 16 a1, vI (jsub z9 v10)] rfl ?_
  refine g_cPI q166 rfl (g274 X a1 s ha1) rfl rfl rfl rfl rfl (fun r11 => ?_)
  refine g_jn (fun j59 => ∀ (x12 : Int), J (j59 x12) (fun (r : Int) => o = (some (vI r), s)) (Go X 5 166 59 [some (oR 12 0), some (oR 16 a1), none, none, none] [vI x12] s o)) ?_ (fun j59 hj59 => ?_)
  ·
    intro x12
    refine g_p q166 3 63 [some (oR 12 0), some (oR 16 a1), none, some (vI x12), some (vI 0)] [] rfl ?_
    refine g_wkJ [true, true, false, true, true] (L0 := [some (oR 12 0), some (oR 16 a1), none, some (vI x12), some (vI 0)]) rfl ?_
    refine g_itr (H166_b X a1 s o) (E166_b X a1 s o) (fun | (x14, x15) => g166_b X a1 x14 x15 s ha1 o) ?_
    intro z23
    show J _ _ (Go X 5 166 109 [none, none, none, some (vI z23), none] [] s o)
    refine g_p q166 1 110 [none, none, none, some (vI z23), none] [vI z23] rfl ?_
    exact g_retb q166 rfl rfl
  ·
    refine g_i2 q166 rfl rfl ?_ ?_
    ·
      refine g_p q166 1 59 [some (oR 12 0), some (oR 16 a1), some (vI z9), none, none] [vI 0] rfl ?_
      exact g_wkJ [true, true, false, false, false] rfl (hj59 0)
    ·
      refine g_p q166 2 59 [some (oR 12 0), some (oR 16 a1), some (vI z9), none, none] [vI 1] rfl ?_
      exact g_wkJ [true, true, false, false, false] rfl (hj59 1)
theorem q167 : am_cd 167 = am_c167 := rfl
theorem g167 (X : X2) (a1 : Int) (a2 : Int) (s : S2) (o : Option (AV R2) × S2) : J (f167 a1 a2 s) (fun (r : S2) => o = (none, r)) (Go X 1 167 0 (am_loc (am_nl 167) [oR 12 0, vI a1, vI a2]) [] s o) := by
  show J _ _ (Go X 1 167 0 [some (oR 12 0), some (vI a1), some (vI a2)] [] s o)
  unfold f167
  refine g_p q167 2 2 [some (oR 12 0), some (vI a1), some (vI a2)] [oR 12 0, oR 12 0] rfl ?_
  refine g_get q167 rfl rfl rfl (fun _ => rfl) (fun v1 => ?_)
  refine g_jn (fun j23 => ∀ (x2 : Int), J (j23 x2) (fun (r : S2) => o = (none, r)) (Go X 1 167 23 [none, none, none] [vI x2, oR 12 0] s o)) ?_ (fun j23 hj23 => ?_)
  ·
    intro x2
    refine g_put q167 rfl rfl rfl (fun _ => rfl) (fun s3 => ?_)
    exact g_retV q167 rfl rfl
  ·
    refine g_i1 q167 rfl rfl ?_ ?_
    ·
      refine g_p q167 1 20 [some (oR 12 0), some (vI a1), some (vI a2)] [oR 12 0, oR 12 0] rfl ?_
      refine g_get q167 rfl rfl rfl (fun _ => rfl) (fun v4 => ?_)
      exact g_wkJ [false, false, false] rfl (hj23 v4)
    ·
      refine g_p q167 8 23 [some (oR 12 0), some (vI a1), some (vI a2)] [vI (jadd (jadd 1 (jmul 8 a2)) a1), oR 12 0] rfl ?_
      exact g_wkJ [false, false, false] rfl (hj23 (jadd (jadd 1 (jmul 8 a2)) a1))
theorem q168 : am_cd 168 = am_c168 := rfl
theorem g168 (X : X2) (a1 : Int) (a2 : Int) (s : S2) (o : Option (AV R2) × S2) : J (f168 a1 a2 s) (fun (r : Int) => o = (some (vI r), s)) (Go X 1 168 0 (am_loc (am_nl 168) [oR 12 0, vI a1, vI a2]) [] s o) := by
  show J _ _ (Go X 1 168 0 [some (oR 12 0), some (vI a1), some (vI a2)] [] s o)
  unfold f168
  refine g_p q168 2 3 [some (oR 12 0), some (vI a1), some (vI a2)] [vI 40, vI a2] rfl ?_
  refine g_i2 q168 rfl rfl ?_ ?_
  ·
    refine g_p q168 1 28 [some (oR 12 0), some (vI a1), some (vI a2)] [vI 1] rfl ?_
    exact g_ret q168 rfl rfl rfl
  ·
    refine g_p q168 1 7 [some (oR 12 0), some (vI a1), some (vI a2)] [vI a1] rfl ?_
    refine g_jn (fun j15 => ∀ (x1 : Int), J (j15 x1) (fun (r : Int) => o = (some (vI r), s)) (Go X 1 168 15 [some (oR 12 0), some (vI a1), some (vI a2)] [vI x1] s o)) ?_ (fun j15 hj15 => ?_)
    ·
      intro x1
      refine g_p q168 1 16 [some (oR 12 0), some (vI a1), some (vI a2)] [vI a2, vI x1] rfl ?_
      refine g_jn (fun j24 => ∀ (x2 : Int), J (j24 x2) (fun (r : Int) => o = (some (vI r), s)) (Go X 1 168 24 [some (oR 12 0), some (vI a1), none] [vI x2, vI x1] s o)) ?_ (fun j24 hj24 => ?_)
      ·
        intro x2
        refine g_i2 q168 rfl rfl ?_ ?_
        ·
          refine g_p q168 1 30 [some (oR 12 0), some (vI a1), none] [vI a1] rfl ?_
          refine g_sw q168 rfl ?_
          refine g_swc ?_ ?_
          ·
            refine g_p q168 1 65 [some (oR 12 0), some (vI a1), none] [oR 12 0] rfl ?_
            refine g_m (S := [aR 1557 0]) (some (aR 1557 0)) q168 rfl rfl rfl (fun _ => rfl) rfl ?_
            refine g_p q168 1 69 [some (oR 12 0), some (vI a1), none] [vI 2, aR 1557 0] rfl ?_
            refine g_ld q168 rfl rfl rfl rfl rfl rfl (fun v3 => ?_)
            refine g_p q168 1 71 [some (oR 12 0), some (vI a1), none] [vI 4, vI v3] rfl ?_
            refine g_i2 q168 rfl rfl ?_ ?_
            ·
              refine g_p q168 1 79 [some (oR 12 0), some (vI a1), none] [vI 0] rfl ?_
              exact g_ret q168 rfl rfl rfl
            ·
              refine g_p q168 2 79 [some (oR 12 0), some (vI a1), none] [vI 1] rfl ?_
              exact g_ret q168 rfl rfl rfl
          ·
            refine g_swc ?_ ?_
            ·
              refine g_p q168 1 81 [some (oR 12 0), some (vI a1), none] [oR 12 0] rfl ?_
              refine g_m (S := [aR 1557 0]) (some (aR 1557 0)) q168 rfl rfl rfl (fun _ => rfl) rfl ?_
              refine g_p q168 1 85 [some (oR 12 0), some (vI a1), none] [vI 4, aR 1557 0] rfl ?_
              refine g_ld q168 rfl rfl rfl rfl rfl rfl (fun v4 => ?_)
              refine g_p q168 1 88 [some (oR 12 0), some (vI a1), none] [vI 10, vI v4] rfl ?_
              refine g_i2 q168 rfl rfl ?_ ?_
              ·
                refine g_p q168 1 96 [some (oR 12 0), some (vI a1), none] [vI 0] rfl ?_
                exact g_ret q168 rfl rfl rfl
              ·
                refine g_p q168 2 96 [some (oR 12 0), some (vI a1), none] [vI 1] rfl ?_
                exact g_ret q168 rfl rfl rfl
            ·
              refine g_swc ?_ ?_
              ·
                refine g_p q168 1 98 [some (oR 12 0), some (vI a1), none] [oR 12 0] rfl ?_
                refine g_m (S := [aR 1557 0]) (some (aR 1557 0)) q168 rfl rfl rfl (fun _ => rfl) rfl ?_
                refine g_p q168 1 102 [some (oR 12 0), some (vI a1), none] [vI 3, aR 1557 0] rfl ?_
                refine g_ld q168 rfl rfl rfl rfl rfl rfl (fun v5 => ?_)
                refine g_p q168 1 105 [some (oR 12 0), some (vI a1), none] [vI 6, vI v5] rfl ?_
                refine g_i2 q168 rfl rfl ?_ ?_
                ·
                  refine g_p q168 1 113 [some (oR 12 0), some (vI a1), none] [vI 0] rfl ?_
                  exact g_ret q168 rfl rfl rfl
                ·
                  refine g_p q168 2 113 [some (oR 12 0), some (vI a1), none] [vI 1] rfl ?_
                  exact g_ret q168 rfl rfl rfl
              ·
                refine g_swd rfl ?_
                refine g_swc ?_ ?_
                ·
                  refine g_p q168 1 115 [some (oR 12 0), some (vI a1), none] [oR 12 0] rfl ?_
                  refine g_m (S := [aR 1557 0]) (some (aR 1557 0)) q168 rfl rfl rfl (fun _ => rfl) rfl ?_
                  refine g_p q168 1 119 [some (oR 12 0), some (vI a1), none] [vI 5, aR 1557 0] rfl ?_
                  refine g_ld q168 rfl rfl rfl rfl rfl rfl (fun v6 => ?_)
                  refine g_p q168 1 121 [some (oR 12 0), some (vI a1), none] [vI 3, vI v6] rfl ?_
                  refine g_i2 q168 rfl rfl ?_ ?_
                  ·
                    refine g_p q168 1 129 [some (oR 12 0), some (vI a1), none] [vI 0] rfl ?_
                    exact g_ret q168 rfl rfl rfl
                  ·
                    refine g_p q168 2 129 [some (oR 12 0), some (vI a1), none] [vI 1] rfl ?_
                    exact g_ret q168 rfl rfl rfl
                ·
                  refine g_swe ?_
                  refine g_p q168 1 131 [some (oR 12 0), some (vI a1), none] [vI 0] rfl ?_
                  exact g_ret q168 rfl rfl rfl
        ·
          refine g_p q168 1 28 [some (oR 12 0), some (vI a1), none] [vI 1] rfl ?_
          exact g_ret q168 rfl rfl rfl
      ·
        refine g_i1 q168 rfl rfl ?_ ?_
        ·
          refine g_p q168 1 24 [some (oR 12 0), some (vI a1), some (vI a2)] [vI 0, vI x1] rfl ?_
          exact g_wkJ [true, true, false] rfl (hj24 0)
        ·
          refine g_p q168 2 24 [some (oR 12 0), some (vI a1), some (vI a2)] [vI 1, vI x1] rfl ?_
          exact g_wkJ [true, true, false] rfl (hj24 1)
    ·
      refine g_i1 q168 rfl rfl ?_ ?_
      ·
        refine g_p q168 1 15 [some (oR 12 0), some (vI a1), some (vI a2)] [vI 0] rfl ?_
        exact g_wkJ [true, true, true] rfl (hj15 0)
      ·
        refine g_p q168 2 15 [some (oR 12 0), some (vI a1), some (vI a2)] [vI 1] rfl ?_
        exact g_wkJ [true, true, true] rfl (hj15 1)
theorem q173 : am_cd 173 = am_c173 := rfl
theorem g173 (X : X2) (a0 : Int) (a1 : Int) (a2 : Int) (s : S2) (o : Option (AV R2) × S2) : J (f173 a0 a1 a2) (fun (r : Int) => o = (some (vI r), s)) (Go X 1 173 0 (am_loc (am_nl 173) [vL a0, vL a1, vL a2]) [] s o) := by
  show J _ _ (Go X 1 173 0 [some (vL a0), none, some (vL a1), none, some (vL a2), none] [] s o)
  unfold f173
  refine g_p q173 3 3 [some (vL a0), none, some (vL a1), none, some (vL a2), none] [vI (jcmp a0 a1)] rfl ?_
  refine g_i1 q173 rfl rfl ?_ ?_
  ·
    refine g_p q173 1 18 [some (vL a0), none, some (vL a1), none, some (vL a2), none] [vI 0] rfl ?_
    exact g_ret q173 rfl rfl rfl
  ·
    refine g_p q173 3 10 [some (vL a0), none, some (vL a1), none, some (vL a2), none] [vI (jcmp a0 a2)] rfl ?_
    refine g_i1 q173 rfl rfl ?_ ?_
    ·
      refine g_p q173 1 18 [some (vL a0), none, some (vL a1), none, some (vL a2), none] [vI 0] rfl ?_
      exact g_ret q173 rfl rfl rfl
    ·
      refine g_p q173 2 18 [some (vL a0), none, some (vL a1), none, some (vL a2), none] [vI 1] rfl ?_
      exact g_ret q173 rfl rfl rfl
theorem q172 : am_cd 172 = am_c172 := rfl
theorem g172 (X : X2) (s : S2) (o : Option (AV R2) × S2) : J (f172 s) (fun (r : Int) => o = (some (vI r), s)) (Go X 2 172 0 (am_loc (am_nl 172) [oR 12 0]) [] s o) := by
  show J _ _ (Go X 2 172 0 [some (oR 12 0)] [] s o)
  unfold f172
  refine g_p q172 1 1 [some (oR 12 0)] [oR 12 0] rfl ?_
  refine g_cPI q172 rfl (g164 X s) rfl rfl rfl rfl rfl (fun r1 => ?_)
  refine g_p q172 3 11 [some (oR 12 0)] [vL 57, vL 48, vL (ji2l r1)] rfl ?_
  refine g_cPI q172 rfl (g173 X (ji2l r1) 48 57 s) rfl rfl rfl rfl rfl (fun r2 => ?_)
  exact g_retb q172 rfl rfl
theorem q171 : am_cd 171 = am_c171 := rfl
def H171_a (X : X2) (y3 : Int) (y4 : Int) (o : Option (AV R2) × S2) (a : Int × S2) : Prop := Go X 3 171 25 [some (oR 12 0), some (vI y3), some (vI y4), some (vI (a.1))] [] (a.2) o
def E171_a (X : X2) (y3 : Int) (y4 : Int) (o : Option (AV R2) × S2) : (Int × S2) → Prop := (fun (r : Int × S2) => Go X 3 171 72 [some (oR 12 0), some (vI y3), some (vI y4), some (vI (r.1))] [] (r.2) o)
theorem g171_a (X : X2) (y3 : Int) (y4 : Int) (x5 : Int) (s6 : S2) (o : Option (AV R2) × S2) : J (f171_a y4 x5 s6) (am_kx (H171_a X y3 y4 o) (E171_a X y3 y4 o)) (Go X 3 171 25 [some (oR 12 0), some (vI y3), some (vI y4), some (vI x5)] [] s6 o) := by
  unfold f171_a
  refine g_p q171 1 26 [some (oR 12 0), some (vI y3), some (vI y4), some (vI x5)] [oR 12 0] rfl ?_
  refine g_cPI q171 rfl (g172 X s6) rfl rfl rfl rfl rfl (fun r7 => ?_)
  refine g_i1 q171 rfl rfl ?_ ?_
  ·
    exact g_end (fun h => g_wk [true, true, true, true] rfl h)
  ·
    refine g_p q171 1 33 [some (oR 12 0), some (vI y3), some (vI y4), some (vI x5)] [oR 12 0] rfl ?_
    refine g_get q171 rfl rfl rfl (fun _ => rfl) (fun v8 => ?_)
    refine g_p q171 3 39 [some (oR 12 0), some (vI y3), some (vI y4), some (vI x5)] [vI 5, vI (jsub v8 y4)] rfl ?_
    refine g_jn (fun j58 => ∀ (x9 : Int), J (j58 x9) (am_kx (H171_a X y3 y4 o) (E171_a X y3 y4 o)) (Go X 3 171 58 [some (oR 12 0), some (vI y3), some (vI y4), none] [vI x9] s6 o)) ?_ (fun j58 hj58 => ?_)
    ·
      intro x9
      refine g_p q171 3 61 [some (oR 12 0), some (vI y3), some (vI y4), some (vI x9)] [oR 12 0, oR 12 0] rfl ?_
      refine g_get q171 rfl rfl rfl (fun _ => rfl) (fun v10 => ?_)
      refine g_p q171 2 66 [some (oR 12 0), some (vI y3), some (vI y4), some (vI x9)] [vI (jadd v10 1), oR 12 0] rfl ?_
      refine g_put q171 rfl rfl rfl (fun _ => rfl) (fun s11 => ?_)
      refine g_p q171 1 25 [some (oR 12 0), some (vI y3), some (vI y4), some (vI x9)] [] rfl ?_
      exact g_end (fun h => g_wk [true, true, true, true] rfl h)
    ·
      refine g_i2 q171 rfl rfl ?_ ?_
      ·
        refine g_p q171 1 58 [some (oR 12 0), some (vI y3), some (vI y4), some (vI x5)] [vI x5] rfl ?_
        exact g_wkJ [true, true, true, false] rfl (hj58 x5)
      ·
        refine g_p q171 4 47 [some (oR 12 0), some (vI y3), some (vI y4), some (vI x5)] [oR 12 0, vI (jmul 10 x5)] rfl ?_
        refine g_cPI q171 rfl (g164 X s6) rfl rfl rfl rfl rfl (fun r12 => ?_)
        refine g_p q171 4 58 [some (oR 12 0), some (vI y3), some (vI y4), some (vI x5)] [vI (jsub (jadd (jmul 10 x5) r12) 48)] rfl ?_
        exact g_wkJ [true, true, true, false] rfl (hj58 (jsub (jadd (jmul 10 x5) r12) 48))
theorem g171 (X : X2) (a1 : Int) (s : S2) (o : Option (AV R2) × S2) : J (f171 a1 s) (fun (r : Int × S2) => o = (some (vI r.1), r.2)) (Go X 3 171 0 (am_loc (am_nl 171) [oR 12 0, vI a1]) [] s o) := by
  show J _ _ (Go X 3 171 0 [some (oR 12 0), some (vI a1), none, none] [] s o)
  unfold f171
  refine g_p q171 1 1 [some (oR 12 0), some (vI a1), none, none] [oR 12 0] rfl ?_
  refine g_cPI q171 rfl (g172 X s) rfl rfl rfl rfl rfl (fun r1 => ?_)
  refine g_i1 q171 rfl rfl ?_ ?_
  ·
    refine g_p q171 1 19 [some (oR 12 0), some (vI a1), none, none] [oR 12 0] rfl ?_
    refine g_get q171 rfl rfl rfl (fun _ => rfl) (fun v2 => ?_)
    refine g_p q171 3 25 [some (oR 12 0), some (vI a1), some (vI v2), some (vI 0)] [] rfl ?_
    refine g_wkJ [true, true, true, true] (L0 := [some (oR 12 0), some (vI a1), some (vI v2), some (vI 0)]) rfl ?_
    refine g_itr (H171_a X a1 v2 o) (E171_a X a1 v2 o) (fun | (x5, s6) => g171_a X a1 v2 x5 s6 o) ?_
    rintro ⟨z13, s14⟩
    show J _ _ (Go X 3 171 72 [some (oR 12 0), some (vI a1), some (vI v2), some (vI z13)] [] s14 o)
    refine g_p q171 1 73 [some (oR 12 0), some (vI a1), some (vI v2), some (vI z13)] [oR 12 0] rfl ?_
    refine g_get q171 rfl rfl rfl (fun _ => rfl) (fun v15 => ?_)
    refine g_p q171 3 79 [some (oR 12 0), some (vI a1), some (vI v2), some (vI z13)] [vI 5, vI (jsub v15 v2)] rfl ?_
    refine g_jn (fun j87 => ∀ (_ : Unit), J (j87 ()) (fun (r : Int × S2) => o = (some (vI r.1), r.2)) (Go X 3 171 87 [some (oR 12 0), none, some (vI v2), some (vI z13)] [] s14 o)) ?_ (fun j87 hj87 => ?_)
    ·
      intro _
      refine g_p q171 3 90 [some (oR 12 0), none, some (vI v2), some (vI z13)] [vI v2, vI 1, oR 12 0] rfl ?_
      refine g_cV q171 rfl (g167 X 1 v2 s14) rfl rfl rfl rfl rfl (fun s16 => ?_)
      refine g_p q171 1 94 [some (oR 12 0), none, some (vI v2), some (vI z13)] [vI z13] rfl ?_
      exact g_ret q171 rfl rfl rfl
    ·
      refine g_i2 q171 rfl rfl ?_ ?_
      ·
        exact g_wkJ [true, false, true, true] rfl (hj87 ())
      ·
        refine g_p q171 2 84 [some (oR 12 0), some (vI a1), some (vI v2), some (vI z13)] [vI a1, vI z13] rfl ?_
        refine g_i2 q171 rfl rfl ?_ ?_
        ·
          refine g_p q171 1 94 [some (oR 12 0), some (vI a1), some (vI v2), some (vI z13)] [vI z13] rfl ?_
          exact g_ret q171 rfl rfl rfl
        ·
          exact g_wkJ [true, false, true, true] rfl (hj87 ())
  ·
    refine g_p q171 3 10 [some (oR 12 0), some (vI a1), none, none] [oR 12 0, vI 0, oR 12 0] rfl ?_
    refine g_get q171 rfl rfl rfl (fun _ => rfl) (fun v17 => ?_)
    refine g_cV q171 rfl (g167 X 0 v17 s) rfl rfl rfl rfl rfl (fun s18 => ?_)
    refine g_p q171 1 17 [some (oR 12 0), some (vI a1), none, none] [vI 0] rfl ?_
    exact g_ret q171 rfl rfl rfl
theorem q170 : am_cd 170 = am_c170 := rfl
theorem g170 (X : X2) (a1 : Int) (a2 : Int) (s : S2) (o : Option (AV R2) × S2) : J (f170 a1 a2 s) (fun (r : Int × S2) => o = (some (vI r.1), r.2)) (Go X 4 170 0 (am_loc (am_nl 170) [oR 12 0, vI a1, vI a2]) [] s o) := by
  show J _ _ (Go X 4 170 0 [some (oR 12 0), some (vI a1), some (vI a2), none, none] [] s o)
  unfold f170
  refine g_p q170 1 1 [some (oR 12 0), some (vI a1), some (vI a2), none, none] [oR 12 0] rfl ?_
  refine g_cV q170 rfl (g163 X s) rfl rfl rfl rfl rfl (fun s1 => ?_)
  refine g_p q170 1 5 [some (oR 12 0), some (vI a1), some (vI a2), none, none] [oR 12 0] rfl ?_
  refine g_get q170 rfl rfl rfl (fun _ => rfl) (fun v2 => ?_)
  refine g_p q170 2 10 [some (oR 12 0), some (vI a1), some (vI a2), some (vI v2), none] [oR 12 0] rfl ?_
  refine g_get q170 rfl rfl rfl (fun _ => rfl) (fun v3 => ?_)
  refine g_jn (fun j27 => ∀ (x4 : Int) (s5 : S2), J (j27 x4 s5) (fun (r : Int × S2) => o = (some (vI r.1), r.2)) (Go X 4 170 27 [some (oR 12 0), some (vI a1), some (vI a2), some (vI v2), none] [vI x4] s5 o)) ?_ (fun j27 hj27 => ?_)
  ·
    intro x4 s5
    refine g_p q170 2 30 [some (oR 12 0), some (vI a1), some (vI a2), some (vI v2), some (vI x4)] [oR 12 0] rfl ?_
    refine g_get q170 rfl rfl rfl (fun _ => rfl) (fun v6 => ?_)
    refine g_i1 q170 rfl rfl ?_ ?_
    ·
      refine g_p q170 1 57 [some (oR 12 0), some (vI a1), some (vI a2), some (vI v2), some (vI x4)] [vI x4] rfl ?_
      exact g_ret q170 rfl rfl rfl
    ·
      refine g_p q170 6 43 [some (oR 12 0), some (vI a1), some (vI a2), some (vI v2), some (vI x4)] [vL (ji2l a2), vL (ji2l a1), vL (ji2l x4)] rfl ?_
      refine g_cPI q170 rfl (g173 X (ji2l x4) (ji2l a1) (ji2l a2) s5) rfl rfl rfl rfl rfl (fun r7 => ?_)
      refine g_i1 q170 rfl rfl ?_ ?_
      ·
        refine g_p q170 1 57 [some (oR 12 0), some (vI a1), some (vI a2), some (vI v2), some (vI x4)] [vI x4] rfl ?_
        exact g_ret q170 rfl rfl rfl
      ·
        refine g_p q170 3 52 [some (oR 12 0), some (vI a1), some (vI a2), some (vI v2), some (vI x4)] [vI v2, vI 1, oR 12 0] rfl ?_
        refine g_cV q170 rfl (g167 X 1 v2 s5) rfl rfl rfl rfl rfl (fun s8 => ?_)
        refine g_p q170 1 57 [some (oR 12 0), some (vI a1), some (vI a2), some (vI v2), some (vI x4)] [vI x4] rfl ?_
        exact g_ret q170 rfl rfl rfl
  ·
    refine g_i1 q170 rfl rfl ?_ ?_
    ·
      refine g_p q170 1 27 [some (oR 12 0), some (vI a1), some (vI a2), some (vI v2), none] [vI 0] rfl ?_
      exact g_wkJ [true, true, true, true, false] rfl (hj27 0 s1)
    ·
      refine g_p q170 2 20 [some (oR 12 0), some (vI a1), some (vI a2), some (vI v2), none] [vI 99999, oR 12 0] rfl ?_
      refine g_cRI q170 rfl (g171 X 99999 s1) rfl rfl rfl rfl rfl (fun r9 s10 => ?_)
      refine g_p q170 1 27 [some (oR 12 0), some (vI a1), some (vI a2), some (vI v2), none] [vI r9] rfl ?_
      exact g_wkJ [true, true, true, true, false] rfl (hj27 r9 s10)
theorem q174 : am_cd 174 = am_c174 := rfl
theorem g174 (X : X2) (s : S2) (o : Option (AV R2) × S2) : J (f174 s) (fun (r : S2) => o = (none, r)) (Go X 5 174 0 (am_loc (am_nl 174) [oR 12 0]) [] s o) := by
  show J _ _ (Go X 5 174 0 [some (oR 12 0), none] [] s o)
  unfold f174
  refine g_p q174 1 1 [some (oR 12 0), none] [oR 12 0] rfl ?_
  refine g_m (S := [aR 1557 0]) (some (aR 1557 0)) q174 rfl rfl rfl (fun _ => rfl) rfl ?_
  refine g_p q174 1 5 [some (oR 12 0), none] [vI 4, aR 1557 0] rfl ?_
  refine g_ld q174 rfl rfl rfl rfl rfl rfl (fun v1 => ?_)
  refine g_p q174 2 8 [some (oR 12 0), some (vI v1)] [oR 12 0] rfl ?_
  refine g_m (S := [aR 1563 0]) (some (aR 1563 0)) q174 rfl rfl rfl (fun _ => rfl) rfl ?_
  refine g_p q174 4 15 [some (oR 12 0), some (vI v1)] [oR 12 0, vI 0, oR 12 0, vI v1, aR 1563 0] rfl ?_
  refine g_m (S := [aR 1557 0, vI 0, oR 12 0, vI v1, aR 1563 0]) (some (aR 1557 0)) q174 rfl rfl rfl (fun _ => rfl) rfl ?_
  refine g_p q174 1 19 [some (oR 12 0), some (vI v1)] [vI 2, aR 1557 0, vI 0, oR 12 0, vI v1, aR 1563 0] rfl ?_
  refine g_ld q174 rfl rfl rfl rfl rfl rfl (fun v2 => ?_)
  refine g_p q174 2 22 [some (oR 12 0), some (vI v1)] [vI (jsub v2 1), vI 0, oR 12 0, vI v1, aR 1563 0] rfl ?_
  refine g_cRI q174 rfl (g170 X 0 (jsub v2 1) s) rfl rfl rfl rfl rfl (fun r3 s4 => ?_)
  refine g_sto q174 rfl rfl rfl rfl (fun s5 => ?_)
  refine g_p q174 1 27 [some (oR 12 0), some (vI v1)] [oR 12 0] rfl ?_
  refine g_m (S := [aR 1564 0]) (some (aR 1564 0)) q174 rfl rfl rfl (fun _ => rfl) rfl ?_
  refine g_p q174 4 34 [some (oR 12 0), some (vI v1)] [vI 4, vI 1, oR 12 0, vI v1, aR 1564 0] rfl ?_
  refine g_cRI q174 rfl (g170 X 1 4 s5) rfl rfl rfl rfl rfl (fun r6 s7 => ?_)
  refine g_sto q174 rfl rfl rfl rfl (fun s8 => ?_)
  refine g_p q174 1 39 [some (oR 12 0), some (vI v1)] [oR 12 0] rfl ?_
  refine g_m (S := [aR 1565 0]) (some (aR 1565 0)) q174 rfl rfl rfl (fun _ => rfl) rfl ?_
  refine g_p q174 4 47 [some (oR 12 0), some (vI v1)] [vI 20, vI 0, oR 12 0, vI v1, aR 1565 0] rfl ?_
  refine g_cRI q174 rfl (g170 X 0 20 s8) rfl rfl rfl rfl rfl (fun r9 s10 => ?_)
  refine g_sto q174 rfl rfl rfl rfl (fun s11 => ?_)
  refine g_p q174 1 52 [some (oR 12 0), some (vI v1)] [oR 12 0] rfl ?_
  refine g_m (S := [aR 1566 0]) (some (aR 1566 0)) q174 rfl rfl rfl (fun _ => rfl) rfl ?_
  refine g_p q174 2 57 [some (oR 12 0), some (vI v1)] [vI (-1), vI v1, aR 1566 0] rfl ?_
  refine g_sto q174 rfl rfl rfl rfl (fun s12 => ?_)
  refine g_p q174 1 59 [some (oR 12 0), some (vI v1)] [oR 12 0] rfl ?_
  refine g_m (S := [aR 1557 0]) (some (aR 1557 0)) q174 rfl rfl rfl (fun _ => rfl) rfl ?_
  refine g_p q174 2 64 [some (oR 12 0), some (vI v1)] [vI 4, aR 1557 0, vI 4, aR 1557 0] rfl ?_
  refine g_ld q174 rfl rfl rfl rfl rfl rfl (fun v13 => ?_)
  refine g_p q174 2 67 [some (oR 12 0), some (vI v1)] [vI (jadd v13 1), vI 4, aR 1557 0] rfl ?_
  refine g_sto q174 rfl rfl rfl rfl (fun s14 => ?_)
  exact g_retV q174 rfl rfl
theorem q175 : am_cd 175 = am_c175 := rfl
theorem g175 (X : X2) (s : S2) (o : Option (AV R2) × S2) : J (f175 s) (fun (r : S2) => o = (none, r)) (Go X 5 175 0 (am_loc (am_nl 175) [oR 12 0]) [] s o) := by
  show J _ _ (Go X 5 175 0 [some (oR 12 0), none, none] [] s o)
  unfold f175
  refine g_p q175 1 1 [some (oR 12 0), none, none] [oR 12 0] rfl ?_
  refine g_m (S := [aR 1557 0]) (some (aR 1557 0)) q175 rfl rfl rfl (fun _ => rfl) rfl ?_
  refine g_p q175 1 5 [some (oR 12 0), none, none] [vI 3, aR 1557 0] rfl ?_
  refine g_ld q175 rfl rfl rfl rfl rfl rfl (fun v1 => ?_)
  refine g_p q175 2 8 [some (oR 12 0), some (vI v1), none] [oR 12 0] rfl ?_
  refine g_m (S := [aR 1559 0]) (some (aR 1559 0)) q175 rfl rfl rfl (fun _ => rfl) rfl ?_
  refine g_p q175 4 16 [some (oR 12 0), some (vI v1), none] [vI 7, vI 0, oR 12 0, vI v1, aR 1559 0] rfl ?_
  refine g_cRI q175 rfl (g170 X 0 7 s) rfl rfl rfl rfl rfl (fun r2 s3 => ?_)
  refine g_sto q175 rfl rfl rfl rfl (fun s4 => ?_)
  refine g_p q175 1 21 [some (oR 12 0), some (vI v1), none] [oR 12 0] rfl ?_
  refine g_cV q175 rfl (g163 X s4) rfl rfl rfl rfl rfl (fun s5 => ?_)
  refine g_p q175 1 25 [some (oR 12 0), some (vI v1), none] [oR 12 0] rfl ?_
  refine g_get q175 rfl rfl rfl (fun _ => rfl) (fun v6 => ?_)
  refine g_p q175 2 30 [some (oR 12 0), some (vI v1), some (vI v6)] [oR 12 0] rfl ?_
  refine g_m (S := [aR 1560 0]) (some (aR 1560 0)) q175 rfl rfl rfl (fun _ => rfl) rfl ?_
  refine g_p q175 4 38 [some (oR 12 0), some (vI v1), some (vI v6)] [vI 7, vI 0, oR 12 0, vI v1, aR 1560 0] rfl ?_
  refine g_cRI q175 rfl (g170 X 0 7 s5) rfl rfl rfl rfl rfl (fun r7 s8 => ?_)
  refine g_sto q175 rfl rfl rfl rfl (fun s9 => ?_)
  refine g_p q175 1 43 [some (oR 12 0), some (vI v1), some (vI v6)] [oR 12 0] rfl ?_
  refine g_get q175 rfl rfl rfl (fun _ => rfl) (fun v10 => ?_)
  refine g_jn (fun j70 => ∀ (s11 : S2), J (j70 s11) (fun (r : S2) => o = (none, r)) (Go X 5 175 70 [some (oR 12 0), some (vI v1), none] [] s11 o)) ?_ (fun j70 hj70 => ?_)
  ·
    intro s11
    refine g_p q175 1 71 [some (oR 12 0), some (vI v1), none] [oR 12 0] rfl ?_
    refine g_m (S := [aR 1561 0]) (some (aR 1561 0)) q175 rfl rfl rfl (fun _ => rfl) rfl ?_
    refine g_p q175 4 79 [some (oR 12 0), some (vI v1), none] [vI 9, vI 1, oR 12 0, vI v1, aR 1561 0] rfl ?_
    refine g_cRI q175 rfl (g170 X 1 9 s11) rfl rfl rfl rfl rfl (fun r12 s13 => ?_)
    refine g_sto q175 rfl rfl rfl rfl (fun s14 => ?_)
    refine g_p q175 1 84 [some (oR 12 0), some (vI v1), none] [oR 12 0] rfl ?_
    refine g_m (S := [aR 1562 0]) (some (aR 1562 0)) q175 rfl rfl rfl (fun _ => rfl) rfl ?_
    refine g_p q175 4 92 [some (oR 12 0), some (vI v1), none] [vI 99, vI 1, oR 12 0, vI v1, aR 1562 0] rfl ?_
    refine g_cRI q175 rfl (g170 X 1 99 s14) rfl rfl rfl rfl rfl (fun r15 s16 => ?_)
    refine g_sto q175 rfl rfl rfl rfl (fun s17 => ?_)
    refine g_p q175 1 97 [some (oR 12 0), some (vI v1), none] [oR 12 0] rfl ?_
    refine g_m (S := [aR 1557 0]) (some (aR 1557 0)) q175 rfl rfl rfl (fun _ => rfl) rfl ?_
    refine g_p q175 2 102 [some (oR 12 0), some (vI v1), none] [vI 3, aR 1557 0, vI 3, aR 1557 0] rfl ?_
    refine g_ld q175 rfl rfl rfl rfl rfl rfl (fun v18 => ?_)
    refine g_p q175 2 105 [some (oR 12 0), some (vI v1), none] [vI (jadd v18 1), vI 3, aR 1557 0] rfl ?_
    refine g_sto q175 rfl rfl rfl rfl (fun s19 => ?_)
    exact g_retV q175 rfl rfl
  ·
    refine g_i1 q175 rfl rfl ?_ ?_
    ·
      exact g_wkJ [true, true, false] rfl (hj70 s9)
    ·
      refine g_p q175 1 50 [some (oR 12 0), some (vI v1), some (vI v6)] [oR 12 0] rfl ?_
      refine g_m (S := [aR 1559 0]) (some (aR 1559 0)) q175 rfl rfl rfl (fun _ => rfl) rfl ?_
      refine g_p q175 1 54 [some (oR 12 0), some (vI v1), some (vI v6)] [vI v1, aR 1559 0] rfl ?_
      refine g_ld q175 rfl rfl rfl rfl rfl rfl (fun v20 => ?_)
      refine g_p q175 1 56 [some (oR 12 0), some (vI v1), some (vI v6)] [oR 12 0, vI v20] rfl ?_
      refine g_m (S := [aR 1560 0, vI v20]) (some (aR 1560 0)) q175 rfl rfl rfl (fun _ => rfl) rfl ?_
      refine g_p q175 1 60 [some (oR 12 0), some (vI v1), some (vI v6)] [vI v1, aR 1560 0, vI v20] rfl ?_
      refine g_ld q175 rfl rfl rfl rfl rfl rfl (fun v21 => ?_)
      refine g_i2 q175 rfl rfl ?_ ?_
      ·
        exact g_wkJ [true, true, false] rfl (hj70 s9)
      ·
        refine g_p q175 3 67 [some (oR 12 0), some (vI v1), some (vI v6)] [vI v6, vI 1, oR 12 0] rfl ?_
        refine g_cV q175 rfl (g167 X 1 v6 s9) rfl rfl rfl rfl rfl (fun s22 => ?_)
        exact g_wkJ [true, true, false] rfl (hj70 s22)
theorem q177 : am_cd 177 = am_c177 := rfl
def H177_a (X : X2) (y2 : Int) (y3 : Int) (s6 : S2) (o : Option (AV R2) × S2) (a : Int × Int) : Prop := Go X 1 177 10 [some (oR 12 0), some (vI y2), some (vI y3), some (vI (a.1)), some (vI (a.2))] [] s6 o
def E177_a (X : X2) (y2 : Int) (y3 : Int) (s6 : S2) (o : Option (AV R2) × S2) : (Int) → Prop := (fun (r : Int) => Go X 1 177 52 [some (oR 12 0), some (vI y2), none, some (vI r), none] [] s6 o)
theorem g177_a (X : X2) (y2 : Int) (y3 : Int) (x4 : Int) (x5 : Int) (s6 : S2) (o : Option (AV R2) × S2) : J (f177_a y3 x4 x5 s6) (am_kx (H177_a X y2 y3 s6 o) (E177_a X y2 y3 s6 o)) (Go X 1 177 10 [some (oR 12 0), some (vI y2), some (vI y3), some (vI x4), some (vI x5)] [] s6 o) := by
  unfold f177_a
  refine g_p q177 2 13 [some (oR 12 0), some (vI y2), some (vI y3), some (vI x4), some (vI x5)] [oR 12 0, vI x5] rfl ?_
  refine g_m (S := [aR 1557 0, vI x5]) (some (aR 1557 0)) q177 rfl rfl rfl (fun _ => rfl) rfl ?_
  refine g_p q177 1 17 [some (oR 12 0), some (vI y2), some (vI y3), some (vI x4), some (vI x5)] [vI 4, aR 1557 0, vI x5] rfl ?_
  refine g_ld q177 rfl rfl rfl rfl rfl rfl (fun v7 => ?_)
  refine g_i2 q177 rfl rfl ?_ ?_
  ·
    exact g_end (fun h => g_wk [true, true, false, true, false] rfl h)
  ·
    refine g_p q177 2 23 [some (oR 12 0), some (vI y2), some (vI y3), some (vI x4), some (vI x5)] [oR 12 0, vI x4] rfl ?_
    refine g_m (S := [aR 1566 0, vI x4]) (some (aR 1566 0)) q177 rfl rfl rfl (fun _ => rfl) rfl ?_
    refine g_p q177 1 28 [some (oR 12 0), some (vI y2), some (vI y3), some (vI x4), some (vI x5)] [vI x5, aR 1566 0, vI x4] rfl ?_
    refine g_ld q177 rfl rfl rfl rfl rfl rfl (fun v8 => ?_)
    refine g_p q177 1 30 [some (oR 12 0), some (vI y2), some (vI y3), some (vI x4), some (vI x5)] [vI y3, vI v8, vI x4] rfl ?_
    refine g_jn (fun j44 => ∀ (x9 : Int), J (j44 x9) (am_kx (H177_a X y2 y3 s6 o) (E177_a X y2 y3 s6 o)) (Go X 1 177 44 [some (oR 12 0), some (vI y2), some (vI y3), none, some (vI x5)] [vI x9, vI x4] s6 o)) ?_ (fun j44 hj44 => ?_)
    ·
      intro x9
      refine g_p q177 1 45 [some (oR 12 0), some (vI y2), some (vI y3), none, some (vI x5)] [vI (jsub x4 x9)] rfl ?_
      refine g_top (fun v10 => ?_)
      refine g_p q177 1 46 [some (oR 12 0), some (vI y2), some (vI y3), some (vI v10), some (vI x5)] [] rfl ?_
      refine g_inc (fun v11 => [some (oR 12 0), some (vI y2), some (vI y3), some (vI v10), some (vI v11)]) q177 rfl rfl (fun _ => rfl) (fun v11 => ?_)
      refine g_p q177 1 10 [some (oR 12 0), some (vI y2), some (vI y3), some (vI v10), some (vI v11)] [] rfl ?_
      exact g_end (fun h => g_wk [true, true, true, true, true] rfl h)
    ·
      refine g_i2 q177 rfl rfl ?_ ?_
      ·
        refine g_p q177 1 44 [some (oR 12 0), some (vI y2), some (vI y3), some (vI x4), some (vI x5)] [vI 0, vI x4] rfl ?_
        exact g_wkJ [true, true, true, false, true] rfl (hj44 0)
      ·
        refine g_p q177 1 34 [some (oR 12 0), some (vI y2), some (vI y3), some (vI x4), some (vI x5)] [oR 12 0, vI x4] rfl ?_
        refine g_m (S := [aR 1564 0, vI x4]) (some (aR 1564 0)) q177 rfl rfl rfl (fun _ => rfl) rfl ?_
        refine g_p q177 1 39 [some (oR 12 0), some (vI y2), some (vI y3), some (vI x4), some (vI x5)] [vI x5, aR 1564 0, vI x4] rfl ?_
        refine g_ld q177 rfl rfl rfl rfl rfl rfl (fun v12 => ?_)
        refine g_p q177 1 44 [some (oR 12 0), some (vI y2), some (vI y3), some (vI x4), some (vI x5)] [vI v12, vI x4] rfl ?_
        exact g_wkJ [true, true, true, false, true] rfl (hj44 v12)
theorem g177 (X : X2) (a1 : Int) (a2 : Int) (s : S2) (o : Option (AV R2) × S2) : J (f177 a1 a2 s) (fun (r : Int) => o = (some (vI r), s)) (Go X 1 177 0 (am_loc (am_nl 177) [oR 12 0, vI a1, vI a2]) [] s o) := by
  show J _ _ (Go X 1 177 0 [some (oR 12 0), some (vI a1), some (vI a2), none, none] [] s o)
  unfold f177
  refine g_p q177 1 1 [some (oR 12 0), some (vI a1), some (vI a2), none, none] [oR 12 0] rfl ?_
  refine g_m (S := [aR 1561 0]) (some (aR 1561 0)) q177 rfl rfl rfl (fun _ => rfl) rfl ?_
  refine g_p q177 1 5 [some (oR 12 0), some (vI a1), some (vI a2), none, none] [vI a2, aR 1561 0] rfl ?_
  refine g_ld q177 rfl rfl rfl rfl rfl rfl (fun v1 => ?_)
  refine g_p q177 3 10 [some (oR 12 0), some (vI a1), some (vI a2), some (vI v1), some (vI 0)] [] rfl ?_
  refine g_wkJ [true, true, true, true, true] (L0 := [some (oR 12 0), some (vI a1), some (vI a2), some (vI v1), some (vI 0)]) rfl ?_
  refine g_itr (H177_a X a1 a2 s o) (E177_a X a1 a2 s o) (fun | (x4, x5) => g177_a X a1 a2 x4 x5 s o) ?_
  intro z13
  show J _ _ (Go X 1 177 52 [some (oR 12 0), some (vI a1), none, some (vI z13), none] [] s o)
  refine g_p q177 1 53 [some (oR 12 0), some (vI a1), none, some (vI z13), none] [oR 12 0] rfl ?_
  refine g_m (S := [aR 1566 0]) (some (aR 1566 0)) q177 rfl rfl rfl (fun _ => rfl) rfl ?_
  refine g_p q177 1 57 [some (oR 12 0), some (vI a1), none, some (vI z13), none] [vI a1, aR 1566 0] rfl ?_
  refine g_ld q177 rfl rfl rfl rfl rfl rfl (fun v14 => ?_)
  refine g_p q177 1 59 [some (oR 12 0), some (vI a1), none, some (vI z13), none] [vI (-1), vI v14] rfl ?_
  refine g_i2 q177 rfl rfl ?_ ?_
  ·
    refine g_p q177 1 92 [some (oR 12 0), some (vI a1), none, some (vI z13), none] [vI 0] rfl ?_
    exact g_ret q177 rfl rfl rfl
  ·
    refine g_p q177 2 64 [some (oR 12 0), some (vI a1), none, some (vI z13), none] [oR 12 0, vI z13] rfl ?_
    refine g_m (S := [aR 1564 0, vI z13]) (some (aR 1564 0)) q177 rfl rfl rfl (fun _ => rfl) rfl ?_
    refine g_p q177 1 68 [some (oR 12 0), some (vI a1), none, some (vI z13), none] [vI a1, aR 1564 0, vI z13] rfl ?_
    refine g_ld q177 rfl rfl rfl rfl rfl rfl (fun v15 => ?_)
    refine g_i2 q177 rfl rfl ?_ ?_
    ·
      refine g_p q177 1 92 [some (oR 12 0), some (vI a1), none, some (vI z13), none] [vI 0] rfl ?_
      exact g_ret q177 rfl rfl rfl
    ·
      refine g_p q177 1 73 [some (oR 12 0), some (vI a1), none, some (vI z13), none] [oR 12 0] rfl ?_
      refine g_m (S := [aR 1558 0]) (some (aR 1558 0)) q177 rfl rfl rfl (fun _ => rfl) rfl ?_
      refine g_p q177 1 77 [some (oR 12 0), some (vI a1), none, some (vI z13), none] [oR 12 0, aR 1558 0] rfl ?_
      refine g_m (S := [aR 1563 0, aR 1558 0]) (some (aR 1563 0)) q177 rfl rfl rfl (fun _ => rfl) rfl ?_
      refine g_p q177 1 81 [some (oR 12 0), some (vI a1), none, some (vI z13), none] [vI a1, aR 1563 0, aR 1558 0] rfl ?_
      refine g_ld q177 rfl rfl rfl rfl rfl rfl (fun v16 => ?_)
      refine g_ld q177 rfl rfl rfl rfl rfl rfl (fun v17 => ?_)
      refine g_p q177 1 84 [some (oR 12 0), some (vI a1), none, some (vI z13), none] [vI 2, vI v17] rfl ?_
      refine g_i2 q177 rfl rfl ?_ ?_
      ·
        refine g_p q177 1 92 [some (oR 12 0), some (vI a1), none, some (vI z13), none] [vI 0] rfl ?_
        exact g_ret q177 rfl rfl rfl
      ·
        refine g_p q177 2 92 [some (oR 12 0), some (vI a1), none, some (vI z13), none] [vI 1] rfl ?_
        exact g_ret q177 rfl rfl rfl
theorem q176 : am_cd 176 = am_c176 := rfl
theorem g176 (X : X2) (s : S2) (o : Option (AV R2) × S2) : J (f176 s) (fun (r : S2) => o = (none, r)) (Go X 5 176 0 (am_loc (am_nl 176) [oR 12 0]) [] s o) := by
  show J _ _ (Go X 5 176 0 [some (oR 12 0), none, none, none] [] s o)
  unfold f176
  refine g_p q176 3 3 [some (oR 12 0), none, none, none] [oR 12 0, vI 0, oR 12 0] rfl ?_
  refine g_m (S := [aR 1557 0, vI 0, oR 12 0]) (some (aR 1557 0)) q176 rfl rfl rfl (fun _ => rfl) rfl ?_
  refine g_p q176 1 7 [some (oR 12 0), none, none, none] [vI 4, aR 1557 0, vI 0, oR 12 0] rfl ?_
  refine g_ld q176 rfl rfl rfl rfl rfl rfl (fun v1 => ?_)
  refine g_p q176 2 10 [some (oR 12 0), none, none, none] [vI (jsub v1 1), vI 0, oR 12 0] rfl ?_
  refine g_cRI q176 rfl (g170 X 0 (jsub v1 1) s) rfl rfl rfl rfl rfl (fun r2 s3 => ?_)
  refine g_p q176 2 15 [some (oR 12 0), some (vI r2), none, none] [oR 12 0] rfl ?_
  refine g_cV q176 rfl (g163 X s3) rfl rfl rfl rfl rfl (fun s4 => ?_)
  refine g_p q176 1 19 [some (oR 12 0), some (vI r2), none, none] [oR 12 0] rfl ?_
  refine g_get q176 rfl rfl rfl (fun _ => rfl) (fun v5 => ?_)
  refine g_p q176 4 26 [some (oR 12 0), some (vI r2), some (vI v5), none] [oR 12 0, vI 0, oR 12 0] rfl ?_
  refine g_m (S := [aR 1557 0, vI 0, oR 12 0]) (some (aR 1557 0)) q176 rfl rfl rfl (fun _ => rfl) rfl ?_
  refine g_p q176 1 30 [some (oR 12 0), some (vI r2), some (vI v5), none] [vI 3, aR 1557 0, vI 0, oR 12 0] rfl ?_
  refine g_ld q176 rfl rfl rfl rfl rfl rfl (fun v6 => ?_)
  refine g_p q176 2 33 [some (oR 12 0), some (vI r2), some (vI v5), none] [vI (jsub v6 1), vI 0, oR 12 0] rfl ?_
  refine g_cRI q176 rfl (g170 X 0 (jsub v6 1) s4) rfl rfl rfl rfl rfl (fun r7 s8 => ?_)
  refine g_p q176 2 38 [some (oR 12 0), some (vI r2), some (vI v5), some (vI r7)] [oR 12 0] rfl ?_
  refine g_get q176 rfl rfl rfl (fun _ => rfl) (fun v9 => ?_)
  refine g_i1 q176 rfl rfl ?_ ?_
  ·
    refine g_p q176 3 48 [some (oR 12 0), some (vI r2), some (vI v5), some (vI r7)] [vI r7, vI r2, oR 12 0] rfl ?_
    refine g_cPI q176 rfl (g177 X r2 r7 s8) rfl rfl rfl rfl rfl (fun r10 => ?_)
    refine g_i1 q176 rfl rfl ?_ ?_
    ·
      refine g_p q176 1 62 [some (oR 12 0), some (vI r2), some (vI v5), some (vI r7)] [oR 12 0] rfl ?_
      refine g_m (S := [aR 1566 0]) (some (aR 1566 0)) q176 rfl rfl rfl (fun _ => rfl) rfl ?_
      refine g_p q176 2 67 [some (oR 12 0), some (vI r2), some (vI v5), some (vI r7)] [vI r7, vI r2, aR 1566 0] rfl ?_
      refine g_sto q176 rfl rfl rfl rfl (fun s11 => ?_)
      refine g_p q176 1 69 [some (oR 12 0), some (vI r2), some (vI v5), some (vI r7)] [oR 12 0] rfl ?_
      refine g_m (S := [aR 1558 0]) (some (aR 1558 0)) q176 rfl rfl rfl (fun _ => rfl) rfl ?_
      refine g_p q176 1 73 [some (oR 12 0), some (vI r2), some (vI v5), some (vI r7)] [oR 12 0, aR 1558 0] rfl ?_
      refine g_m (S := [aR 1563 0, aR 1558 0]) (some (aR 1563 0)) q176 rfl rfl rfl (fun _ => rfl) rfl ?_
      refine g_p q176 1 77 [some (oR 12 0), some (vI r2), some (vI v5), some (vI r7)] [vI r2, aR 1563 0, aR 1558 0] rfl ?_
      refine g_ld q176 rfl rfl rfl rfl rfl rfl (fun v12 => ?_)
      refine g_p q176 1 79 [some (oR 12 0), some (vI r2), some (vI v5), some (vI r7)] [vI v12, aR 1558 0, vI v12, aR 1558 0] rfl ?_
      refine g_ld q176 rfl rfl rfl rfl rfl rfl (fun v13 => ?_)
      refine g_p q176 2 82 [some (oR 12 0), some (vI r2), some (vI v5), some (vI r7)] [vI (jsub v13 2), vI v12, aR 1558 0] rfl ?_
      refine g_sto q176 rfl rfl rfl rfl (fun s14 => ?_)
      exact g_retV q176 rfl rfl
    ·
      refine g_p q176 3 57 [some (oR 12 0), some (vI r2), some (vI v5), some (vI r7)] [vI v5, vI 1, oR 12 0] rfl ?_
      refine g_cV q176 rfl (g167 X 1 v5 s8) rfl rfl rfl rfl rfl (fun s15 => ?_)
      exact g_retV q176 rfl rfl
  ·
    exact g_retV q176 rfl rfl
theorem q169 : am_cd 169 = am_c169 := rfl
theorem g169 (X : X2) (a1 : Int) (s : S2) (o : Option (AV R2) × S2) : J (f169 a1 s) (fun (r : S2) => o = (none, r)) (Go X 6 169 0 (am_loc (am_nl 169) [oR 12 0, vI a1]) [] s o) := by
  show J _ _ (Go X 6 169 0 [some (oR 12 0), some (vI a1), none] [] s o)
  unfold f169
  refine g_p q169 1 1 [some (oR 12 0), some (vI a1), none] [vI a1] rfl ?_
  refine g_sw q169 rfl ?_
  refine g_swc ?_ ?_
  ·
    refine g_p q169 1 37 [some (oR 12 0), some (vI a1), none] [oR 12 0] rfl ?_
    refine g_m (S := [aR 1557 0]) (some (aR 1557 0)) q169 rfl rfl rfl (fun _ => rfl) rfl ?_
    refine g_p q169 4 44 [some (oR 12 0), some (vI a1), none] [vI 5, vI 1, oR 12 0, vI 0, aR 1557 0] rfl ?_
    refine g_cRI q169 rfl (g170 X 1 5 s) rfl rfl rfl rfl rfl (fun r1 s2 => ?_)
    refine g_sto q169 rfl rfl rfl rfl (fun s3 => ?_)
    refine g_p q169 1 49 [some (oR 12 0), some (vI a1), none] [oR 12 0] rfl ?_
    refine g_m (S := [aR 1557 0]) (some (aR 1557 0)) q169 rfl rfl rfl (fun _ => rfl) rfl ?_
    refine g_p q169 4 57 [some (oR 12 0), some (vI a1), none] [vI 20, vI 1, oR 12 0, vI 1, aR 1557 0] rfl ?_
    refine g_cRI q169 rfl (g170 X 1 20 s3) rfl rfl rfl rfl rfl (fun r4 s5 => ?_)
    refine g_sto q169 rfl rfl rfl rfl (fun s6 => ?_)
    refine g_p q169 1 164 [some (oR 12 0), some (vI a1), none] [] rfl ?_
    exact g_retV q169 rfl rfl
  ·
    refine g_swc ?_ ?_
    ·
      refine g_p q169 1 65 [some (oR 12 0), some (vI a1), none] [oR 12 0] rfl ?_
      refine g_m (S := [aR 1558 0]) (some (aR 1558 0)) q169 rfl rfl rfl (fun _ => rfl) rfl ?_
      refine g_p q169 1 69 [some (oR 12 0), some (vI a1), none] [oR 12 0, aR 1558 0] rfl ?_
      refine g_m (S := [aR 1557 0, aR 1558 0]) (some (aR 1557 0)) q169 rfl rfl rfl (fun _ => rfl) rfl ?_
      refine g_p q169 1 73 [some (oR 12 0), some (vI a1), none] [vI 2, aR 1557 0, aR 1558 0] rfl ?_
      refine g_ld q169 rfl rfl rfl rfl rfl rfl (fun v7 => ?_)
      refine g_p q169 3 78 [some (oR 12 0), some (vI a1), none] [vI 20, vI 0, oR 12 0, vI v7, aR 1558 0] rfl ?_
      refine g_cRI q169 rfl (g170 X 0 20 s) rfl rfl rfl rfl rfl (fun r8 s9 => ?_)
      refine g_sto q169 rfl rfl rfl rfl (fun s10 => ?_)
      refine g_p q169 1 83 [some (oR 12 0), some (vI a1), none] [oR 12 0] rfl ?_
      refine g_m (S := [aR 1557 0]) (some (aR 1557 0)) q169 rfl rfl rfl (fun _ => rfl) rfl ?_
      refine g_p q169 2 88 [some (oR 12 0), some (vI a1), none] [vI 2, aR 1557 0, vI 2, aR 1557 0] rfl ?_
      refine g_ld q169 rfl rfl rfl rfl rfl rfl (fun v11 => ?_)
      refine g_p q169 2 91 [some (oR 12 0), some (vI a1), none] [vI (jadd v11 1), vI 2, aR 1557 0] rfl ?_
      refine g_sto q169 rfl rfl rfl rfl (fun s12 => ?_)
      refine g_p q169 1 164 [some (oR 12 0), some (vI a1), none] [] rfl ?_
      exact g_retV q169 rfl rfl
    ·
      refine g_swc ?_ ?_
      ·
        refine g_p q169 1 96 [some (oR 12 0), some (vI a1), none] [oR 12 0] rfl ?_
        refine g_cV q169 rfl (g174 X s) rfl rfl rfl rfl rfl (fun s13 => ?_)
        refine g_p q169 1 164 [some (oR 12 0), some (vI a1), none] [] rfl ?_
        exact g_retV q169 rfl rfl
      ·
        refine g_swc ?_ ?_
        ·
          refine g_p q169 1 103 [some (oR 12 0), some (vI a1), none] [oR 12 0] rfl ?_
          refine g_cV q169 rfl (g175 X s) rfl rfl rfl rfl rfl (fun s14 => ?_)
          refine g_p q169 1 164 [some (oR 12 0), some (vI a1), none] [] rfl ?_
          exact g_retV q169 rfl rfl
        ·
          refine g_swc ?_ ?_
          ·
            refine g_p q169 1 110 [some (oR 12 0), some (vI a1), none] [oR 12 0] rfl ?_
            refine g_cV q169 rfl (g176 X s) rfl rfl rfl rfl rfl (fun s15 => ?_)
            refine g_p q169 1 164 [some (oR 12 0), some (vI a1), none] [] rfl ?_
            exact g_retV q169 rfl rfl
          ·
            refine g_swe ?_
            refine g_p q169 1 117 [some (oR 12 0), some (vI a1), none] [oR 12 0] rfl ?_
            refine g_m (S := [aR 1557 0]) (some (aR 1557 0)) q169 rfl rfl rfl (fun _ => rfl) rfl ?_
            refine g_p q169 1 121 [some (oR 12 0), some (vI a1), none] [vI 5, aR 1557 0] rfl ?_
            refine g_ld q169 rfl rfl rfl rfl rfl rfl (fun v16 => ?_)
            refine g_p q169 2 124 [some (oR 12 0), some (vI a1), some (vI v16)] [oR 12 0] rfl ?_
            refine g_m (S := [aR 1567 0]) (some (aR 1567 0)) q169 rfl rfl rfl (fun _ => rfl) rfl ?_
            refine g_p q169 4 132 [some (oR 12 0), some (vI a1), some (vI v16)] [vI 99, vI 0, oR 12 0, vI v16, aR 1567 0] rfl ?_
            refine g_cRI q169 rfl (g170 X 0 99 s) rfl rfl rfl rfl rfl (fun r17 s18 => ?_)
            refine g_sto q169 rfl rfl rfl rfl (fun s19 => ?_)
            refine g_p q169 1 137 [some (oR 12 0), some (vI a1), some (vI v16)] [oR 12 0] rfl ?_
            refine g_m (S := [aR 1568 0]) (some (aR 1568 0)) q169 rfl rfl rfl (fun _ => rfl) rfl ?_
            refine g_p q169 3 143 [some (oR 12 0), some (vI a1), some (vI v16)] [oR 12 0, oR 12 0, vI v16, aR 1568 0] rfl ?_
            refine g_m (S := [aR 1567 0, oR 12 0, vI v16, aR 1568 0]) (some (aR 1567 0)) q169 rfl rfl rfl (fun _ => rfl) rfl ?_
            refine g_p q169 1 147 [some (oR 12 0), some (vI a1), some (vI v16)] [vI v16, aR 1567 0, oR 12 0, vI v16, aR 1568 0] rfl ?_
            refine g_ld q169 rfl rfl rfl rfl rfl rfl (fun v20 => ?_)
            refine g_p q169 1 150 [some (oR 12 0), some (vI a1), some (vI v16)] [vI 99, vI v20, oR 12 0, vI v16, aR 1568 0] rfl ?_
            refine g_cRI q169 rfl (g170 X v20 99 s19) rfl rfl rfl rfl rfl (fun r21 s22 => ?_)
            refine g_sto q169 rfl rfl rfl rfl (fun s23 => ?_)
            refine g_p q169 1 155 [some (oR 12 0), some (vI a1), some (vI v16)] [oR 12 0] rfl ?_
            refine g_m (S := [aR 1557 0]) (some (aR 1557 0)) q169 rfl rfl rfl (fun _ => rfl) rfl ?_
            refine g_p q169 2 160 [some (oR 12 0), some (vI a1), some (vI v16)] [vI 5, aR 1557 0, vI 5, aR 1557 0] rfl ?_
            refine g_ld q169 rfl rfl rfl rfl rfl rfl (fun v24 => ?_)
            refine g_p q169 2 163 [some (oR 12 0), some (vI a1), some (vI v16)] [vI (jadd v24 1), vI 5, aR 1557 0] rfl ?_
            refine g_sto q169 rfl rfl rfl rfl (fun s25 => ?_)
            exact g_retV q169 rfl rfl
theorem q162 : am_cd 162 = am_c162 := rfl
def H162_a (X : X2) (y3 : Int) (y4 : Int) (s6 : S2) (o : Option (AV R2) × S2) (a : Int) : Prop := Go X 7 162 11 [some (oR 12 0), some (vI y3), some (vI y4), some (vI a)] [] s6 o
def E162_a (X : X2) (y3 : Int) (y4 : Int) (s6 : S2) (o : Option (AV R2) × S2) : (Int) → Prop := (fun (r : Int) => Go X 7 162 34 [some (oR 12 0), some (vI y3), some (vI y4), some (vI r)] [] s6 o)
theorem g162_a (X : X2) (y3 : Int) (y4 : Int) (x5 : Int) (s6 : S2) (o : Option (AV R2) × S2) : J (f162_a x5 s6) (am_kx (H162_a X y3 y4 s6 o) (E162_a X y3 y4 s6 o)) (Go X 7 162 11 [some (oR 12 0), some (vI y3), some (vI y4), some (vI x5)] [] s6 o) := by
  unfold f162_a
  refine g_p q162 2 14 [some (oR 12 0), some (vI y3), some (vI y4), some (vI x5)] [vI 6, vI x5] rfl ?_
  refine g_i2 q162 rfl rfl ?_ ?_
  ·
    exact g_end (fun h => g_wk [true, true, true, true] rfl h)
  ·
    refine g_p q162 2 19 [some (oR 12 0), some (vI y3), some (vI y4), some (vI x5)] [vI x5, oR 12 0] rfl ?_
    refine g_cPN q162 rfl (g165 X x5 s6) rfl rfl rfl rfl rfl (fun r7 => ?_)
    refine g_gd fun hr7 => ?_
    refine g_cPI q162 rfl (g166 X r7 s6 hr7) rfl rfl rfl rfl rfl (fun r8 => ?_)
    refine g_i1 q162 rfl rfl ?_ ?_
    ·
      exact g_end (fun h => g_wk [true, true, true, true] rfl h)
    ·
      refine g_inc (fun v9 => [some (oR 12 0), some (vI y3), some (vI y4), some (vI v9)]) q162 rfl rfl (fun _ => rfl) (fun v9 => ?_)
      refine g_p q162 1 11 [some (oR 12 0), some (vI y3), some (vI y4), some (vI v9)] [] rfl ?_
      exact g_end (fun h => g_wk [true, true, true, true] rfl h)
theorem g162 (X : X2) (a1 : Int) (s : S2) (o : Option (AV R2) × S2) : J (f162 a1 s) (fun (r : S2) => o = (none, r)) (Go X 7 162 0 (am_loc (am_nl 162) [oR 12 0, vI a1]) [] s o) := by
  show J _ _ (Go X 7 162 0 [some (oR 12 0), some (vI a1), none, none] [] s o)
  unfold f162
  refine g_p q162 1 1 [some (oR 12 0), some (vI a1), none, none] [oR 12 0] rfl ?_
  refine g_cV q162 rfl (g163 X s) rfl rfl rfl rfl rfl (fun s1 => ?_)
  refine g_p q162 1 5 [some (oR 12 0), some (vI a1), none, none] [oR 12 0] rfl ?_
  refine g_get q162 rfl rfl rfl (fun _ => rfl) (fun v2 => ?_)
  refine g_p q162 3 11 [some (oR 12 0), some (vI a1), some (vI v2), some (vI 0)] [] rfl ?_
  refine g_wkJ [true, true, true, true] (L0 := [some (oR 12 0), some (vI a1), some (vI v2), some (vI 0)]) rfl ?_
  refine g_itr (H162_a X a1 v2 s1 o) (E162_a X a1 v2 s1 o) (fun x5 => g162_a X a1 v2 x5 s1 o) ?_
  intro z10
  show J _ _ (Go X 7 162 34 [some (oR 12 0), some (vI a1), some (vI v2), some (vI z10)] [] s1 o)
  refine g_p q162 2 37 [some (oR 12 0), some (vI a1), some (vI v2), some (vI z10)] [vI 6, vI z10] rfl ?_
  refine g_i2 q162 rfl rfl ?_ ?_
  ·
    refine g_p q162 3 50 [some (oR 12 0), some (vI a1), some (vI v2), some (vI z10)] [vI a1, vI z10, oR 12 0] rfl ?_
    refine g_cPI q162 rfl (g168 X z10 a1 s1) rfl rfl rfl rfl rfl (fun r11 => ?_)
    refine g_i1 q162 rfl rfl ?_ ?_
    ·
      refine g_p q162 2 65 [some (oR 12 0), some (vI a1), some (vI v2), some (vI z10)] [oR 12 0, oR 12 0] rfl ?_
      refine g_get q162 rfl rfl rfl (fun _ => rfl) (fun v12 => ?_)
      refine g_p q162 1 69 [some (oR 12 0), some (vI a1), some (vI v2), some (vI z10)] [vI z10, vI v12, oR 12 0] rfl ?_
      refine g_cPN q162 rfl (g165 X z10 s1) rfl rfl rfl rfl rfl (fun r13 => ?_)
      refine g_gd fun hr13 => ?_
      refine g_cPI q162 rfl (g274 X r13 s1 hr13) rfl rfl rfl rfl rfl (fun r14 => ?_)
      refine g_p q162 1 76 [some (oR 12 0), some (vI a1), some (vI v2), some (vI z10)] [vI (jadd v12 r14), oR 12 0] rfl ?_
      refine g_put q162 rfl rfl rfl (fun _ => rfl) (fun s15 => ?_)
      refine g_p q162 2 81 [some (oR 12 0), some (vI a1), some (vI v2), some (vI z10)] [vI z10, oR 12 0] rfl ?_
      refine g_cV q162 rfl (g169 X z10 s15) rfl rfl rfl rfl rfl (fun s16 => ?_)
      exact g_retV q162 rfl rfl
    ·
      refine g_p q162 3 59 [some (oR 12 0), some (vI a1), some (vI v2), some (vI z10)] [vI v2, vI 4, oR 12 0] rfl ?_
      refine g_cV q162 rfl (g167 X 4 v2 s1) rfl rfl rfl rfl rfl (fun s17 => ?_)
      exact g_retV q162 rfl rfl
  ·
    refine g_p q162 3 43 [some (oR 12 0), some (vI a1), some (vI v2), some (vI z10)] [vI v2, vI 0, oR 12 0] rfl ?_
    refine g_cV q162 rfl (g167 X 0 v2 s1) rfl rfl rfl rfl rfl (fun s18 => ?_)
    exact g_retV q162 rfl rfl
theorem q178 : am_cd 178 = am_c178 := rfl
theorem g178 (X : X2) (s : S2) (o : Option (AV R2) × S2) : J (f178 s) (fun (r : Int × S2) => o = (some (vI r.1), r.2)) (Go X 3 178 0 (am_loc (am_nl 178) [oR 12 0]) [] s o) := by
  show J _ _ (Go X 3 178 0 [some (oR 12 0), none] [] s o)
  unfold f178
  refine g_p q178 1 1 [some (oR 12 0), none] [oR 12 0] rfl ?_
  refine g_cV q178 rfl (g163 X s) rfl rfl rfl rfl rfl (fun s1 => ?_)
  refine g_p q178 1 5 [some (oR 12 0), none] [oR 12 0] rfl ?_
  refine g_get q178 rfl rfl rfl (fun _ => rfl) (fun v2 => ?_)
  refine g_jn (fun j40 => ∀ (s3 : S2), J (j40 s3) (fun (r : Int × S2) => o = (some (vI r.1), r.2)) (Go X 3 178 40 [some (oR 12 0), none] [] s3 o)) ?_ (fun j40 hj40 => ?_)
  ·
    intro s3
    refine g_p q178 1 41 [some (oR 12 0), none] [oR 12 0] rfl ?_
    refine g_get q178 rfl rfl rfl (fun _ => rfl) (fun v4 => ?_)
    refine g_jn (fun j63 => ∀ (x5 : Int), J (j63 x5) (fun (r : Int × S2) => o = (some (vI r.1), r.2)) (Go X 3 178 63 [some (oR 12 0), none] [vI x5] s3 o)) ?_ (fun j63 hj63 => ?_)
    ·
      intro x5
      refine g_p q178 3 66 [some (oR 12 0), some (vI x5)] [oR 12 0, oR 12 0] rfl ?_
      refine g_get q178 rfl rfl rfl (fun _ => rfl) (fun v6 => ?_)
      refine g_p q178 2 71 [some (oR 12 0), some (vI x5)] [vI (jadd v6 1), oR 12 0] rfl ?_
      refine g_put q178 rfl rfl rfl (fun _ => rfl) (fun s7 => ?_)
      refine g_p q178 1 75 [some (oR 12 0), some (vI x5)] [vI x5] rfl ?_
      exact g_retb2 q178 rfl rfl
    ·
      refine g_jn (fun j62 => ∀ (_ : Unit), J (j62 ()) (fun (r : Int × S2) => o = (some (vI r.1), r.2)) (Go X 3 178 62 [some (oR 12 0), none] [] s3 o)) ?_ (fun j62 hj62 => ?_)
      ·
        intro _
        refine g_p q178 1 63 [some (oR 12 0), none] [vI 0] rfl ?_
        exact g_wkJ [true, false] rfl (hj63 0)
      ·
        refine g_i1 q178 rfl rfl ?_ ?_
        ·
          exact g_wkJ [true, false] rfl (hj62 ())
        ·
          refine g_p q178 1 48 [some (oR 12 0), none] [oR 12 0] rfl ?_
          refine g_get q178 rfl rfl rfl (fun _ => rfl) (fun v8 => ?_)
          refine g_p q178 1 52 [some (oR 12 0), none] [oR 12 0, vI v8] rfl ?_
          refine g_get q178 rfl rfl rfl (fun _ => rfl) (fun v9 => ?_)
          refine g_i2 q178 rfl rfl ?_ ?_
          ·
            exact g_wkJ [true, false] rfl (hj62 ())
          ·
            refine g_p q178 2 63 [some (oR 12 0), none] [vI 1] rfl ?_
            exact g_wkJ [true, false] rfl (hj63 1)
  ·
    refine g_i1 q178 rfl rfl ?_ ?_
    ·
      exact g_wkJ [true, false] rfl (hj40 s1)
    ·
      refine g_p q178 1 12 [some (oR 12 0), none] [oR 12 0] rfl ?_
      refine g_get q178 rfl rfl rfl (fun _ => rfl) (fun v10 => ?_)
      refine g_p q178 1 16 [some (oR 12 0), none] [oR 12 0, vI v10] rfl ?_
      refine g_get q178 rfl rfl rfl (fun _ => rfl) (fun v11 => ?_)
      refine g_i2 q178 rfl rfl ?_ ?_
      ·
        exact g_wkJ [true, false] rfl (hj40 s1)
      ·
        refine g_p q178 1 23 [some (oR 12 0), none] [oR 12 0] rfl ?_
        refine g_cPI q178 rfl (g164 X s1) rfl rfl rfl rfl rfl (fun r12 => ?_)
        refine g_p q178 1 28 [some (oR 12 0), none] [vI 59, vI r12] rfl ?_
        refine g_i2 q178 rfl rfl ?_ ?_
        ·
          exact g_wkJ [true, false] rfl (hj40 s1)
        ·
          refine g_p q178 3 34 [some (oR 12 0), none] [oR 12 0, vI 0, oR 12 0] rfl ?_
          refine g_get q178 rfl rfl rfl (fun _ => rfl) (fun v13 => ?_)
          refine g_cV q178 rfl (g167 X 0 v13 s1) rfl rfl rfl rfl rfl (fun s14 => ?_)
          exact g_wkJ [true, false] rfl (hj40 s14)
theorem q160 : am_cd 160 = am_c160 := rfl
def H160_a (X : X2) (o : Option (AV R2) × S2) (a : Int × S2) : Prop := Go X 8 160 6 [some (oR 12 0), some (vI (a.1)), none] [] (a.2) o
def E160_a (X : X2) (o : Option (AV R2) × S2) : (S2) → Prop := (fun (r : S2) => Go X 8 160 25 [some (oR 12 0), none, none] [] r o)
theorem g160_a (X : X2) (x2 : Int) (s3 : S2) (o : Option (AV R2) × S2) : J (f160_a x2 s3) (am_kx (H160_a X o) (E160_a X o)) (Go X 8 160 6 [some (oR 12 0), some (vI x2), none] [] s3 o) := by
  unfold f160_a
  refine g_p q160 2 9 [some (oR 12 0), some (vI x2), none] [vI 7, vI x2] rfl ?_
  refine g_i2 q160 rfl rfl ?_ ?_
  ·
    exact g_end (fun h => g_wk [true, false, false] rfl h)
  ·
    refine g_p q160 1 13 [some (oR 12 0), some (vI x2), none] [oR 12 0] rfl ?_
    refine g_m (S := [aR 1557 0]) (some (aR 1557 0)) q160 rfl rfl rfl (fun _ => rfl) rfl ?_
    refine g_p q160 2 18 [some (oR 12 0), some (vI x2), none] [vI 0, vI x2, aR 1557 0] rfl ?_
    refine g_sto q160 rfl rfl rfl rfl (fun s4 => ?_)
    refine g_inc (fun v5 => [some (oR 12 0), some (vI v5), none]) q160 rfl rfl (fun _ => rfl) (fun v5 => ?_)
    refine g_p q160 1 6 [some (oR 12 0), some (vI v5), none] [] rfl ?_
    exact g_end (fun h => g_wk [true, true, false] rfl h)
def H160_b (X : X2) (o : Option (AV R2) × S2) (a : Int × Int × S2) : Prop := Go X 8 160 29 [some (oR 12 0), some (vI (a.1)), some (vI (a.2.1))] [] (a.2.2) o
def E160_b (X : X2) (o : Option (AV R2) × S2) : (S2) → Prop := (fun (r : S2) => Go X 8 160 49 [some (oR 12 0), none, none] [] r o)
theorem g160_b (X : X2) (x7 : Int) (x8 : Int) (s9 : S2) (o : Option (AV R2) × S2) : J (f160_b x7 x8 s9) (am_kx (H160_b X o) (E160_b X o)) (Go X 8 160 29 [some (oR 12 0), some (vI x7), some (vI x8)] [] s9 o) := by
  unfold f160_b
  refine g_p q160 1 30 [some (oR 12 0), some (vI x7), some (vI x8)] [vI x8] rfl ?_
  refine g_i1 q160 rfl rfl ?_ ?_
  ·
    exact g_end (fun h => g_wk [true, false, false] rfl h)
  ·
    refine g_p q160 2 35 [some (oR 12 0), some (vI x7), some (vI x8)] [vI x7, oR 12 0] rfl ?_
    refine g_cV q160 rfl (g162 X x7 s9) rfl rfl rfl rfl rfl (fun s10 => ?_)
    refine g_inc (fun v11 => [some (oR 12 0), some (vI v11), some (vI x8)]) q160 rfl rfl (fun _ => rfl) (fun v11 => ?_)
    refine g_p q160 1 42 [some (oR 12 0), some (vI v11), some (vI x8)] [oR 12 0] rfl ?_
    refine g_cRI q160 rfl (g178 X s10) rfl rfl rfl rfl rfl (fun r12 s13 => ?_)
    refine g_p q160 2 29 [some (oR 12 0), some (vI v11), some (vI r12)] [] rfl ?_
    exact g_end (fun h => g_wk [true, true, true] rfl h)
theorem g160 (X : X2) (s : S2) (o : Option (AV R2) × S2) : J (f160 s) (fun (r : S2) => o = (none, r)) (Go X 8 160 0 (am_loc (am_nl 160) [oR 12 0]) [] s o) := by
  show J _ _ (Go X 8 160 0 [some (oR 12 0), none, none] [] s o)
  unfold f160
  refine g_p q160 1 1 [some (oR 12 0), none, none] [oR 12 0] rfl ?_
  refine g_cV q160 rfl (g161 X s) rfl rfl rfl rfl rfl (fun s1 => ?_)
  refine g_p q160 2 6 [some (oR 12 0), some (vI 0), none] [] rfl ?_
  refine g_wkJ [true, true, false] (L0 := [some (oR 12 0), some (vI 0), none]) rfl ?_
  refine g_itr (H160_a X o) (E160_a X o) (fun | (x2, s3) => g160_a X x2 s3 o) ?_
  intro s6
  show J _ _ (Go X 8 160 25 [some (oR 12 0), none, none] [] s6 o)
  refine g_p q160 4 29 [some (oR 12 0), some (vI 0), some (vI 1)] [] rfl ?_
  refine g_wkJ [true, true, true] (L0 := [some (oR 12 0), some (vI 0), some (vI 1)]) rfl ?_
  refine g_itr (H160_b X o) (E160_b X o) (fun | (x7, x8, s9) => g160_b X x7 x8 s9 o) ?_
  intro s14
  show J _ _ (Go X 8 160 49 [some (oR 12 0), none, none] [] s14 o)
  refine g_p q160 2 51 [some (oR 12 0), none, none] [vI 0, oR 12 0] rfl ?_
  refine g_put q160 rfl rfl rfl (fun _ => rfl) (fun s15 => ?_)
  exact g_retV q160 rfl rfl
theorem q179 : am_cd 179 = am_c179 := rfl
def H179_a (X : X2) (y1 : Nat) (y2 : Nat) (o : Option (AV R2) × S2) (a : Int × S2) : Prop := Go X 1 179 2 [some (aR y1 0), some (aR y2 0), some (vI (a.1))] [] (a.2) o
def E179_a (X : X2) (y1 : Nat) (y2 : Nat) (o : Option (AV R2) × S2) : (S2) → Prop := (fun (r : S2) => Go X 1 179 20 [none, none, none] [] r o)
theorem g179_a (X : X2) (y1 : Nat) (y2 : Nat) (x3 : Int) (s4 : S2) (hy1 : am_rw y1) (hy2 : am_rw y2) (o : Option (AV R2) × S2) : J (f179_a y1 y2 x3 s4) (am_kx (H179_a X y1 y2 o) (E179_a X y1 y2 o)) (Go X 1 179 2 [some (aR y1 0), some (aR y2 0), some (vI x3)] [] s4 o) := by
  unfold f179_a
  refine g_p q179 2 4 [some (aR y1 0), some (aR y2 0), some (vI x3)] [aR y1 0, vI x3] rfl ?_
  refine g_m (S := [vI ((am_ln y1 : Nat) : Int), vI x3]) (some (vI ((am_ln y1 : Nat) : Int))) q179 rfl rfl rfl (fun _ => m2_lenR hy1) rfl ?_
  refine g_i2 q179 rfl rfl ?_ ?_
  ·
    exact g_end (fun h => g_wk [false, false, false] rfl h)
  ·
    refine g_p q179 4 12 [some (aR y1 0), some (aR y2 0), some (vI x3)] [vI x3, aR y1 0, vI x3, aR y2 0] rfl ?_
    refine g_ld q179 rfl rfl rfl hy1.1 rfl hy1.2 (fun v5 => ?_)
    refine g_sto q179 rfl rfl rfl hy2.1 (fun s6 => ?_)
    refine g_inc (fun v7 => [some (aR y1 0), some (aR y2 0), some (vI v7)]) q179 rfl rfl (fun _ => rfl) (fun v7 => ?_)
    refine g_p q179 1 2 [some (aR y1 0), some (aR y2 0), some (vI v7)] [] rfl ?_
    exact g_end (fun h => g_wk [true, true, true] rfl h)
theorem g179 (X : X2) (a0 : Nat) (a1 : Nat) (s : S2) (ha0 : am_rw a0) (ha1 : am_rw a1) (o : Option (AV R2) × S2) : J (f179 a0 a1 s) (fun (r : S2) => o = (none, r)) (Go X 1 179 0 (am_loc (am_nl 179) [aR a0 0, aR a1 0]) [] s o) := by
  show J _ _ (Go X 1 179 0 [some (aR a0 0), some (aR a1 0), none] [] s o)
  unfold f179
  refine g_p q179 2 2 [some (aR a0 0), some (aR a1 0), some (vI 0)] [] rfl ?_
  refine g_wkJ [true, true, true] (L0 := [some (aR a0 0), some (aR a1 0), some (vI 0)]) rfl ?_
  refine g_itr (H179_a X a0 a1 o) (E179_a X a0 a1 o) (fun | (x3, s4) => g179_a X a0 a1 x3 s4 ha0 ha1 o) ?_
  intro s8
  show J _ _ (Go X 1 179 20 [none, none, none] [] s8 o)
  exact g_retV q179 rfl rfl
theorem q180 : am_cd 180 = am_c180 := rfl
def H180_a (X : X2) (o : Option (AV R2) × S2) (a : Int × S2) : Prop := Go X 2 180 51 [some (oR 12 0), some (vI (a.1))] [] (a.2) o
def E180_a (X : X2) (o : Option (AV R2) × S2) : (S2) → Prop := (fun (r : S2) => Go X 2 180 69 [some (oR 12 0), none] [] r o)
theorem g180_a (X : X2) (x6 : Int) (s7 : S2) (o : Option (AV R2) × S2) : J (f180_a x6 s7) (am_kx (H180_a X o) (E180_a X o)) (Go X 2 180 51 [some (oR 12 0), some (vI x6)] [] s7 o) := by
  unfold f180_a
  refine g_p q180 2 53 [some (oR 12 0), some (vI x6)] [vI 4, vI x6] rfl ?_
  refine g_i2 q180 rfl rfl ?_ ?_
  ·
    exact g_end (fun h => g_wk [true, false] rfl h)
  ·
    refine g_p q180 1 57 [some (oR 12 0), some (vI x6)] [oR 12 0] rfl ?_
    refine g_m (S := [aR 1539 0]) (some (aR 1539 0)) q180 rfl rfl rfl (fun _ => rfl) rfl ?_
    refine g_p q180 2 62 [some (oR 12 0), some (vI x6)] [vI 0, vI x6, aR 1539 0] rfl ?_
    refine g_sto q180 rfl rfl rfl rfl (fun s8 => ?_)
    refine g_inc (fun v9 => [some (oR 12 0), some (vI v9)]) q180 rfl rfl (fun _ => rfl) (fun v9 => ?_)
    refine g_p q180 1 51 [some (oR 12 0), some (vI v9)] [] rfl ?_
    exact g_end (fun h => g_wk [true, true] rfl h)
def H180_b (X : X2) (o : Option (AV R2) × S2) (a : Int × S2) : Prop := Go X 2 180 71 [some (oR 12 0), some (vI (a.1))] [] (a.2) o
def E180_b (X : X2) (o : Option (AV R2) × S2) : (S2) → Prop := (fun (r : S2) => Go X 2 180 90 [none, none] [] r o)
theorem g180_b (X : X2) (x11 : Int) (s12 : S2) (o : Option (AV R2) × S2) : J (f180_b x11 s12) (am_kx (H180_b X o) (E180_b X o)) (Go X 2 180 71 [some (oR 12 0), some (vI x11)] [] s12 o) := by
  unfold f180_b
  refine g_p q180 2 74 [some (oR 12 0), some (vI x11)] [vI 6, vI x11] rfl ?_
  refine g_i2 q180 rfl rfl ?_ ?_
  ·
    exact g_end (fun h => g_wk [false, false] rfl h)
  ·
    refine g_p q180 1 78 [some (oR 12 0), some (vI x11)] [oR 12 0] rfl ?_
    refine g_m (S := [aR 1544 0]) (some (aR 1544 0)) q180 rfl rfl rfl (fun _ => rfl) rfl ?_
    refine g_p q180 2 83 [some (oR 12 0), some (vI x11)] [vI (-1), vI x11, aR 1544 0] rfl ?_
    refine g_sto q180 rfl rfl rfl rfl (fun s13 => ?_)
    refine g_inc (fun v14 => [some (oR 12 0), some (vI v14)]) q180 rfl rfl (fun _ => rfl) (fun v14 => ?_)
    refine g_p q180 1 71 [some (oR 12 0), some (vI v14)] [] rfl ?_
    exact g_end (fun h => g_wk [true, true] rfl h)
theorem g180 (X : X2) (s : S2) (o : Option (AV R2) × S2) : J (f180 s) (fun (r : S2) => o = (none, r)) (Go X 2 180 0 (am_loc (am_nl 180) [oR 12 0]) [] s o) := by
  show J _ _ (Go X 2 180 0 [some (oR 12 0), none] [] s o)
  unfold f180
  refine g_p q180 1 1 [some (oR 12 0), none] [oR 12 0] rfl ?_
  refine g_m (S := [aR 1554 0]) (some (aR 1554 0)) q180 rfl rfl rfl (fun _ => rfl) rfl ?_
  refine g_p q180 1 5 [some (oR 12 0), none] [oR 12 0, aR 1554 0] rfl ?_
  refine g_m (S := [aR 1538 0, aR 1554 0]) (some (aR 1538 0)) q180 rfl rfl rfl (fun _ => rfl) rfl ?_
  refine g_cV q180 rfl (g179 X 1554 1538 s ⟨rfl, rfl⟩ ⟨rfl, rfl⟩) rfl rfl rfl rfl rfl (fun s1 => ?_)
  refine g_p q180 1 12 [some (oR 12 0), none] [oR 12 0] rfl ?_
  refine g_m (S := [aR 1555 0]) (some (aR 1555 0)) q180 rfl rfl rfl (fun _ => rfl) rfl ?_
  refine g_p q180 1 16 [some (oR 12 0), none] [oR 12 0, aR 1555 0] rfl ?_
  refine g_m (S := [aR 1547 0, aR 1555 0]) (some (aR 1547 0)) q180 rfl rfl rfl (fun _ => rfl) rfl ?_
  refine g_cV q180 rfl (g179 X 1555 1547 s1 ⟨rfl, rfl⟩ ⟨rfl, rfl⟩) rfl rfl rfl rfl rfl (fun s2 => ?_)
  refine g_p q180 1 23 [some (oR 12 0), none] [oR 12 0] rfl ?_
  refine g_m (S := [aR 1556 0]) (some (aR 1556 0)) q180 rfl rfl rfl (fun _ => rfl) rfl ?_
  refine g_p q180 1 27 [some (oR 12 0), none] [oR 12 0, aR 1556 0] rfl ?_
  refine g_m (S := [aR 1548 0, aR 1556 0]) (some (aR 1548 0)) q180 rfl rfl rfl (fun _ => rfl) rfl ?_
  refine g_cV q180 rfl (g179 X 1556 1548 s2 ⟨rfl, rfl⟩ ⟨rfl, rfl⟩) rfl rfl rfl rfl rfl (fun s3 => ?_)
  refine g_p q180 1 34 [some (oR 12 0), none] [oR 12 0] rfl ?_
  refine g_m (S := [aR 1537 0]) (some (aR 1537 0)) q180 rfl rfl rfl (fun _ => rfl) rfl ?_
  refine g_p q180 2 40 [some (oR 12 0), none] [vI 0, vI 6, aR 1537 0] rfl ?_
  refine g_sto q180 rfl rfl rfl rfl (fun s4 => ?_)
  refine g_p q180 1 42 [some (oR 12 0), none] [oR 12 0] rfl ?_
  refine g_m (S := [aR 1537 0]) (some (aR 1537 0)) q180 rfl rfl rfl (fun _ => rfl) rfl ?_
  refine g_p q180 2 48 [some (oR 12 0), none] [vI 0, vI 7, aR 1537 0] rfl ?_
  refine g_sto q180 rfl rfl rfl rfl (fun s5 => ?_)
  refine g_p q180 2 51 [some (oR 12 0), some (vI 0)] [] rfl ?_
  refine g_wkJ [true, true] (L0 := [some (oR 12 0), some (vI 0)]) rfl ?_
  refine g_itr (H180_a X o) (E180_a X o) (fun | (x6, s7) => g180_a X x6 s7 o) ?_
  intro s10
  show J _ _ (Go X 2 180 69 [some (oR 12 0), none] [] s10 o)
  refine g_p q180 2 71 [some (oR 12 0), some (vI 0)] [] rfl ?_
  refine g_wkJ [true, true] (L0 := [some (oR 12 0), some (vI 0)]) rfl ?_
  refine g_itr (H180_b X o) (E180_b X o) (fun | (x11, s12) => g180_b X x11 s12 o) ?_
  intro s15
  show J _ _ (Go X 2 180 90 [none, none] [] s15 o)
  exact g_retV q180 rfl rfl
theorem q159 : am_cd 159 = am_c159 := rfl
def H159_a (X : X2) (o : Option (AV R2) × S2) (a : Int × S2) : Prop := Go X 9 159 21 [some (oR 12 0), some (vI (a.1))] [] (a.2) o
def E159_a (X : X2) (o : Option (AV R2) × S2) : (S2) → Prop := (fun (r : S2) => Go X 9 159 55 [some (oR 12 0), none] [] r o)
theorem g159_a (X : X2) (x3 : Int) (s4 : S2) (o : Option (AV R2) × S2) : J (f159_a x3 s4) (am_kx (H159_a X o) (E159_a X o)) (Go X 9 159 21 [some (oR 12 0), some (vI x3)] [] s4 o) := by
  unfold f159_a
  refine g_p q159 2 24 [some (oR 12 0), some (vI x3)] [vI 9, vI x3] rfl ?_
  refine g_i2 q159 rfl rfl ?_ ?_
  ·
    exact g_end (fun h => g_wk [true, false] rfl h)
  ·
    refine g_p q159 1 28 [some (oR 12 0), some (vI x3)] [oR 12 0] rfl ?_
    refine g_m (S := [aR 1537 0]) (some (aR 1537 0)) q159 rfl rfl rfl (fun _ => rfl) rfl ?_
    refine g_p q159 3 35 [some (oR 12 0), some (vI x3)] [vI 7, vI x3, vI x3, aR 1537 0] rfl ?_
    refine g_jn (fun j48 => ∀ (x5 : Int), J (j48 x5) (am_kx (H159_a X o) (E159_a X o)) (Go X 9 159 48 [some (oR 12 0), some (vI x3)] [vI x5, vI x3, aR 1537 0] s4 o)) ?_ (fun j48 hj48 => ?_)
    ·
      intro x5
      refine g_sto q159 rfl rfl rfl rfl (fun s6 => ?_)
      refine g_inc (fun v7 => [some (oR 12 0), some (vI v7)]) q159 rfl rfl (fun _ => rfl) (fun v7 => ?_)
      refine g_p q159 1 21 [some (oR 12 0), some (vI v7)] [] rfl ?_
      exact g_end (fun h => g_wk [true, true] rfl h)
    ·
      refine g_i2 q159 rfl rfl ?_ ?_
      ·
        refine g_p q159 1 48 [some (oR 12 0), some (vI x3)] [vI 0, vI x3, aR 1537 0] rfl ?_
        exact g_wkJ [true, true] rfl (hj48 0)
      ·
        refine g_p q159 1 39 [some (oR 12 0), some (vI x3)] [oR 12 0, vI x3, aR 1537 0] rfl ?_
        refine g_m (S := [aR 1557 0, vI x3, aR 1537 0]) (some (aR 1557 0)) q159 rfl rfl rfl (fun _ => rfl) rfl ?_
        refine g_p q159 1 43 [some (oR 12 0), some (vI x3)] [vI x3, aR 1557 0, vI x3, aR 1537 0] rfl ?_
        refine g_ld q159 rfl rfl rfl rfl rfl rfl (fun v8 => ?_)
        refine g_p q159 1 48 [some (oR 12 0), some (vI x3)] [vI v8, vI x3, aR 1537 0] rfl ?_
        exact g_wkJ [true, true] rfl (hj48 v8)
theorem g159 (X : X2) (s : S2) (o : Option (AV R2) × S2) : J (f159 s) (fun (r : Int × S2) => o = (some (vI r.1), r.2)) (Go X 9 159 0 (am_loc (am_nl 159) [oR 12 0]) [] s o) := by
  show J _ _ (Go X 9 159 0 [some (oR 12 0), none] [] s o)
  unfold f159
  refine g_p q159 1 1 [some (oR 12 0), none] [oR 12 0] rfl ?_
  refine g_cV q159 rfl (g160 X s) rfl rfl rfl rfl rfl (fun s1 => ?_)
  refine g_p q159 1 5 [some (oR 12 0), none] [oR 12 0] rfl ?_
  refine g_get q159 rfl rfl rfl (fun _ => rfl) (fun v2 => ?_)
  refine g_i1 q159 rfl rfl ?_ ?_
  ·
    refine g_p q159 2 21 [some (oR 12 0), some (vI 0)] [] rfl ?_
    refine g_wkJ [true, true] (L0 := [some (oR 12 0), some (vI 0)]) rfl ?_
    refine g_itr (H159_a X o) (E159_a X o) (fun | (x3, s4) => g159_a X x3 s4 o) ?_
    intro s9
    show J _ _ (Go X 9 159 55 [some (oR 12 0), none] [] s9 o)
    refine g_p q159 1 56 [some (oR 12 0), none] [oR 12 0] rfl ?_
    refine g_m (S := [aR 1558 0]) (some (aR 1558 0)) q159 rfl rfl rfl (fun _ => rfl) rfl ?_
    refine g_p q159 1 60 [some (oR 12 0), none] [oR 12 0, aR 1558 0] rfl ?_
    refine g_m (S := [aR 1554 0, aR 1558 0]) (some (aR 1554 0)) q159 rfl rfl rfl (fun _ => rfl) rfl ?_
    refine g_cV q159 rfl (g179 X 1558 1554 s9 ⟨rfl, rfl⟩ ⟨rfl, rfl⟩) rfl rfl rfl rfl rfl (fun s10 => ?_)
    refine g_p q159 1 67 [some (oR 12 0), none] [oR 12 0] rfl ?_
    refine g_m (S := [aR 1559 0]) (some (aR 1559 0)) q159 rfl rfl rfl (fun _ => rfl) rfl ?_
    refine g_p q159 1 71 [some (oR 12 0), none] [oR 12 0, aR 1559 0] rfl ?_
    refine g_m (S := [aR 1540 0, aR 1559 0]) (some (aR 1540 0)) q159 rfl rfl rfl (fun _ => rfl) rfl ?_
    refine g_cV q159 rfl (g179 X 1559 1540 s10 ⟨rfl, rfl⟩ ⟨rfl, rfl⟩) rfl rfl rfl rfl rfl (fun s11 => ?_)
    refine g_p q159 1 78 [some (oR 12 0), none] [oR 12 0] rfl ?_
    refine g_m (S := [aR 1560 0]) (some (aR 1560 0)) q159 rfl rfl rfl (fun _ => rfl) rfl ?_
    refine g_p q159 1 82 [some (oR 12 0), none] [oR 12 0, aR 1560 0] rfl ?_
    refine g_m (S := [aR 1541 0, aR 1560 0]) (some (aR 1541 0)) q159 rfl rfl rfl (fun _ => rfl) rfl ?_
    refine g_cV q159 rfl (g179 X 1560 1541 s11 ⟨rfl, rfl⟩ ⟨rfl, rfl⟩) rfl rfl rfl rfl rfl (fun s12 => ?_)
    refine g_p q159 1 89 [some (oR 12 0), none] [oR 12 0] rfl ?_
    refine g_m (S := [aR 1561 0]) (some (aR 1561 0)) q159 rfl rfl rfl (fun _ => rfl) rfl ?_
    refine g_p q159 1 93 [some (oR 12 0), none] [oR 12 0, aR 1561 0] rfl ?_
    refine g_m (S := [aR 1542 0, aR 1561 0]) (some (aR 1542 0)) q159 rfl rfl rfl (fun _ => rfl) rfl ?_
    refine g_cV q159 rfl (g179 X 1561 1542 s12 ⟨rfl, rfl⟩ ⟨rfl, rfl⟩) rfl rfl rfl rfl rfl (fun s13 => ?_)
    refine g_p q159 1 100 [some (oR 12 0), none] [oR 12 0] rfl ?_
    refine g_m (S := [aR 1562 0]) (some (aR 1562 0)) q159 rfl rfl rfl (fun _ => rfl) rfl ?_
    refine g_p q159 1 104 [some (oR 12 0), none] [oR 12 0, aR 1562 0] rfl ?_
    refine g_m (S := [aR 1543 0, aR 1562 0]) (some (aR 1543 0)) q159 rfl rfl rfl (fun _ => rfl) rfl ?_
    refine g_cV q159 rfl (g179 X 1562 1543 s13 ⟨rfl, rfl⟩ ⟨rfl, rfl⟩) rfl rfl rfl rfl rfl (fun s14 => ?_)
    refine g_p q159 1 111 [some (oR 12 0), none] [oR 12 0] rfl ?_
    refine g_m (S := [aR 1563 0]) (some (aR 1563 0)) q159 rfl rfl rfl (fun _ => rfl) rfl ?_
    refine g_p q159 1 115 [some (oR 12 0), none] [oR 12 0, aR 1563 0] rfl ?_
    refine g_m (S := [aR 1545 0, aR 1563 0]) (some (aR 1545 0)) q159 rfl rfl rfl (fun _ => rfl) rfl ?_
    refine g_cV q159 rfl (g179 X 1563 1545 s14 ⟨rfl, rfl⟩ ⟨rfl, rfl⟩) rfl rfl rfl rfl rfl (fun s15 => ?_)
    refine g_p q159 1 122 [some (oR 12 0), none] [oR 12 0] rfl ?_
    refine g_m (S := [aR 1564 0]) (some (aR 1564 0)) q159 rfl rfl rfl (fun _ => rfl) rfl ?_
    refine g_p q159 1 126 [some (oR 12 0), none] [oR 12 0, aR 1564 0] rfl ?_
    refine g_m (S := [aR 1546 0, aR 1564 0]) (some (aR 1546 0)) q159 rfl rfl rfl (fun _ => rfl) rfl ?_
    refine g_cV q159 rfl (g179 X 1564 1546 s15 ⟨rfl, rfl⟩ ⟨rfl, rfl⟩) rfl rfl rfl rfl rfl (fun s16 => ?_)
    refine g_p q159 1 133 [some (oR 12 0), none] [oR 12 0] rfl ?_
    refine g_m (S := [aR 1565 0]) (some (aR 1565 0)) q159 rfl rfl rfl (fun _ => rfl) rfl ?_
    refine g_p q159 1 137 [some (oR 12 0), none] [oR 12 0, aR 1565 0] rfl ?_
    refine g_m (S := [aR 1555 0, aR 1565 0]) (some (aR 1555 0)) q159 rfl rfl rfl (fun _ => rfl) rfl ?_
    refine g_cV q159 rfl (g179 X 1565 1555 s16 ⟨rfl, rfl⟩ ⟨rfl, rfl⟩) rfl rfl rfl rfl rfl (fun s17 => ?_)
    refine g_p q159 1 144 [some (oR 12 0), none] [oR 12 0] rfl ?_
    refine g_m (S := [aR 1566 0]) (some (aR 1566 0)) q159 rfl rfl rfl (fun _ => rfl) rfl ?_
    refine g_p q159 1 148 [some (oR 12 0), none] [oR 12 0, aR 1566 0] rfl ?_
    refine g_m (S := [aR 1556 0, aR 1566 0]) (some (aR 1556 0)) q159 rfl rfl rfl (fun _ => rfl) rfl ?_
    refine g_cV q159 rfl (g179 X 1566 1556 s17 ⟨rfl, rfl⟩ ⟨rfl, rfl⟩) rfl rfl rfl rfl rfl (fun s18 => ?_)
    refine g_p q159 1 155 [some (oR 12 0), none] [oR 12 0] rfl ?_
    refine g_m (S := [aR 1567 0]) (some (aR 1567 0)) q159 rfl rfl rfl (fun _ => rfl) rfl ?_
    refine g_p q159 1 159 [some (oR 12 0), none] [oR 12 0, aR 1567 0] rfl ?_
    refine g_m (S := [aR 1549 0, aR 1567 0]) (some (aR 1549 0)) q159 rfl rfl rfl (fun _ => rfl) rfl ?_
    refine g_cV q159 rfl (g179 X 1567 1549 s18 ⟨rfl, rfl⟩ ⟨rfl, rfl⟩) rfl rfl rfl rfl rfl (fun s19 => ?_)
    refine g_p q159 1 166 [some (oR 12 0), none] [oR 12 0] rfl ?_
    refine g_m (S := [aR 1568 0]) (some (aR 1568 0)) q159 rfl rfl rfl (fun _ => rfl) rfl ?_
    refine g_p q159 1 170 [some (oR 12 0), none] [oR 12 0, aR 1568 0] rfl ?_
    refine g_m (S := [aR 1550 0, aR 1568 0]) (some (aR 1550 0)) q159 rfl rfl rfl (fun _ => rfl) rfl ?_
    refine g_cV q159 rfl (g179 X 1568 1550 s19 ⟨rfl, rfl⟩ ⟨rfl, rfl⟩) rfl rfl rfl rfl rfl (fun s20 => ?_)
    refine g_p q159 1 177 [some (oR 12 0), none] [oR 12 0] rfl ?_
    refine g_cV q159 rfl (g180 X s20) rfl rfl rfl rfl rfl (fun s21 => ?_)
    refine g_p q159 2 182 [some (oR 12 0), none] [vI 0, oR 12 0] rfl ?_
    refine g_put q159 rfl rfl rfl (fun _ => rfl) (fun s22 => ?_)
    refine g_p q159 1 186 [some (oR 12 0), none] [oR 12 0] rfl ?_
    refine g_m (S := [aR 1537 0]) (some (aR 1537 0)) q159 rfl rfl rfl (fun _ => rfl) rfl ?_
    refine g_p q159 1 190 [some (oR 12 0), none] [vI 3, aR 1537 0] rfl ?_
    refine g_ld q159 rfl rfl rfl rfl rfl rfl (fun v23 => ?_)
    exact g_ret q159 rfl rfl rfl
  ·
    refine g_p q159 2 14 [some (oR 12 0), none] [oR 12 0, vI (-2)] rfl ?_
    refine g_get q159 rfl rfl rfl (fun _ => rfl) (fun v24 => ?_)
    refine g_p q159 1 18 [some (oR 12 0), none] [vI (jsub (-2) v24)] rfl ?_
    refine g_top (fun v25 => ?_)
    exact g_ret q159 rfl rfl rfl
theorem q186 : am_cd 186 = am_c186 := rfl
theorem g186 (X : X2) (a1 : Int) (s : S2) (o : Option (AV R2) × S2) : J (f186 a1 s) (fun (r : S2) => o = (none, r)) (Go X 2 186 0 (am_loc (am_nl 186) [oR 12 0, vI a1]) [] s o) := by
  show J _ _ (Go X 2 186 0 [some (oR 12 0), some (vI a1)] [] s o)
  unfold f186
  refine g_p q186 1 1 [some (oR 12 0), some (vI a1)] [oR 12 0] rfl ?_
  refine g_get q186 rfl rfl rfl (fun _ => rfl) (fun v1 => ?_)
  refine g_p q186 1 6 [some (oR 12 0), some (vI a1)] [vI 60, vI v1] rfl ?_
  refine g_jn (fun j15 => ∀ (s2 : S2), J (j15 s2) (fun (r : S2) => o = (none, r)) (Go X 2 186 15 [some (oR 12 0), none] [] s2 o)) ?_ (fun j15 hj15 => ?_)
  ·
    intro s2
    refine g_p q186 2 17 [some (oR 12 0), none] [oR 12 0, oR 12 0] rfl ?_
    refine g_get q186 rfl rfl rfl (fun _ => rfl) (fun v3 => ?_)
    refine g_p q186 2 22 [some (oR 12 0), none] [vI (jadd v3 1), oR 12 0] rfl ?_
    refine g_put q186 rfl rfl rfl (fun _ => rfl) (fun s4 => ?_)
    exact g_retV q186 rfl rfl
  ·
    refine g_i2 q186 rfl rfl ?_ ?_
    ·
      exact g_wkJ [true, false] rfl (hj15 s)
    ·
      refine g_p q186 3 12 [some (oR 12 0), some (vI a1)] [vI a1, vI 3, oR 12 0] rfl ?_
      refine g_cV q186 rfl (g167 X 3 a1 s) rfl rfl rfl rfl rfl (fun s5 => ?_)
      exact g_wkJ [true, false] rfl (hj15 s5)
theorem q187 : am_cd 187 = am_c187 := rfl
theorem g187 (X : X2) (a1 : Int) (a2 : Int) (s : S2) (o : Option (AV R2) × S2) : J (f187 a1 a2 s) (fun (r : S2) => o = (none, r)) (Go X 1 187 0 (am_loc (am_nl 187) [oR 12 0, vI a1, vI a2]) [] s o) := by
  show J _ _ (Go X 1 187 0 [some (oR 12 0), some (vI a1), some (vI a2)] [] s o)
  unfold f187
  refine g_p q187 1 1 [some (oR 12 0), some (vI a1), some (vI a2)] [oR 12 0] rfl ?_
  refine g_get q187 rfl rfl rfl (fun _ => rfl) (fun v1 => ?_)
  refine g_i1 q187 rfl rfl ?_ ?_
  ·
    exact g_retV q187 rfl rfl
  ·
    refine g_p q187 1 8 [some (oR 12 0), some (vI a1), some (vI a2)] [oR 12 0] rfl ?_
    refine g_m (S := [aR 1580 0]) (some (aR 1580 0)) q187 rfl rfl rfl (fun _ => rfl) rfl ?_
    refine g_p q187 2 15 [some (oR 12 0), some (vI a1), some (vI a2)] [oR 12 0, vI 300, aR 1580 0] rfl ?_
    refine g_get q187 rfl rfl rfl (fun _ => rfl) (fun v2 => ?_)
    refine g_p q187 2 20 [some (oR 12 0), some (vI a1), some (vI a2)] [oR 12 0, vI (jmul 300 v2), aR 1580 0] rfl ?_
    refine g_get q187 rfl rfl rfl (fun _ => rfl) (fun v3 => ?_)
    refine g_p q187 2 25 [some (oR 12 0), some (vI a1), some (vI a2)] [vI a1, vI (jadd (jmul 300 v2) v3), aR 1580 0] rfl ?_
    refine g_sto q187 rfl rfl rfl rfl (fun s4 => ?_)
    refine g_p q187 1 27 [some (oR 12 0), some (vI a1), some (vI a2)] [oR 12 0] rfl ?_
    refine g_m (S := [aR 1581 0]) (some (aR 1581 0)) q187 rfl rfl rfl (fun _ => rfl) rfl ?_
    refine g_p q187 2 34 [some (oR 12 0), some (vI a1), some (vI a2)] [oR 12 0, vI 300, aR 1581 0] rfl ?_
    refine g_get q187 rfl rfl rfl (fun _ => rfl) (fun v5 => ?_)
    refine g_p q187 2 39 [some (oR 12 0), some (vI a1), some (vI a2)] [oR 12 0, vI (jmul 300 v5), aR 1581 0] rfl ?_
    refine g_get q187 rfl rfl rfl (fun _ => rfl) (fun v6 => ?_)
    refine g_p q187 2 44 [some (oR 12 0), some (vI a1), some (vI a2)] [vI a2, vI (jadd (jmul 300 v5) v6), aR 1581 0] rfl ?_
    refine g_sto q187 rfl rfl rfl rfl (fun s7 => ?_)
    refine g_p q187 2 47 [some (oR 12 0), some (vI a1), some (vI a2)] [oR 12 0, oR 12 0] rfl ?_
    refine g_get q187 rfl rfl rfl (fun _ => rfl) (fun v8 => ?_)
    refine g_p q187 2 52 [some (oR 12 0), some (vI a1), some (vI a2)] [vI (jadd v8 1), oR 12 0] rfl ?_
    refine g_put q187 rfl rfl rfl (fun _ => rfl) (fun s9 => ?_)
    exact g_retV q187 rfl rfl
theorem q188 : am_cd 188 = am_c188 := rfl
theorem g188 (X : X2) (a0 : Int) (s : S2) (o : Option (AV R2) × S2) : J (f188 a0) (fun (r : Nat) => o = (some (oR 16 r), s)) (Go X 1 188 0 (am_loc (am_nl 188) [vI a0]) [] s o) := by
  show J _ _ (Go X 1 188 0 [some (vI a0)] [] s o)
  unfold f188
  refine g_p q188 1 1 [some (vI a0)] [vI a0] rfl ?_
  refine g_sw q188 rfl ?_
  refine g_swc ?_ ?_
  ·
    refine g_m (S := [oR 16 3]) (some (oR 16 3)) q188 rfl rfl rfl (fun _ => rfl) rfl ?_
    exact g_ret q188 rfl rfl rfl
  ·
    refine g_swc ?_ ?_
    ·
      refine g_m (S := [oR 16 5]) (some (oR 16 5)) q188 rfl rfl rfl (fun _ => rfl) rfl ?_
      exact g_ret q188 rfl rfl rfl
    ·
      refine g_swc ?_ ?_
      ·
        refine g_m (S := [oR 16 9]) (some (oR 16 9)) q188 rfl rfl rfl (fun _ => rfl) rfl ?_
        exact g_ret q188 rfl rfl rfl
      ·
        refine g_swc ?_ ?_
        ·
          refine g_m (S := [oR 16 10]) (some (oR 16 10)) q188 rfl rfl rfl (fun _ => rfl) rfl ?_
          exact g_ret q188 rfl rfl rfl
        ·
          refine g_swc ?_ ?_
          ·
            refine g_m (S := [oR 16 11]) (some (oR 16 11)) q188 rfl rfl rfl (fun _ => rfl) rfl ?_
            exact g_ret q188 rfl rfl rfl
          ·
            refine g_swc ?_ ?_
            ·
              refine g_m (S := [oR 16 12]) (some (oR 16 12)) q188 rfl rfl rfl (fun _ => rfl) rfl ?_
              exact g_ret q188 rfl rfl rfl
            ·
              refine g_swc ?_ ?_
              ·
                refine g_m (S := [oR 16 13]) (some (oR 16 13)) q188 rfl rfl rfl (fun _ => rfl) rfl ?_
                exact g_ret q188 rfl rfl rfl
              ·
                refine g_swc ?_ ?_
                ·
                  refine g_m (S := [oR 16 14]) (some (oR 16 14)) q188 rfl rfl rfl (fun _ => rfl) rfl ?_
                  exact g_ret q188 rfl rfl rfl
                ·
                  refine g_swc ?_ ?_
                  ·
                    refine g_m (S := [oR 16 15]) (some (oR 16 15)) q188 rfl rfl rfl (fun _ => rfl) rfl ?_
                    exact g_ret q188 rfl rfl rfl
                  ·
                    refine g_swc ?_ ?_
                    ·
                      refine g_m (S := [oR 16 16]) (some (oR 16 16)) q188 rfl rfl rfl (fun _ => rfl) rfl ?_
                      exact g_ret q188 rfl rfl rfl
                    ·
                      refine g_swc ?_ ?_
                      ·
                        refine g_m (S := [oR 16 17]) (some (oR 16 17)) q188 rfl rfl rfl (fun _ => rfl) rfl ?_
                        exact g_ret q188 rfl rfl rfl
                      ·
                        refine g_swc ?_ ?_
                        ·
                          refine g_m (S := [oR 16 18]) (some (oR 16 18)) q188 rfl rfl rfl (fun _ => rfl) rfl ?_
                          exact g_ret q188 rfl rfl rfl
                        ·
                          refine g_swe ?_
                          refine g_m (S := [oR 16 7]) (some (oR 16 7)) q188 rfl rfl rfl (fun _ => rfl) rfl ?_
                          exact g_ret q188 rfl rfl rfl
theorem q185 : am_cd 185 = am_c185 := rfl
def H185_a (X : X2) (y4 : Int) (s6 : S2) (o : Option (AV R2) × S2) (a : Int) : Prop := Go X 6 185 38 [some (oR 12 0), some (vI y4), some (vI a)] [] s6 o
def E185_a (X : X2) (y4 : Int) (s6 : S2) (o : Option (AV R2) × S2) : (Int) → Prop := (fun (r : Int) => Go X 6 185 63 [some (oR 12 0), some (vI y4), some (vI r)] [] s6 o)
theorem g185_a (X : X2) (y4 : Int) (x5 : Int) (s6 : S2) (o : Option (AV R2) × S2) : J (f185_a x5 s6) (am_kx (H185_a X y4 s6 o) (E185_a X y4 s6 o)) (Go X 6 185 38 [some (oR 12 0), some (vI y4), some (vI x5)] [] s6 o) := by
  unfold f185_a
  refine g_p q185 2 40 [some (oR 12 0), some (vI y4), some (vI x5)] [oR 12 0, vI x5] rfl ?_
  refine g_get q185 rfl rfl rfl (fun _ => rfl) (fun v7 => ?_)
  refine g_i2 q185 rfl rfl ?_ ?_
  ·
    exact g_end (fun h => g_wk [true, true, true] rfl h)
  ·
    refine g_p q185 2 48 [some (oR 12 0), some (vI y4), some (vI x5)] [vI x5, oR 12 0] rfl ?_
    refine g_cPN q185 rfl (g188 X x5 s6) rfl rfl rfl rfl rfl (fun r8 => ?_)
    refine g_gd fun hr8 => ?_
    refine g_cPI q185 rfl (g166 X r8 s6 hr8) rfl rfl rfl rfl rfl (fun r9 => ?_)
    refine g_i1 q185 rfl rfl ?_ ?_
    ·
      exact g_end (fun h => g_wk [true, true, true] rfl h)
    ·
      refine g_inc (fun v10 => [some (oR 12 0), some (vI y4), some (vI v10)]) q185 rfl rfl (fun _ => rfl) (fun v10 => ?_)
      refine g_p q185 1 38 [some (oR 12 0), some (vI y4), some (vI v10)] [] rfl ?_
      exact g_end (fun h => g_wk [true, true, true] rfl h)
theorem g185 (X : X2) (s : S2) (o : Option (AV R2) × S2) : J (f185 s) (fun (r : S2) => o = (none, r)) (Go X 6 185 0 (am_loc (am_nl 185) [oR 12 0]) [] s o) := by
  show J _ _ (Go X 6 185 0 [some (oR 12 0), none, none] [] s o)
  unfold f185
  refine g_p q185 1 1 [some (oR 12 0), none, none] [oR 12 0] rfl ?_
  refine g_cV q185 rfl (g163 X s) rfl rfl rfl rfl rfl (fun s1 => ?_)
  refine g_p q185 1 5 [some (oR 12 0), none, none] [oR 12 0] rfl ?_
  refine g_get q185 rfl rfl rfl (fun _ => rfl) (fun v2 => ?_)
  refine g_p q185 2 10 [some (oR 12 0), some (vI v2), none] [oR 12 0] rfl ?_
  refine g_cPI q185 rfl (g172 X s1) rfl rfl rfl rfl rfl (fun r3 => ?_)
  refine g_i1 q185 rfl rfl ?_ ?_
  ·
    refine g_p q185 2 38 [some (oR 12 0), some (vI v2), some (vI 0)] [] rfl ?_
    refine g_wkJ [true, true, true] (L0 := [some (oR 12 0), some (vI v2), some (vI 0)]) rfl ?_
    refine g_itr (H185_a X v2 s1 o) (E185_a X v2 s1 o) (fun x5 => g185_a X v2 x5 s1 o) ?_
    intro z11
    show J _ _ (Go X 6 185 63 [some (oR 12 0), some (vI v2), some (vI z11)] [] s1 o)
    refine g_p q185 2 65 [some (oR 12 0), some (vI v2), some (vI z11)] [oR 12 0, vI z11] rfl ?_
    refine g_get q185 rfl rfl rfl (fun _ => rfl) (fun v12 => ?_)
    refine g_i2 q185 rfl rfl ?_ ?_
    ·
      refine g_p q185 2 80 [some (oR 12 0), some (vI v2), some (vI z11)] [vI v2, oR 12 0] rfl ?_
      refine g_cV q185 rfl (g186 X v2 s1) rfl rfl rfl rfl rfl (fun s13 => ?_)
      refine g_p q185 2 85 [some (oR 12 0), some (vI v2), some (vI z11)] [oR 12 0, oR 12 0] rfl ?_
      refine g_get q185 rfl rfl rfl (fun _ => rfl) (fun v14 => ?_)
      refine g_p q185 1 89 [some (oR 12 0), some (vI v2), some (vI z11)] [vI z11, vI v14, oR 12 0] rfl ?_
      refine g_cPN q185 rfl (g188 X z11 s13) rfl rfl rfl rfl rfl (fun r15 => ?_)
      refine g_gd fun hr15 => ?_
      refine g_cPI q185 rfl (g274 X r15 s13 hr15) rfl rfl rfl rfl rfl (fun r16 => ?_)
      refine g_p q185 1 96 [some (oR 12 0), some (vI v2), some (vI z11)] [vI (jadd v14 r16), oR 12 0] rfl ?_
      refine g_put q185 rfl rfl rfl (fun _ => rfl) (fun s17 => ?_)
      refine g_p q185 3 102 [some (oR 12 0), some (vI v2), some (vI z11)] [vI z11, vI 1, oR 12 0] rfl ?_
      refine g_cV q185 rfl (g187 X 1 z11 s17) rfl rfl rfl rfl rfl (fun s18 => ?_)
      exact g_retV q185 rfl rfl
    ·
      refine g_p q185 3 74 [some (oR 12 0), some (vI v2), some (vI z11)] [vI v2, vI 0, oR 12 0] rfl ?_
      refine g_cV q185 rfl (g167 X 0 v2 s1) rfl rfl rfl rfl rfl (fun s19 => ?_)
      exact g_retV q185 rfl rfl
  ·
    refine g_p q185 2 20 [some (oR 12 0), some (vI v2), none] [vI 99999, oR 12 0] rfl ?_
    refine g_cRI q185 rfl (g171 X 99999 s1) rfl rfl rfl rfl rfl (fun r20 s21 => ?_)
    refine g_p q185 3 26 [some (oR 12 0), some (vI v2), some (vI r20)] [vI v2, oR 12 0] rfl ?_
    refine g_cV q185 rfl (g186 X v2 s21) rfl rfl rfl rfl rfl (fun s22 => ?_)
    refine g_p q185 3 32 [some (oR 12 0), some (vI v2), some (vI r20)] [vI r20, vI 0, oR 12 0] rfl ?_
    refine g_cV q185 rfl (g187 X 0 r20 s22) rfl rfl rfl rfl rfl (fun s23 => ?_)
    exact g_retV q185 rfl rfl
theorem q184 : am_cd 184 = am_c184 := rfl
def H184_a (X : X2) (o : Option (AV R2) × S2) (a : S2) : Prop := Go X 7 184 8 [some (oR 12 0), none] [] a o
def E184_a (X : X2) (o : Option (AV R2) × S2) : (S2) → Prop := (fun (r : S2) => Go X 7 184 100 [none, none] [] r o)
theorem g184_a (X : X2) (s3 : S2) (o : Option (AV R2) × S2) : J (f184_a s3) (am_kx (H184_a X o) (E184_a X o)) (Go X 7 184 8 [some (oR 12 0), none] [] s3 o) := by
  unfold f184_a
  refine g_p q184 1 9 [some (oR 12 0), none] [oR 12 0] rfl ?_
  refine g_get q184 rfl rfl rfl (fun _ => rfl) (fun v4 => ?_)
  refine g_i1 q184 rfl rfl ?_ ?_
  ·
    exact g_end (fun h => g_wk [false, false] rfl h)
  ·
    refine g_p q184 1 16 [some (oR 12 0), none] [oR 12 0] rfl ?_
    refine g_cPI q184 rfl (g164 X s3) rfl rfl rfl rfl rfl (fun r5 => ?_)
    refine g_p q184 1 21 [some (oR 12 0), none] [vI 42, vI r5] rfl ?_
    refine g_jn (fun j42 => ∀ (_ : Unit), J (j42 ()) (am_kx (H184_a X o) (E184_a X o)) (Go X 7 184 42 [some (oR 12 0), none] [] s3 o)) ?_ (fun j42 hj42 => ?_)
    ·
      intro _
      refine g_p q184 1 43 [some (oR 12 0), none] [oR 12 0] rfl ?_
      refine g_cPI q184 rfl (g164 X s3) rfl rfl rfl rfl rfl (fun r6 => ?_)
      refine g_p q184 1 48 [some (oR 12 0), none] [vI 42, vI r6] rfl ?_
      refine g_jn (fun j72 => ∀ (x7 : Int), J (j72 x7) (am_kx (H184_a X o) (E184_a X o)) (Go X 7 184 72 [some (oR 12 0), none] [vI x7] s3 o)) ?_ (fun j72 hj72 => ?_)
      ·
        intro x7
        refine g_p q184 3 75 [some (oR 12 0), some (vI x7)] [oR 12 0, oR 12 0] rfl ?_
        refine g_get q184 rfl rfl rfl (fun _ => rfl) (fun v8 => ?_)
        refine g_p q184 2 80 [some (oR 12 0), some (vI x7)] [vI (jadd v8 1), oR 12 0] rfl ?_
        refine g_put q184 rfl rfl rfl (fun _ => rfl) (fun s9 => ?_)
        refine g_p q184 1 84 [some (oR 12 0), some (vI x7)] [oR 12 0] rfl ?_
        refine g_cV q184 rfl (g185 X s9) rfl rfl rfl rfl rfl (fun s10 => ?_)
        refine g_p q184 3 90 [some (oR 12 0), some (vI x7)] [vI 0, vI x7, oR 12 0] rfl ?_
        refine g_cV q184 rfl (g187 X x7 0 s10) rfl rfl rfl rfl rfl (fun s11 => ?_)
        refine g_p q184 1 94 [some (oR 12 0), some (vI x7)] [oR 12 0] rfl ?_
        refine g_cV q184 rfl (g163 X s11) rfl rfl rfl rfl rfl (fun s12 => ?_)
        refine g_p q184 1 8 [some (oR 12 0), some (vI x7)] [] rfl ?_
        exact g_end (fun h => g_wk [true, false] rfl h)
      ·
        refine g_i2 q184 rfl rfl ?_ ?_
        ·
          refine g_p q184 1 57 [some (oR 12 0), none] [oR 12 0] rfl ?_
          refine g_cPI q184 rfl (g164 X s3) rfl rfl rfl rfl rfl (fun r13 => ?_)
          refine g_p q184 1 62 [some (oR 12 0), none] [vI 47, vI r13] rfl ?_
          refine g_i2 q184 rfl rfl ?_ ?_
          ·
            refine g_p q184 1 72 [some (oR 12 0), none] [vI 15] rfl ?_
            exact g_wkJ [true, false] rfl (hj72 15)
          ·
            refine g_p q184 2 72 [some (oR 12 0), none] [vI 14] rfl ?_
            exact g_wkJ [true, false] rfl (hj72 14)
        ·
          refine g_p q184 2 72 [some (oR 12 0), none] [vI 13] rfl ?_
          exact g_wkJ [true, false] rfl (hj72 13)
    ·
      refine g_i2 q184 rfl rfl ?_ ?_
      ·
        exact g_wkJ [true, false] rfl (hj42 ())
      ·
        refine g_p q184 1 25 [some (oR 12 0), none] [oR 12 0] rfl ?_
        refine g_cPI q184 rfl (g164 X s3) rfl rfl rfl rfl rfl (fun r14 => ?_)
        refine g_p q184 1 30 [some (oR 12 0), none] [vI 47, vI r14] rfl ?_
        refine g_i2 q184 rfl rfl ?_ ?_
        ·
          exact g_wkJ [true, false] rfl (hj42 ())
        ·
          refine g_p q184 1 34 [some (oR 12 0), none] [oR 12 0] rfl ?_
          refine g_cPI q184 rfl (g164 X s3) rfl rfl rfl rfl rfl (fun r15 => ?_)
          refine g_p q184 1 39 [some (oR 12 0), none] [vI 37, vI r15] rfl ?_
          refine g_i2 q184 rfl rfl ?_ ?_
          ·
            exact g_end (fun h => g_wk [false, false] rfl h)
          ·
            exact g_wkJ [true, false] rfl (hj42 ())
theorem g184 (X : X2) (s : S2) (o : Option (AV R2) × S2) : J (f184 s) (fun (r : S2) => o = (none, r)) (Go X 7 184 0 (am_loc (am_nl 184) [oR 12 0]) [] s o) := by
  show J _ _ (Go X 7 184 0 [some (oR 12 0), none] [] s o)
  unfold f184
  refine g_p q184 1 1 [some (oR 12 0), none] [oR 12 0] rfl ?_
  refine g_cV q184 rfl (g185 X s) rfl rfl rfl rfl rfl (fun s1 => ?_)
  refine g_p q184 1 5 [some (oR 12 0), none] [oR 12 0] rfl ?_
  refine g_cV q184 rfl (g163 X s1) rfl rfl rfl rfl rfl (fun s2 => ?_)
  refine g_wkJ [true, false] (L0 := [some (oR 12 0), none]) rfl ?_
  refine g_itr (H184_a X o) (E184_a X o) (fun s3 => g184_a X s3 o) ?_
  intro s16
  show J _ _ (Go X 7 184 100 [none, none] [] s16 o)
  exact g_retV q184 rfl rfl
theorem q183 : am_cd 183 = am_c183 := rfl
def H183_a (X : X2) (o : Option (AV R2) × S2) (a : S2) : Prop := Go X 8 183 4 [some (oR 12 0), none] [] a o
def E183_a (X : X2) (o : Option (AV R2) × S2) : (S2) → Prop := (fun (r : S2) => Go X 8 183 67 [none, none] [] r o)
theorem g183_a (X : X2) (s2 : S2) (o : Option (AV R2) × S2) : J (f183_a s2) (am_kx (H183_a X o) (E183_a X o)) (Go X 8 183 4 [some (oR 12 0), none] [] s2 o) := by
  unfold f183_a
  refine g_p q183 1 5 [some (oR 12 0), none] [oR 12 0] rfl ?_
  refine g_get q183 rfl rfl rfl (fun _ => rfl) (fun v3 => ?_)
  refine g_i1 q183 rfl rfl ?_ ?_
  ·
    exact g_end (fun h => g_wk [false, false] rfl h)
  ·
    refine g_p q183 1 12 [some (oR 12 0), none] [oR 12 0] rfl ?_
    refine g_cPI q183 rfl (g164 X s2) rfl rfl rfl rfl rfl (fun r4 => ?_)
    refine g_p q183 1 17 [some (oR 12 0), none] [vI 43, vI r4] rfl ?_
    refine g_jn (fun j29 => ∀ (_ : Unit), J (j29 ()) (am_kx (H183_a X o) (E183_a X o)) (Go X 8 183 29 [some (oR 12 0), none] [] s2 o)) ?_ (fun j29 hj29 => ?_)
    ·
      intro _
      refine g_p q183 1 30 [some (oR 12 0), none] [oR 12 0] rfl ?_
      refine g_cPI q183 rfl (g164 X s2) rfl rfl rfl rfl rfl (fun r5 => ?_)
      refine g_p q183 1 35 [some (oR 12 0), none] [vI 43, vI r5] rfl ?_
      refine g_jn (fun j43 => ∀ (x6 : Int), J (j43 x6) (am_kx (H183_a X o) (E183_a X o)) (Go X 8 183 43 [some (oR 12 0), none] [vI x6] s2 o)) ?_ (fun j43 hj43 => ?_)
      ·
        intro x6
        refine g_p q183 3 46 [some (oR 12 0), some (vI x6)] [oR 12 0, oR 12 0] rfl ?_
        refine g_get q183 rfl rfl rfl (fun _ => rfl) (fun v7 => ?_)
        refine g_p q183 2 51 [some (oR 12 0), some (vI x6)] [vI (jadd v7 1), oR 12 0] rfl ?_
        refine g_put q183 rfl rfl rfl (fun _ => rfl) (fun s8 => ?_)
        refine g_p q183 1 55 [some (oR 12 0), some (vI x6)] [oR 12 0] rfl ?_
        refine g_cV q183 rfl (g184 X s8) rfl rfl rfl rfl rfl (fun s9 => ?_)
        refine g_p q183 3 61 [some (oR 12 0), some (vI x6)] [vI 0, vI x6, oR 12 0] rfl ?_
        refine g_cV q183 rfl (g187 X x6 0 s9) rfl rfl rfl rfl rfl (fun s10 => ?_)
        refine g_p q183 1 4 [some (oR 12 0), some (vI x6)] [] rfl ?_
        exact g_end (fun h => g_wk [true, false] rfl h)
      ·
        refine g_i2 q183 rfl rfl ?_ ?_
        ·
          refine g_p q183 1 43 [some (oR 12 0), none] [vI 3] rfl ?_
          exact g_wkJ [true, false] rfl (hj43 3)
        ·
          refine g_p q183 2 43 [some (oR 12 0), none] [vI 2] rfl ?_
          exact g_wkJ [true, false] rfl (hj43 2)
    ·
      refine g_i2 q183 rfl rfl ?_ ?_
      ·
        exact g_wkJ [true, false] rfl (hj29 ())
      ·
        refine g_p q183 1 21 [some (oR 12 0), none] [oR 12 0] rfl ?_
        refine g_cPI q183 rfl (g164 X s2) rfl rfl rfl rfl rfl (fun r11 => ?_)
        refine g_p q183 1 26 [some (oR 12 0), none] [vI 45, vI r11] rfl ?_
        refine g_i2 q183 rfl rfl ?_ ?_
        ·
          exact g_end (fun h => g_wk [false, false] rfl h)
        ·
          exact g_wkJ [true, false] rfl (hj29 ())
theorem g183 (X : X2) (s : S2) (o : Option (AV R2) × S2) : J (f183 s) (fun (r : S2) => o = (none, r)) (Go X 8 183 0 (am_loc (am_nl 183) [oR 12 0]) [] s o) := by
  show J _ _ (Go X 8 183 0 [some (oR 12 0), none] [] s o)
  unfold f183
  refine g_p q183 1 1 [some (oR 12 0), none] [oR 12 0] rfl ?_
  refine g_cV q183 rfl (g184 X s) rfl rfl rfl rfl rfl (fun s1 => ?_)
  refine g_wkJ [true, false] (L0 := [some (oR 12 0), none]) rfl ?_
  refine g_itr (H183_a X o) (E183_a X o) (fun s2 => g183_a X s2 o) ?_
  intro s12
  show J _ _ (Go X 8 183 67 [none, none] [] s12 o)
  exact g_retV q183 rfl rfl
theorem q189 : am_cd 189 = am_c189 := rfl
theorem g189 (X : X2) (a1 : Nat) (s : S2) (ha1 : a1 < am_T.length) (o : Option (AV R2) × S2) : J (f189 a1 s) (fun (r : Int × S2) => o = (some (vI r.1), r.2)) (Go X 6 189 0 (am_loc (am_nl 189) [oR 12 0, oR 16 a1]) [] s o) := by
  show J _ _ (Go X 6 189 0 [some (oR 12 0), some (oR 16 a1), none] [] s o)
  unfold f189
  refine g_p q189 1 1 [some (oR 12 0), some (oR 16 a1), none] [oR 12 0] rfl ?_
  refine g_cV q189 rfl (g163 X s) rfl rfl rfl rfl rfl (fun s1 => ?_)
  refine g_p q189 2 6 [some (oR 12 0), some (oR 16 a1), none] [oR 16 a1, oR 12 0] rfl ?_
  refine g_cPI q189 rfl (g166 X a1 s1 ha1) rfl rfl rfl rfl rfl (fun r2 => ?_)
  refine g_p q189 3 12 [some (oR 12 0), some (oR 16 a1), some (vI r2)] [oR 12 0, oR 12 0] rfl ?_
  refine g_get q189 rfl rfl rfl (fun _ => rfl) (fun v3 => ?_)
  refine g_p q189 1 16 [some (oR 12 0), some (oR 16 a1), some (vI r2)] [vI r2, vI v3, oR 12 0] rfl ?_
  refine g_jn (fun j27 => ∀ (x4 : Int), J (j27 x4) (fun (r : Int × S2) => o = (some (vI r.1), r.2)) (Go X 6 189 27 [none, none, some (vI r2)] [vI x4, vI v3, oR 12 0] s1 o)) ?_ (fun j27 hj27 => ?_)
  ·
    intro x4
    refine g_p q189 1 28 [none, none, some (vI r2)] [vI (jadd v3 x4), oR 12 0] rfl ?_
    refine g_put q189 rfl rfl rfl (fun _ => rfl) (fun s5 => ?_)
    refine g_p q189 1 32 [none, none, some (vI r2)] [vI r2] rfl ?_
    exact g_retb2 q189 rfl rfl
  ·
    refine g_i1 q189 rfl rfl ?_ ?_
    ·
      refine g_p q189 1 27 [some (oR 12 0), some (oR 16 a1), some (vI r2)] [vI 0, vI v3, oR 12 0] rfl ?_
      exact g_wkJ [false, false, true] rfl (hj27 0)
    ·
      refine g_p q189 1 20 [some (oR 12 0), some (oR 16 a1), some (vI r2)] [oR 16 a1, vI v3, oR 12 0] rfl ?_
      refine g_cPI q189 rfl (g274 X a1 s1 ha1) rfl rfl rfl rfl rfl (fun r6 => ?_)
      refine g_p q189 1 27 [some (oR 12 0), some (oR 16 a1), some (vI r2)] [vI r6, vI v3, oR 12 0] rfl ?_
      exact g_wkJ [false, false, true] rfl (hj27 r6)
theorem q192 : am_cd 192 = am_c192 := rfl
theorem g192 (X : X2) (a1 : Int) (s : S2) (o : Option (AV R2) × S2) : J (f192 a1 s) (fun (r : S2) => o = (none, r)) (Go X 2 192 0 (am_loc (am_nl 192) [oR 12 0, vI a1]) [] s o) := by
  show J _ _ (Go X 2 192 0 [some (oR 12 0), some (vI a1)] [] s o)
  unfold f192
  refine g_p q192 2 3 [some (oR 12 0), some (vI a1)] [vI 9, vI a1] rfl ?_
  refine g_jn (fun j40 => ∀ (s1 : S2), J (j40 s1) (fun (r : S2) => o = (none, r)) (Go X 2 192 40 [some (oR 12 0), some (vI a1)] [] s1 o)) ?_ (fun j40 hj40 => ?_)
  ·
    intro s1
    refine g_p q192 1 41 [some (oR 12 0), some (vI a1)] [oR 12 0] rfl ?_
    refine g_m (S := [aR 1586 0]) (some (aR 1586 0)) q192 rfl rfl rfl (fun _ => rfl) rfl ?_
    refine g_p q192 1 45 [some (oR 12 0), some (vI a1)] [oR 12 0, aR 1586 0] rfl ?_
    refine g_get q192 rfl rfl rfl (fun _ => rfl) (fun v2 => ?_)
    refine g_p q192 1 49 [some (oR 12 0), some (vI a1)] [vI a1, vI v2, aR 1586 0] rfl ?_
    refine g_sto q192 rfl rfl rfl rfl (fun s3 => ?_)
    refine g_p q192 2 52 [some (oR 12 0), some (vI a1)] [oR 12 0, oR 12 0] rfl ?_
    refine g_get q192 rfl rfl rfl (fun _ => rfl) (fun v4 => ?_)
    refine g_p q192 2 57 [some (oR 12 0), some (vI a1)] [vI (jadd v4 1), oR 12 0] rfl ?_
    refine g_put q192 rfl rfl rfl (fun _ => rfl) (fun s5 => ?_)
    exact g_retV q192 rfl rfl
  ·
    refine g_jn (fun j12 => ∀ (_ : Unit), J (j12 ()) (fun (r : S2) => o = (none, r)) (Go X 2 192 12 [some (oR 12 0), some (vI a1)] [] s o)) ?_ (fun j12 hj12 => ?_)
    ·
      intro _
      refine g_p q192 1 13 [some (oR 12 0), some (vI a1)] [oR 12 0] rfl ?_
      refine g_get q192 rfl rfl rfl (fun _ => rfl) (fun v6 => ?_)
      refine g_p q192 1 18 [some (oR 12 0), some (vI a1)] [vI 10, vI v6] rfl ?_
      refine g_jn (fun j30 => ∀ (s7 : S2), J (j30 s7) (fun (r : S2) => o = (none, r)) (Go X 2 192 30 [some (oR 12 0), some (vI a1)] [] s7 o)) ?_ (fun j30 hj30 => ?_)
      ·
        intro s7
        refine g_p q192 2 32 [some (oR 12 0), some (vI a1)] [oR 12 0, oR 12 0] rfl ?_
        refine g_get q192 rfl rfl rfl (fun _ => rfl) (fun v8 => ?_)
        refine g_p q192 2 37 [some (oR 12 0), some (vI a1)] [vI (jadd v8 1), oR 12 0] rfl ?_
        refine g_put q192 rfl rfl rfl (fun _ => rfl) (fun s9 => ?_)
        exact g_wkJ [true, true] rfl (hj40 s9)
      ·
        refine g_i2 q192 rfl rfl ?_ ?_
        ·
          exact g_wkJ [true, true] rfl (hj30 s)
        ·
          refine g_p q192 3 24 [some (oR 12 0), some (vI a1)] [oR 12 0, vI 2, oR 12 0] rfl ?_
          refine g_get q192 rfl rfl rfl (fun _ => rfl) (fun v10 => ?_)
          refine g_cV q192 rfl (g167 X 2 v10 s) rfl rfl rfl rfl rfl (fun s11 => ?_)
          exact g_wkJ [true, true] rfl (hj30 s11)
    ·
      refine g_i2 q192 rfl rfl ?_ ?_
      ·
        exact g_wkJ [true, true] rfl (hj12 ())
      ·
        refine g_p q192 2 9 [some (oR 12 0), some (vI a1)] [vI 12, vI a1] rfl ?_
        refine g_i2 q192 rfl rfl ?_ ?_
        ·
          exact g_wkJ [true, true] rfl (hj40 s)
        ·
          exact g_wkJ [true, true] rfl (hj12 ())
theorem q193 : am_cd 193 = am_c193 := rfl
theorem g193 (X : X2) (s : S2) (o : Option (AV R2) × S2) : J (f193 s) (fun (r : S2) => o = (none, r)) (Go X 9 193 0 (am_loc (am_nl 193) [oR 12 0]) [] s o) := by
  show J _ _ (Go X 9 193 0 [some (oR 12 0), none, none] [] s o)
  unfold f193
  refine g_p q193 1 1 [some (oR 12 0), none, none] [oR 12 0] rfl ?_
  refine g_cV q193 rfl (g183 X s) rfl rfl rfl rfl rfl (fun s1 => ?_)
  refine g_p q193 1 5 [some (oR 12 0), none, none] [oR 12 0] rfl ?_
  refine g_cPI q193 rfl (g164 X s1) rfl rfl rfl rfl rfl (fun r2 => ?_)
  refine g_p q193 3 12 [some (oR 12 0), some (vI r2), none] [vI 60, vI r2] rfl ?_
  refine g_jn (fun j37 => ∀ (_ : Unit), J (j37 ()) (fun (r : S2) => o = (none, r)) (Go X 9 193 37 [some (oR 12 0), some (vI r2), none] [] s1 o)) ?_ (fun j37 hj37 => ?_)
  ·
    intro _
    refine g_p q193 2 39 [some (oR 12 0), some (vI r2), none] [oR 12 0, oR 12 0] rfl ?_
    refine g_get q193 rfl rfl rfl (fun _ => rfl) (fun v3 => ?_)
    refine g_cV q193 rfl (g186 X v3 s1) rfl rfl rfl rfl rfl (fun s4 => ?_)
    refine g_p q193 2 47 [some (oR 12 0), some (vI r2), none] [oR 12 0, oR 12 0] rfl ?_
    refine g_get q193 rfl rfl rfl (fun _ => rfl) (fun v5 => ?_)
    refine g_p q193 2 52 [some (oR 12 0), some (vI r2), none] [vI (jadd v5 1), oR 12 0] rfl ?_
    refine g_put q193 rfl rfl rfl (fun _ => rfl) (fun s6 => ?_)
    refine g_p q193 2 58 [some (oR 12 0), some (vI r2), none] [vI 61, vI r2] rfl ?_
    refine g_jn (fun j75 => ∀ (x7 : Int), J (j75 x7) (fun (r : S2) => o = (none, r)) (Go X 9 193 75 [some (oR 12 0), some (vI r2), none] [vI x7] s6 o)) ?_ (fun j75 hj75 => ?_)
    ·
      intro x7
      refine g_p q193 3 78 [some (oR 12 0), some (vI r2), some (vI x7)] [oR 12 0, oR 12 0] rfl ?_
      refine g_get q193 rfl rfl rfl (fun _ => rfl) (fun v8 => ?_)
      refine g_p q193 1 82 [some (oR 12 0), some (vI r2), some (vI x7)] [vI x7, vI v8, oR 12 0] rfl ?_
      refine g_jn (fun j90 => ∀ (x9 : Int), J (j90 x9) (fun (r : S2) => o = (none, r)) (Go X 9 193 90 [some (oR 12 0), some (vI r2), some (vI x7)] [vI x9, vI v8, oR 12 0] s6 o)) ?_ (fun j90 hj90 => ?_)
      ·
        intro x9
        refine g_p q193 1 91 [some (oR 12 0), some (vI r2), some (vI x7)] [vI (jadd v8 x9), oR 12 0] rfl ?_
        refine g_put q193 rfl rfl rfl (fun _ => rfl) (fun s10 => ?_)
        refine g_p q193 1 95 [some (oR 12 0), some (vI r2), some (vI x7)] [oR 12 0] rfl ?_
        refine g_cV q193 rfl (g183 X s10) rfl rfl rfl rfl rfl (fun s11 => ?_)
        refine g_p q193 3 102 [some (oR 12 0), some (vI r2), some (vI x7)] [vI 61, vI r2, oR 12 0] rfl ?_
        refine g_jn (fun j139 => ∀ (x12 : Int), J (j139 x12) (fun (r : S2) => o = (none, r)) (Go X 9 193 139 [none, none, none] [vI x12, oR 12 0] s11 o)) ?_ (fun j139 hj139 => ?_)
        ·
          intro x12
          refine g_p q193 1 140 [none, none, none] [vI 0, vI x12, oR 12 0] rfl ?_
          refine g_cV q193 rfl (g187 X x12 0 s11) rfl rfl rfl rfl rfl (fun s13 => ?_)
          exact g_retV q193 rfl rfl
        ·
          refine g_i2 q193 rfl rfl ?_ ?_
          ·
            refine g_p q193 2 113 [some (oR 12 0), some (vI r2), some (vI x7)] [vI 60, vI r2, oR 12 0] rfl ?_
            refine g_i2 q193 rfl rfl ?_ ?_
            ·
              refine g_p q193 1 129 [some (oR 12 0), some (vI r2), some (vI x7)] [vI x7, oR 12 0] rfl ?_
              refine g_i1 q193 rfl rfl ?_ ?_
              ·
                refine g_p q193 1 139 [some (oR 12 0), some (vI r2), some (vI x7)] [vI 8, oR 12 0] rfl ?_
                exact g_wkJ [false, false, false] rfl (hj139 8)
              ·
                refine g_p q193 2 139 [some (oR 12 0), some (vI r2), some (vI x7)] [vI 7, oR 12 0] rfl ?_
                exact g_wkJ [false, false, false] rfl (hj139 7)
            ·
              refine g_p q193 1 117 [some (oR 12 0), some (vI r2), some (vI x7)] [vI x7, oR 12 0] rfl ?_
              refine g_i1 q193 rfl rfl ?_ ?_
              ·
                refine g_p q193 2 139 [some (oR 12 0), some (vI r2), some (vI x7)] [vI 4, oR 12 0] rfl ?_
                exact g_wkJ [false, false, false] rfl (hj139 4)
              ·
                refine g_p q193 2 139 [some (oR 12 0), some (vI r2), some (vI x7)] [vI 5, oR 12 0] rfl ?_
                exact g_wkJ [false, false, false] rfl (hj139 5)
          ·
            refine g_p q193 2 139 [some (oR 12 0), some (vI r2), some (vI x7)] [vI 6, oR 12 0] rfl ?_
            exact g_wkJ [false, false, false] rfl (hj139 6)
      ·
        refine g_i1 q193 rfl rfl ?_ ?_
        ·
          refine g_p q193 1 90 [some (oR 12 0), some (vI r2), some (vI x7)] [vI 0, vI v8, oR 12 0] rfl ?_
          exact g_wkJ [true, true, true] rfl (hj90 0)
        ·
          refine g_p q193 2 90 [some (oR 12 0), some (vI r2), some (vI x7)] [vI 1, vI v8, oR 12 0] rfl ?_
          exact g_wkJ [true, true, true] rfl (hj90 1)
    ·
      refine g_jn (fun j74 => ∀ (_ : Unit), J (j74 ()) (fun (r : S2) => o = (none, r)) (Go X 9 193 74 [some (oR 12 0), some (vI r2), none] [] s6 o)) ?_ (fun j74 hj74 => ?_)
      ·
        intro _
        refine g_p q193 1 75 [some (oR 12 0), some (vI r2), none] [vI 0] rfl ?_
        exact g_wkJ [true, true, false] rfl (hj75 0)
      ·
        refine g_i2 q193 rfl rfl ?_ ?_
        ·
          exact g_wkJ [true, true, false] rfl (hj74 ())
        ·
          refine g_p q193 1 62 [some (oR 12 0), some (vI r2), none] [oR 12 0] rfl ?_
          refine g_cPI q193 rfl (g164 X s6) rfl rfl rfl rfl rfl (fun r14 => ?_)
          refine g_p q193 1 67 [some (oR 12 0), some (vI r2), none] [vI 61, vI r14] rfl ?_
          refine g_i2 q193 rfl rfl ?_ ?_
          ·
            exact g_wkJ [true, true, false] rfl (hj74 ())
          ·
            refine g_p q193 2 75 [some (oR 12 0), some (vI r2), none] [vI 1] rfl ?_
            exact g_wkJ [true, true, false] rfl (hj75 1)
  ·
    refine g_i2 q193 rfl rfl ?_ ?_
    ·
      exact g_wkJ [true, true, false] rfl (hj37 ())
    ·
      refine g_p q193 2 18 [some (oR 12 0), some (vI r2), none] [vI 61, vI r2] rfl ?_
      refine g_i2 q193 rfl rfl ?_ ?_
      ·
        exact g_wkJ [true, true, false] rfl (hj37 ())
      ·
        refine g_p q193 2 24 [some (oR 12 0), some (vI r2), none] [vI 62, vI r2] rfl ?_
        refine g_i2 q193 rfl rfl ?_ ?_
        ·
          exact g_wkJ [true, true, false] rfl (hj37 ())
        ·
          refine g_p q193 3 30 [some (oR 12 0), some (vI r2), none] [oR 12 0, vI 0, oR 12 0] rfl ?_
          refine g_get q193 rfl rfl rfl (fun _ => rfl) (fun v15 => ?_)
          refine g_cV q193 rfl (g167 X 0 v15 s1) rfl rfl rfl rfl rfl (fun s16 => ?_)
          exact g_retV q193 rfl rfl
theorem q191 : am_cd 191 = am_c191 := rfl
theorem g191 (X : X2) (s : S2) (o : Option (AV R2) × S2) : J (f191 s) (fun (r : Int × S2) => o = (some (vI r.1), r.2)) (Go X 10 191 0 (am_loc (am_nl 191) [oR 12 0]) [] s o) := by
  show J _ _ (Go X 10 191 0 [some (oR 12 0)] [] s o)
  unfold f191
  refine g_p q191 1 1 [some (oR 12 0)] [oR 12 0] rfl ?_
  refine g_cV q191 rfl (g163 X s) rfl rfl rfl rfl rfl (fun s1 => ?_)
  refine g_p q191 1 5 [some (oR 12 0)] [oR 12 0] rfl ?_
  refine g_m (S := [oR 16 20, oR 12 0]) (some (oR 16 20)) q191 rfl rfl rfl (fun _ => rfl) rfl ?_
  refine g_cPI q191 rfl (g166 X 20 s1 (Nat.le_of_ble_eq_true rfl)) rfl rfl rfl rfl rfl (fun r2 => ?_)
  refine g_i1 q191 rfl rfl ?_ ?_
  ·
    refine g_p q191 1 33 [some (oR 12 0)] [oR 12 0] rfl ?_
    refine g_cPI q191 rfl (g164 X s1) rfl rfl rfl rfl rfl (fun r3 => ?_)
    refine g_p q191 1 38 [some (oR 12 0)] [vI 91, vI r3] rfl ?_
    refine g_i2 q191 rfl rfl ?_ ?_
    ·
      refine g_p q191 1 60 [some (oR 12 0)] [oR 12 0] rfl ?_
      refine g_cV q191 rfl (g193 X s1) rfl rfl rfl rfl rfl (fun s4 => ?_)
      refine g_p q191 1 64 [some (oR 12 0)] [vI 1] rfl ?_
      exact g_ret q191 rfl rfl rfl
    ·
      refine g_p q191 2 44 [some (oR 12 0)] [vI 12, oR 12 0] rfl ?_
      refine g_cV q191 rfl (g192 X 12 s1) rfl rfl rfl rfl rfl (fun s5 => ?_)
      refine g_p q191 2 49 [some (oR 12 0)] [oR 12 0, oR 12 0] rfl ?_
      refine g_get q191 rfl rfl rfl (fun _ => rfl) (fun v6 => ?_)
      refine g_p q191 2 54 [some (oR 12 0)] [vI (jadd v6 1), oR 12 0] rfl ?_
      refine g_put q191 rfl rfl rfl (fun _ => rfl) (fun s7 => ?_)
      refine g_p q191 1 58 [some (oR 12 0)] [vI 0] rfl ?_
      exact g_ret q191 rfl rfl rfl
  ·
    refine g_p q191 2 17 [some (oR 12 0)] [vI 9, oR 12 0] rfl ?_
    refine g_cV q191 rfl (g192 X 9 s1) rfl rfl rfl rfl rfl (fun s8 => ?_)
    refine g_p q191 2 22 [some (oR 12 0)] [oR 12 0, oR 12 0] rfl ?_
    refine g_get q191 rfl rfl rfl (fun _ => rfl) (fun v9 => ?_)
    refine g_p q191 2 27 [some (oR 12 0)] [vI (jadd v9 3), oR 12 0] rfl ?_
    refine g_put q191 rfl rfl rfl (fun _ => rfl) (fun s10 => ?_)
    refine g_p q191 1 31 [some (oR 12 0)] [vI 0] rfl ?_
    exact g_ret q191 rfl rfl rfl
theorem q195 : am_cd 195 = am_c195 := rfl
theorem g195 (X : X2) (s : S2) (o : Option (AV R2) × S2) : J (f195 s) (fun (r : Int) => o = (some (vI r), s)) (Go X 1 195 0 (am_loc (am_nl 195) [oR 12 0]) [] s o) := by
  show J _ _ (Go X 1 195 0 [some (oR 12 0)] [] s o)
  unfold f195
  refine g_p q195 1 1 [some (oR 12 0)] [oR 12 0] rfl ?_
  refine g_get q195 rfl rfl rfl (fun _ => rfl) (fun v1 => ?_)
  refine g_i1 q195 rfl rfl ?_ ?_
  ·
    refine g_p q195 1 12 [some (oR 12 0)] [oR 12 0] rfl ?_
    refine g_m (S := [aR 1586 0]) (some (aR 1586 0)) q195 rfl rfl rfl (fun _ => rfl) rfl ?_
    refine g_p q195 1 16 [some (oR 12 0)] [oR 12 0, aR 1586 0] rfl ?_
    refine g_get q195 rfl rfl rfl (fun _ => rfl) (fun v2 => ?_)
    refine g_p q195 2 21 [some (oR 12 0)] [vI (jsub v2 1), aR 1586 0] rfl ?_
    refine g_ld q195 rfl rfl rfl rfl rfl rfl (fun v3 => ?_)
    exact g_ret q195 rfl rfl rfl
  ·
    refine g_p q195 2 22 [some (oR 12 0)] [vI (-1)] rfl ?_
    exact g_ret q195 rfl rfl rfl
theorem q194 : am_cd 194 = am_c194 := rfl
def H194_a (X : X2) (y1 : Int) (o : Option (AV R2) × S2) (a : S2) : Prop := Go X 2 194 0 [some (oR 12 0), some (vI y1)] [] a o
def E194_a (X : X2) (y1 : Int) (o : Option (AV R2) × S2) : (S2) → Prop := (fun (r : S2) => Go X 2 194 54 [none, none] [] r o)
theorem g194_a (X : X2) (y1 : Int) (s2 : S2) (o : Option (AV R2) × S2) : J (f194_a y1 s2) (am_kx (H194_a X y1 o) (E194_a X y1 o)) (Go X 2 194 0 [some (oR 12 0), some (vI y1)] [] s2 o) := by
  unfold f194_a
  refine g_p q194 1 1 [some (oR 12 0), some (vI y1)] [oR 12 0] rfl ?_
  refine g_cPI q194 rfl (g195 X s2) rfl rfl rfl rfl rfl (fun r3 => ?_)
  refine g_p q194 1 5 [some (oR 12 0), some (vI y1)] [vI y1, vI r3] rfl ?_
  refine g_i2 q194 rfl rfl ?_ ?_
  ·
    exact g_end (fun h => g_wk [false, false] rfl h)
  ·
    refine g_p q194 1 9 [some (oR 12 0), some (vI y1)] [oR 12 0] rfl ?_
    refine g_get q194 rfl rfl rfl (fun _ => rfl) (fun v4 => ?_)
    refine g_i1 q194 rfl rfl ?_ ?_
    ·
      exact g_end (fun h => g_wk [false, false] rfl h)
    ·
      refine g_p q194 3 18 [some (oR 12 0), some (vI y1)] [vI 0, vI y1, oR 12 0] rfl ?_
      refine g_cV q194 rfl (g187 X y1 0 s2) rfl rfl rfl rfl rfl (fun s5 => ?_)
      refine g_p q194 2 23 [some (oR 12 0), some (vI y1)] [oR 12 0, oR 12 0] rfl ?_
      refine g_get q194 rfl rfl rfl (fun _ => rfl) (fun v6 => ?_)
      refine g_p q194 2 28 [some (oR 12 0), some (vI y1)] [vI (jsub v6 1), oR 12 0] rfl ?_
      refine g_put q194 rfl rfl rfl (fun _ => rfl) (fun s7 => ?_)
      refine g_p q194 2 33 [some (oR 12 0), some (vI y1)] [oR 12 0, oR 12 0] rfl ?_
      refine g_get q194 rfl rfl rfl (fun _ => rfl) (fun v8 => ?_)
      refine g_p q194 2 39 [some (oR 12 0), some (vI y1)] [vI 9, vI y1, vI v8, oR 12 0] rfl ?_
      refine g_jn (fun j47 => ∀ (x9 : Int), J (j47 x9) (am_kx (H194_a X y1 o) (E194_a X y1 o)) (Go X 2 194 47 [some (oR 12 0), some (vI y1)] [vI x9, vI v8, oR 12 0] s7 o)) ?_ (fun j47 hj47 => ?_)
      ·
        intro x9
        refine g_p q194 1 48 [some (oR 12 0), some (vI y1)] [vI (jsub v8 x9), oR 12 0] rfl ?_
        refine g_put q194 rfl rfl rfl (fun _ => rfl) (fun s10 => ?_)
        refine g_p q194 1 0 [some (oR 12 0), some (vI y1)] [] rfl ?_
        exact g_end (fun h => g_wk [true, true] rfl h)
      ·
        refine g_i2 q194 rfl rfl ?_ ?_
        ·
          refine g_p q194 1 47 [some (oR 12 0), some (vI y1)] [vI 0, vI v8, oR 12 0] rfl ?_
          exact g_wkJ [true, true] rfl (hj47 0)
        ·
          refine g_p q194 2 47 [some (oR 12 0), some (vI y1)] [vI 1, vI v8, oR 12 0] rfl ?_
          exact g_wkJ [true, true] rfl (hj47 1)
theorem g194 (X : X2) (a1 : Int) (s : S2) (o : Option (AV R2) × S2) : J (f194 a1 s) (fun (r : S2) => o = (none, r)) (Go X 2 194 0 (am_loc (am_nl 194) [oR 12 0, vI a1]) [] s o) := by
  show J _ _ (Go X 2 194 0 [some (oR 12 0), some (vI a1)] [] s o)
  unfold f194
  refine g_wkJ [true, true] (L0 := [some (oR 12 0), some (vI a1)]) rfl ?_
  refine g_itr (H194_a X a1 o) (E194_a X a1 o) (fun s2 => g194_a X a1 s2 o) ?_
  intro s11
  show J _ _ (Go X 2 194 54 [none, none] [] s11 o)
  exact g_retV q194 rfl rfl
