/-! THE SMALL MACHINE FOLLOWS THE FUNCTIONS, written by a program (gen_fn.py) -/
theorem q251 : am_cd 251 = am_c251 := rfl
def H251_a (X : X2) (y7 : Int) (y8 : Int) (s10 : S2) (o : Option (AV R2) × S2) (a : Int) : Prop := Go X 4 251 81 [some (oR 12 0), some (vI y7), some (vI y8), none, some (vI a), none] [] s10 o
def E251_a (X : X2) (y7 : Int) (y8 : Int) (s10 : S2) (o : Option (AV R2) × S2) : (Int) ⊕ (Unit) → Prop := (am_kx (fun (r : Int) => Go X 4 251 154 [none, none, none, none, some (vI r), none] [] s10 o) (fun (r : Unit) => Go X 4 251 163 [none, none, none, none, none, none] [] s10 o))
theorem g251_a (X : X2) (y7 : Int) (y8 : Int) (x9 : Int) (s10 : S2) (o : Option (AV R2) × S2) : J (f251_a y7 y8 x9 s10) (am_kx (H251_a X y7 y8 s10 o) (E251_a X y7 y8 s10 o)) (Go X 4 251 81 [some (oR 12 0), some (vI y7), some (vI y8), none, some (vI x9), none] [] s10 o) := by
  unfold f251_a
  refine g_p q251 2 84 [some (oR 12 0), some (vI y7), some (vI y8), none, some (vI x9), none] [oR 12 0, vI x9] rfl ?_
  refine g_m (S := [aR 1537 0, vI x9]) (some (aR 1537 0)) q251 rfl rfl rfl (fun _ => rfl) rfl ?_
  refine g_p q251 1 88 [some (oR 12 0), some (vI y7), some (vI y8), none, some (vI x9), none] [vI 3, aR 1537 0, vI x9] rfl ?_
  refine g_ld q251 rfl rfl rfl rfl rfl rfl (fun v11 => ?_)
  refine g_i2 q251 rfl rfl ?_ ?_
  ·
    exact g_end (fun h => g_wk [false, false, false, false, false, false] rfl h)
  ·
    refine g_p q251 2 94 [some (oR 12 0), some (vI y7), some (vI y8), none, some (vI x9), none] [vI y8, vI y7] rfl ?_
    refine g_i2 q251 rfl rfl ?_ ?_
    ·
      exact g_end (fun h => g_wk [false, false, false, false, false, false] rfl h)
    ·
      refine g_p q251 2 100 [some (oR 12 0), some (vI y7), some (vI y8), none, some (vI x9), none] [vI x9, oR 12 0] rfl ?_
      refine g_cPI q251 rfl (g201 X x9 s10) rfl rfl rfl rfl rfl (fun r12 => ?_)
      refine g_jn (fun j117 => ∀ (x13 : Int), J (j117 x13) (am_kx (H251_a X y7 y8 s10 o) (E251_a X y7 y8 s10 o)) (Go X 4 251 117 [some (oR 12 0), some (vI y7), some (vI y8), none, some (vI x9), none] [vI x13] s10 o)) ?_ (fun j117 hj117 => ?_)
      ·
        intro x13
        refine g_p q251 3 122 [some (oR 12 0), some (vI y7), some (vI y8), none, some (vI x9), some (vI x13)] [vI (-1), vI x13] rfl ?_
        refine g_i2 q251 rfl rfl ?_ ?_
        ·
          refine g_inc (fun v14 => [some (oR 12 0), some (vI y7), some (vI y8), none, some (vI v14), some (vI x13)]) q251 rfl rfl (fun _ => rfl) (fun v14 => ?_)
          refine g_p q251 1 81 [some (oR 12 0), some (vI y7), some (vI y8), none, some (vI v14), some (vI x13)] [] rfl ?_
          exact g_end (fun h => g_wk [true, true, true, false, true, false] rfl h)
        ·
          refine g_p q251 1 126 [some (oR 12 0), some (vI y7), some (vI y8), none, some (vI x9), some (vI x13)] [oR 12 0] rfl ?_
          refine g_m (S := [aR 1603 0]) (some (aR 1603 0)) q251 rfl rfl rfl (fun _ => rfl) rfl ?_
          refine g_p q251 1 131 [some (oR 12 0), some (vI y7), some (vI y8), none, some (vI x9), some (vI x13)] [vI x13, aR 1603 0] rfl ?_
          refine g_ld q251 rfl rfl rfl rfl rfl rfl (fun v15 => ?_)
          refine g_p q251 2 135 [some (oR 12 0), some (vI y7), some (vI y8), none, some (vI x9), some (vI x13)] [oR 12 0, vI 100, vI v15] rfl ?_
          refine g_m (S := [aR 1542 0, vI 100, vI v15]) (some (aR 1542 0)) q251 rfl rfl rfl (fun _ => rfl) rfl ?_
          refine g_p q251 1 140 [some (oR 12 0), some (vI y7), some (vI y8), none, some (vI x9), some (vI x13)] [vI x9, aR 1542 0, vI 100, vI v15] rfl ?_
          refine g_ld q251 rfl rfl rfl rfl rfl rfl (fun v16 => ?_)
          refine g_p q251 5 146 [some (oR 12 0), some (vI y7), some (vI y8), none, some (vI x9), some (vI x13)] [oR 12 0, vI (jadd (jadd v15 (jmul 100 v16)) 1)] rfl ?_
          refine g_m (S := [aR 1603 0, vI (jadd (jadd v15 (jmul 100 v16)) 1)]) (some (aR 1603 0)) q251 rfl rfl rfl (fun _ => rfl) rfl ?_
          refine g_p q251 1 150 [some (oR 12 0), some (vI y7), some (vI y8), none, some (vI x9), some (vI x13)] [vI y7, aR 1603 0, vI (jadd (jadd v15 (jmul 100 v16)) 1)] rfl ?_
          refine g_ld q251 rfl rfl rfl rfl rfl rfl (fun v17 => ?_)
          refine g_i2 q251 rfl rfl ?_ ?_
          ·
            refine g_inc (fun v18 => [some (oR 12 0), some (vI y7), some (vI y8), none, some (vI v18), some (vI x13)]) q251 rfl rfl (fun _ => rfl) (fun v18 => ?_)
            refine g_p q251 1 81 [some (oR 12 0), some (vI y7), some (vI y8), none, some (vI v18), some (vI x13)] [] rfl ?_
            exact g_end (fun h => g_wk [true, true, true, false, true, false] rfl h)
          ·
            exact g_end (fun h => g_wk [false, false, false, false, true, false] rfl h)
      ·
        refine g_i1 q251 rfl rfl ?_ ?_
        ·
          refine g_p q251 3 114 [some (oR 12 0), some (vI y7), some (vI y8), none, some (vI x9), none] [vI y7, vI x9, oR 12 0] rfl ?_
          refine g_cPI q251 rfl (g253 X x9 y7 s10) rfl rfl rfl rfl rfl (fun r19 => ?_)
          exact g_wkJ [true, true, true, false, true, false] rfl (hj117 r19)
        ·
          refine g_p q251 2 117 [some (oR 12 0), some (vI y7), some (vI y8), none, some (vI x9), none] [vI (-1)] rfl ?_
          exact g_wkJ [true, true, true, false, true, false] rfl (hj117 (-1))
theorem g251 (X : X2) (a1 : Int) (a2 : Int) (a3 : Int) (s : S2) (o : Option (AV R2) × S2) : J (f251 a1 a2 a3 s) (fun (r : Int × S2) => o = (some (vI r.1), r.2)) (Go X 4 251 0 (am_loc (am_nl 251) [oR 12 0, vI a1, vI a2, vI a3]) [] s o) := by
  show J _ _ (Go X 4 251 0 [some (oR 12 0), some (vI a1), some (vI a2), some (vI a3), none, none] [] s o)
  unfold f251
  refine g_p q251 1 1 [some (oR 12 0), some (vI a1), some (vI a2), some (vI a3), none, none] [oR 12 0] rfl ?_
  refine g_cPI q251 rfl (g220 X s) rfl rfl rfl rfl rfl (fun r1 => ?_)
  refine g_i1 q251 rfl rfl ?_ ?_
  ·
    refine g_p q251 1 43 [some (oR 12 0), some (vI a1), some (vI a2), some (vI a3), none, none] [vI (-3)] rfl ?_
    exact g_ret q251 rfl rfl rfl
  ·
    refine g_p q251 4 13 [some (oR 12 0), some (vI a1), some (vI a2), some (vI a3), none, none] [vL 7, vL 0, vL (ji2l a1)] rfl ?_
    refine g_cPI q251 rfl (g173 X (ji2l a1) 0 7 s) rfl rfl rfl rfl rfl (fun r2 => ?_)
    refine g_i1 q251 rfl rfl ?_ ?_
    ·
      refine g_p q251 1 43 [some (oR 12 0), some (vI a1), some (vI a2), some (vI a3), none, none] [vI (-3)] rfl ?_
      exact g_ret q251 rfl rfl rfl
    ·
      refine g_p q251 4 25 [some (oR 12 0), some (vI a1), some (vI a2), some (vI a3), none, none] [vL 7, vL 0, vL (ji2l a2)] rfl ?_
      refine g_cPI q251 rfl (g173 X (ji2l a2) 0 7 s) rfl rfl rfl rfl rfl (fun r3 => ?_)
      refine g_i1 q251 rfl rfl ?_ ?_
      ·
        refine g_p q251 1 43 [some (oR 12 0), some (vI a1), some (vI a2), some (vI a3), none, none] [vI (-3)] rfl ?_
        exact g_ret q251 rfl rfl rfl
      ·
        refine g_p q251 4 35 [some (oR 12 0), some (vI a1), some (vI a2), some (vI a3), none, none] [vL 1, vL 0, vL (ji2l a3)] rfl ?_
        refine g_cPI q251 rfl (g173 X (ji2l a3) 0 1 s) rfl rfl rfl rfl rfl (fun r4 => ?_)
        refine g_i1 q251 rfl rfl ?_ ?_
        ·
          refine g_p q251 2 46 [some (oR 12 0), some (vI a1), some (vI a2), some (vI a3), none, none] [vI a2, oR 12 0] rfl ?_
          refine g_cV q251 rfl (g252 X a2 s) rfl rfl rfl rfl rfl (fun s5 => ?_)
          refine g_p q251 1 50 [some (oR 12 0), some (vI a1), some (vI a2), some (vI a3), none, none] [oR 12 0] rfl ?_
          refine g_m (S := [aR 1603 0]) (some (aR 1603 0)) q251 rfl rfl rfl (fun _ => rfl) rfl ?_
          refine g_p q251 1 54 [some (oR 12 0), some (vI a1), some (vI a2), some (vI a3), none, none] [vI a1, aR 1603 0] rfl ?_
          refine g_ld q251 rfl rfl rfl rfl rfl rfl (fun v6 => ?_)
          refine g_p q251 1 58 [some (oR 12 0), some (vI a1), some (vI a2), some (vI a3), none, none] [vI 100000, vI v6] rfl ?_
          refine g_i2 q251 rfl rfl ?_ ?_
          ·
            refine g_p q251 1 65 [some (oR 12 0), some (vI a1), some (vI a2), some (vI a3), none, none] [vI a3] rfl ?_
            refine g_i1 q251 rfl rfl ?_ ?_
            ·
              refine g_p q251 2 81 [some (oR 12 0), some (vI a1), some (vI a2), some (vI a3), some (vI 0), none] [] rfl ?_
              refine g_wkJ [true, true, true, false, true, false] (L0 := [some (oR 12 0), some (vI a1), some (vI a2), none, some (vI 0), none]) rfl ?_
              refine g_itr (H251_a X a1 a2 s5 o) (E251_a X a1 a2 s5 o) (fun x9 => g251_a X a1 a2 x9 s5 o) ?_
              refine g_se ?_ ?_
              ·
                intro z20
                show J _ _ (Go X 4 251 154 [none, none, none, none, some (vI z20), none] [] s5 o)
                refine g_p q251 1 156 [none, none, none, none, some (vI z20), none] [vI z20] rfl ?_
                exact g_ret q251 rfl rfl rfl
              ·
                intro _
                show J _ _ (Go X 4 251 163 [none, none, none, none, none, none] [] s5 o)
                refine g_p q251 1 164 [none, none, none, none, none, none] [vI (-1)] rfl ?_
                exact g_ret q251 rfl rfl rfl
            ·
              refine g_p q251 1 69 [some (oR 12 0), some (vI a1), some (vI a2), some (vI a3), none, none] [oR 12 0] rfl ?_
              refine g_m (S := [aR 1603 0]) (some (aR 1603 0)) q251 rfl rfl rfl (fun _ => rfl) rfl ?_
              refine g_p q251 1 73 [some (oR 12 0), some (vI a1), some (vI a2), some (vI a3), none, none] [vI a1, aR 1603 0] rfl ?_
              refine g_ld q251 rfl rfl rfl rfl rfl rfl (fun v21 => ?_)
              refine g_p q251 2 77 [some (oR 12 0), some (vI a1), some (vI a2), some (vI a3), none, none] [vI (jdiv v21 100)] rfl ?_
              refine g_top (fun v22 => ?_)
              exact g_ret q251 rfl rfl rfl
          ·
            refine g_p q251 1 63 [some (oR 12 0), some (vI a1), some (vI a2), some (vI a3), none, none] [vI (-2)] rfl ?_
            exact g_ret q251 rfl rfl rfl
        ·
          refine g_p q251 1 43 [some (oR 12 0), some (vI a1), some (vI a2), some (vI a3), none, none] [vI (-3)] rfl ?_
          exact g_ret q251 rfl rfl rfl
theorem q255 : am_cd 255 = am_c255 := rfl
def H255_a (X : X2) (y1 : Int) (y2 : Int) (s5 : S2) (o : Option (AV R2) × S2) (a : Int × Int) : Prop := Go X 1 255 5 [some (oR 12 0), some (vI y1), some (vI y2), some (vI (a.1)), some (vI (a.2))] [] s5 o
def E255_a (X : X2) (y1 : Int) (y2 : Int) (s5 : S2) (o : Option (AV R2) × S2) : (Int) → Prop := (fun (r : Int) => Go X 1 255 57 [none, none, none, some (vI r), none] [] s5 o)
theorem g255_a (X : X2) (y1 : Int) (y2 : Int) (x3 : Int) (x4 : Int) (s5 : S2) (o : Option (AV R2) × S2) : J (f255_a y1 y2 x3 x4 s5) (am_kx (H255_a X y1 y2 s5 o) (E255_a X y1 y2 s5 o)) (Go X 1 255 5 [some (oR 12 0), some (vI y1), some (vI y2), some (vI x3), some (vI x4)] [] s5 o) := by
  unfold f255_a
  refine g_p q255 2 8 [some (oR 12 0), some (vI y1), some (vI y2), some (vI x3), some (vI x4)] [oR 12 0, vI x4] rfl ?_
  refine g_m (S := [aR 1537 0, vI x4]) (some (aR 1537 0)) q255 rfl rfl rfl (fun _ => rfl) rfl ?_
  refine g_p q255 1 12 [some (oR 12 0), some (vI y1), some (vI y2), some (vI x3), some (vI x4)] [vI 4, aR 1537 0, vI x4] rfl ?_
  refine g_ld q255 rfl rfl rfl rfl rfl rfl (fun v6 => ?_)
  refine g_i2 q255 rfl rfl ?_ ?_
  ·
    exact g_end (fun h => g_wk [false, false, false, true, false] rfl h)
  ·
    refine g_p q255 2 18 [some (oR 12 0), some (vI y1), some (vI y2), some (vI x3), some (vI x4)] [oR 12 0, vI x3] rfl ?_
    refine g_m (S := [aR 1548 0, vI x3]) (some (aR 1548 0)) q255 rfl rfl rfl (fun _ => rfl) rfl ?_
    refine g_p q255 1 23 [some (oR 12 0), some (vI y1), some (vI y2), some (vI x3), some (vI x4)] [vI x4, aR 1548 0, vI x3] rfl ?_
    refine g_ld q255 rfl rfl rfl rfl rfl rfl (fun v7 => ?_)
    refine g_p q255 1 25 [some (oR 12 0), some (vI y1), some (vI y2), some (vI x3), some (vI x4)] [vI y1, vI v7, vI x3] rfl ?_
    refine g_jn (fun j49 => ∀ (x8 : Int), J (j49 x8) (am_kx (H255_a X y1 y2 s5 o) (E255_a X y1 y2 s5 o)) (Go X 1 255 49 [some (oR 12 0), some (vI y1), some (vI y2), none, some (vI x4)] [vI x8, vI x3] s5 o)) ?_ (fun j49 hj49 => ?_)
    ·
      intro x8
      refine g_p q255 1 50 [some (oR 12 0), some (vI y1), some (vI y2), none, some (vI x4)] [vI (jadd x3 x8)] rfl ?_
      refine g_top (fun v9 => ?_)
      refine g_p q255 1 51 [some (oR 12 0), some (vI y1), some (vI y2), some (vI v9), some (vI x4)] [] rfl ?_
      refine g_inc (fun v10 => [some (oR 12 0), some (vI y1), some (vI y2), some (vI v9), some (vI v10)]) q255 rfl rfl (fun _ => rfl) (fun v10 => ?_)
      refine g_p q255 1 5 [some (oR 12 0), some (vI y1), some (vI y2), some (vI v9), some (vI v10)] [] rfl ?_
      exact g_end (fun h => g_wk [true, true, true, true, true] rfl h)
    ·
      refine g_i2 q255 rfl rfl ?_ ?_
      ·
        refine g_p q255 1 49 [some (oR 12 0), some (vI y1), some (vI y2), some (vI x3), some (vI x4)] [vI 0, vI x3] rfl ?_
        exact g_wkJ [true, true, true, false, true] rfl (hj49 0)
      ·
        refine g_p q255 1 29 [some (oR 12 0), some (vI y1), some (vI y2), some (vI x3), some (vI x4)] [oR 12 0, vI x3] rfl ?_
        refine g_m (S := [aR 1547 0, vI x3]) (some (aR 1547 0)) q255 rfl rfl rfl (fun _ => rfl) rfl ?_
        refine g_p q255 1 34 [some (oR 12 0), some (vI y1), some (vI y2), some (vI x3), some (vI x4)] [vI x4, aR 1547 0, vI x3] rfl ?_
        refine g_ld q255 rfl rfl rfl rfl rfl rfl (fun v11 => ?_)
        refine g_p q255 1 36 [some (oR 12 0), some (vI y1), some (vI y2), some (vI x3), some (vI x4)] [oR 12 0, vI v11, vI x3] rfl ?_
        refine g_m (S := [aR 1546 0, vI v11, vI x3]) (some (aR 1546 0)) q255 rfl rfl rfl (fun _ => rfl) rfl ?_
        refine g_p q255 1 41 [some (oR 12 0), some (vI y1), some (vI y2), some (vI x3), some (vI x4)] [vI x4, aR 1546 0, vI v11, vI x3] rfl ?_
        refine g_ld q255 rfl rfl rfl rfl rfl rfl (fun v12 => ?_)
        refine g_p q255 4 49 [some (oR 12 0), some (vI y1), some (vI y2), some (vI x3), some (vI x4)] [vI (jadd v11 (jmul v12 y2)), vI x3] rfl ?_
        exact g_wkJ [true, true, true, false, true] rfl (hj49 (jadd v11 (jmul v12 y2)))
theorem g255 (X : X2) (a1 : Int) (a2 : Int) (s : S2) (o : Option (AV R2) × S2) : J (f255 a1 a2 s) (fun (r : Int) => o = (some (vI r), s)) (Go X 1 255 0 (am_loc (am_nl 255) [oR 12 0, vI a1, vI a2]) [] s o) := by
  show J _ _ (Go X 1 255 0 [some (oR 12 0), some (vI a1), some (vI a2), none, none] [] s o)
  unfold f255
  refine g_p q255 4 5 [some (oR 12 0), some (vI a1), some (vI a2), some (vI 0), some (vI 0)] [] rfl ?_
  refine g_wkJ [true, true, true, true, true] (L0 := [some (oR 12 0), some (vI a1), some (vI a2), some (vI 0), some (vI 0)]) rfl ?_
  refine g_itr (H255_a X a1 a2 s o) (E255_a X a1 a2 s o) (fun | (x3, x4) => g255_a X a1 a2 x3 x4 s o) ?_
  intro z13
  show J _ _ (Go X 1 255 57 [none, none, none, some (vI z13), none] [] s o)
  refine g_p q255 1 58 [none, none, none, some (vI z13), none] [vI z13] rfl ?_
  exact g_ret q255 rfl rfl rfl
theorem q254 : am_cd 254 = am_c254 := rfl
def H254_a (X : X2) (y2 : Int) (s5 : S2) (o : Option (AV R2) × S2) (a : Int × Int) : Prop := Go X 3 254 15 [some (oR 12 0), some (vI y2), some (vI (a.1)), some (vI (a.2))] [] s5 o
def E254_a (X : X2) (y2 : Int) (s5 : S2) (o : Option (AV R2) × S2) : (Int) → Prop := (fun (r : Int) => Go X 3 254 48 [none, none, some (vI r), none] [] s5 o)
theorem g254_a (X : X2) (y2 : Int) (x3 : Int) (x4 : Int) (s5 : S2) (o : Option (AV R2) × S2) : J (f254_a y2 x3 x4 s5) (am_kx (H254_a X y2 s5 o) (E254_a X y2 s5 o)) (Go X 3 254 15 [some (oR 12 0), some (vI y2), some (vI x3), some (vI x4)] [] s5 o) := by
  unfold f254_a
  refine g_p q254 2 18 [some (oR 12 0), some (vI y2), some (vI x3), some (vI x4)] [vI 99, vI x4] rfl ?_
  refine g_i2 q254 rfl rfl ?_ ?_
  ·
    exact g_end (fun h => g_wk [false, false, true, false] rfl h)
  ·
    refine g_p q254 3 24 [some (oR 12 0), some (vI y2), some (vI x3), some (vI x4)] [vI x4, vI y2, oR 12 0] rfl ?_
    refine g_cPI q254 rfl (g255 X y2 x4 s5) rfl rfl rfl rfl rfl (fun r6 => ?_)
    refine g_p q254 1 28 [some (oR 12 0), some (vI y2), some (vI x3), some (vI x4)] [oR 12 0, vI r6] rfl ?_
    refine g_m (S := [aR 1543 0, vI r6]) (some (aR 1543 0)) q254 rfl rfl rfl (fun _ => rfl) rfl ?_
    refine g_p q254 1 32 [some (oR 12 0), some (vI y2), some (vI x3), some (vI x4)] [vI y2, aR 1543 0, vI r6] rfl ?_
    refine g_ld q254 rfl rfl rfl rfl rfl rfl (fun v7 => ?_)
    refine g_i2 q254 rfl rfl ?_ ?_
    ·
      refine g_p q254 2 42 [some (oR 12 0), some (vI y2), some (vI x3), some (vI x4)] [] rfl ?_
      refine g_inc (fun v8 => [some (oR 12 0), some (vI y2), some (vI x3), some (vI v8)]) q254 rfl rfl (fun _ => rfl) (fun v8 => ?_)
      refine g_p q254 1 15 [some (oR 12 0), some (vI y2), some (vI x3), some (vI v8)] [] rfl ?_
      exact g_end (fun h => g_wk [true, true, true, true] rfl h)
    ·
      refine g_p q254 3 42 [some (oR 12 0), some (vI y2), some (vI x4), some (vI x4)] [] rfl ?_
      refine g_inc (fun v9 => [some (oR 12 0), some (vI y2), some (vI x4), some (vI v9)]) q254 rfl rfl (fun _ => rfl) (fun v9 => ?_)
      refine g_p q254 1 15 [some (oR 12 0), some (vI y2), some (vI x4), some (vI v9)] [] rfl ?_
      exact g_end (fun h => g_wk [true, true, true, true] rfl h)
theorem g254 (X : X2) (a1 : Int) (s : S2) (o : Option (AV R2) × S2) : J (f254 a1 s) (fun (r : Int) => o = (some (vI r), s)) (Go X 3 254 0 (am_loc (am_nl 254) [oR 12 0, vI a1]) [] s o) := by
  show J _ _ (Go X 3 254 0 [some (oR 12 0), some (vI a1), none, none] [] s o)
  unfold f254
  refine g_p q254 2 2 [some (oR 12 0), some (vI a1), none, none] [vI a1, oR 12 0] rfl ?_
  refine g_cPI q254 rfl (g210 X a1 s) rfl rfl rfl rfl rfl (fun r1 => ?_)
  refine g_i1 q254 rfl rfl ?_ ?_
  ·
    refine g_p q254 4 15 [some (oR 12 0), some (vI a1), some (vI (-1)), some (vI 0)] [] rfl ?_
    refine g_wkJ [true, true, true, true] (L0 := [some (oR 12 0), some (vI a1), some (vI (-1)), some (vI 0)]) rfl ?_
    refine g_itr (H254_a X a1 s o) (E254_a X a1 s o) (fun | (x3, x4) => g254_a X a1 x3 x4 s o) ?_
    intro z10
    show J _ _ (Go X 3 254 48 [none, none, some (vI z10), none] [] s o)
    refine g_p q254 1 49 [none, none, some (vI z10), none] [vI z10] rfl ?_
    exact g_ret q254 rfl rfl rfl
  ·
    refine g_p q254 1 10 [some (oR 12 0), some (vI a1), none, none] [vI (-2)] rfl ?_
    exact g_ret q254 rfl rfl rfl
theorem q256 : am_cd 256 = am_c256 := rfl
def H256_a (X : X2) (y3 : Int) (s6 : S2) (o : Option (AV R2) × S2) (a : Int × Int) : Prop := Go X 3 256 25 [some (oR 12 0), some (vI y3), some (vI (a.1)), some (vI (a.2))] [] s6 o
def E256_a (X : X2) (y3 : Int) (s6 : S2) (o : Option (AV R2) × S2) : (Int) → Prop := (fun (r : Int) => Go X 3 256 74 [none, none, some (vI r), none] [] s6 o)
theorem g256_a (X : X2) (y3 : Int) (x4 : Int) (x5 : Int) (s6 : S2) (o : Option (AV R2) × S2) : J (f256_a y3 x4 x5 s6) (am_kx (H256_a X y3 s6 o) (E256_a X y3 s6 o)) (Go X 3 256 25 [some (oR 12 0), some (vI y3), some (vI x4), some (vI x5)] [] s6 o) := by
  unfold f256_a
  refine g_p q256 2 27 [some (oR 12 0), some (vI y3), some (vI x4), some (vI x5)] [oR 12 0, vI x5] rfl ?_
  refine g_m (S := [aR 1537 0, vI x5]) (some (aR 1537 0)) q256 rfl rfl rfl (fun _ => rfl) rfl ?_
  refine g_p q256 1 31 [some (oR 12 0), some (vI y3), some (vI x4), some (vI x5)] [vI 3, aR 1537 0, vI x5] rfl ?_
  refine g_ld q256 rfl rfl rfl rfl rfl rfl (fun v7 => ?_)
  refine g_i2 q256 rfl rfl ?_ ?_
  ·
    exact g_end (fun h => g_wk [false, false, true, false] rfl h)
  ·
    refine g_p q256 3 38 [some (oR 12 0), some (vI y3), some (vI x4), some (vI x5)] [vI x5, oR 12 0, vI x4] rfl ?_
    refine g_cPI q256 rfl (g201 X x5 s6) rfl rfl rfl rfl rfl (fun r8 => ?_)
    refine g_jn (fun j66 => ∀ (x9 : Int), J (j66 x9) (am_kx (H256_a X y3 s6 o) (E256_a X y3 s6 o)) (Go X 3 256 66 [some (oR 12 0), some (vI y3), none, some (vI x5)] [vI x9, vI x4] s6 o)) ?_ (fun j66 hj66 => ?_)
    ·
      intro x9
      refine g_p q256 1 67 [some (oR 12 0), some (vI y3), none, some (vI x5)] [vI (jor x4 x9)] rfl ?_
      refine g_top (fun v10 => ?_)
      refine g_p q256 1 68 [some (oR 12 0), some (vI y3), some (vI v10), some (vI x5)] [] rfl ?_
      refine g_inc (fun v11 => [some (oR 12 0), some (vI y3), some (vI v10), some (vI v11)]) q256 rfl rfl (fun _ => rfl) (fun v11 => ?_)
      refine g_p q256 1 25 [some (oR 12 0), some (vI y3), some (vI v10), some (vI v11)] [] rfl ?_
      exact g_end (fun h => g_wk [true, true, true, true] rfl h)
    ·
      refine g_jn (fun j65 => ∀ (_ : Unit), J (j65 ()) (am_kx (H256_a X y3 s6 o) (E256_a X y3 s6 o)) (Go X 3 256 65 [some (oR 12 0), some (vI y3), none, some (vI x5)] [vI x4] s6 o)) ?_ (fun j65 hj65 => ?_)
      ·
        intro _
        refine g_p q256 1 66 [some (oR 12 0), some (vI y3), none, some (vI x5)] [vI 0, vI x4] rfl ?_
        exact g_wkJ [true, true, false, true] rfl (hj66 0)
      ·
        refine g_i1 q256 rfl rfl ?_ ?_
        ·
          exact g_wkJ [true, true, false, true] rfl (hj65 ())
        ·
          refine g_p q256 3 47 [some (oR 12 0), some (vI y3), some (vI x4), some (vI x5)] [vI y3, vI x5, oR 12 0, vI x4] rfl ?_
          refine g_cPI q256 rfl (g255 X x5 y3 s6) rfl rfl rfl rfl rfl (fun r12 => ?_)
          refine g_p q256 1 51 [some (oR 12 0), some (vI y3), some (vI x4), some (vI x5)] [oR 12 0, vI r12, vI x4] rfl ?_
          refine g_m (S := [aR 1543 0, vI r12, vI x4]) (some (aR 1543 0)) q256 rfl rfl rfl (fun _ => rfl) rfl ?_
          refine g_p q256 1 55 [some (oR 12 0), some (vI y3), some (vI x4), some (vI x5)] [vI x5, aR 1543 0, vI r12, vI x4] rfl ?_
          refine g_ld q256 rfl rfl rfl rfl rfl rfl (fun v13 => ?_)
          refine g_i2 q256 rfl rfl ?_ ?_
          ·
            exact g_wkJ [true, true, false, true] rfl (hj65 ())
          ·
            refine g_p q256 4 66 [some (oR 12 0), some (vI y3), some (vI x4), some (vI x5)] [vI (jshl 1 x5), vI x4] rfl ?_
            exact g_wkJ [true, true, false, true] rfl (hj66 (jshl 1 x5))
theorem g256 (X : X2) (a1 : Int) (s : S2) (o : Option (AV R2) × S2) : J (f256 a1 s) (fun (r : Int) => o = (some (vI r), s)) (Go X 3 256 0 (am_loc (am_nl 256) [oR 12 0, vI a1]) [] s o) := by
  show J _ _ (Go X 3 256 0 [some (oR 12 0), some (vI a1), none, none] [] s o)
  unfold f256
  refine g_p q256 1 1 [some (oR 12 0), some (vI a1), none, none] [oR 12 0] rfl ?_
  refine g_cPI q256 rfl (g220 X s) rfl rfl rfl rfl rfl (fun r1 => ?_)
  refine g_i1 q256 rfl rfl ?_ ?_
  ·
    refine g_p q256 1 20 [some (oR 12 0), some (vI a1), none, none] [vI (-1)] rfl ?_
    exact g_ret q256 rfl rfl rfl
  ·
    refine g_p q256 4 13 [some (oR 12 0), some (vI a1), none, none] [vL 99, vL 0, vL (ji2l a1)] rfl ?_
    refine g_cPI q256 rfl (g173 X (ji2l a1) 0 99 s) rfl rfl rfl rfl rfl (fun r2 => ?_)
    refine g_i1 q256 rfl rfl ?_ ?_
    ·
      refine g_p q256 4 25 [some (oR 12 0), some (vI a1), some (vI 0), some (vI 0)] [] rfl ?_
      refine g_wkJ [true, true, true, true] (L0 := [some (oR 12 0), some (vI a1), some (vI 0), some (vI 0)]) rfl ?_
      refine g_itr (H256_a X a1 s o) (E256_a X a1 s o) (fun | (x4, x5) => g256_a X a1 x4 x5 s o) ?_
      intro z14
      show J _ _ (Go X 3 256 74 [none, none, some (vI z14), none] [] s o)
      refine g_p q256 1 75 [none, none, some (vI z14), none] [vI z14] rfl ?_
      exact g_ret q256 rfl rfl rfl
    ·
      refine g_p q256 1 20 [some (oR 12 0), some (vI a1), none, none] [vI (-1)] rfl ?_
      exact g_ret q256 rfl rfl rfl
theorem q257 : am_cd 257 = am_c257 := rfl
theorem g257 (X : X2) (a1 : Int) (a2 : Int) (s : S2) (o : Option (AV R2) × S2) : J (f257 a1 a2 s) (fun (r : Int × S2) => o = (some (vI r.1), r.2)) (Go X 8 257 0 (am_loc (am_nl 257) [oR 12 0, vI a1, vI a2]) [] s o) := by
  show J _ _ (Go X 8 257 0 [some (oR 12 0), some (vI a1), some (vI a2), none, none, none] [] s o)
  unfold f257
  refine g_p q257 2 2 [some (oR 12 0), some (vI a1), some (vI a2), none, none, none] [vI a1, oR 12 0] rfl ?_
  refine g_cPI q257 rfl (g214 X a1 s) rfl rfl rfl rfl rfl (fun r1 => ?_)
  refine g_i1 q257 rfl rfl ?_ ?_
  ·
    refine g_p q257 1 33 [some (oR 12 0), some (vI a1), some (vI a2), none, none, none] [vI (-100000)] rfl ?_
    exact g_ret q257 rfl rfl rfl
  ·
    refine g_p q257 1 9 [some (oR 12 0), some (vI a1), some (vI a2), none, none, none] [oR 12 0] rfl ?_
    refine g_m (S := [aR 1548 0]) (some (aR 1548 0)) q257 rfl rfl rfl (fun _ => rfl) rfl ?_
    refine g_p q257 1 13 [some (oR 12 0), some (vI a1), some (vI a2), none, none, none] [vI a1, aR 1548 0] rfl ?_
    refine g_ld q257 rfl rfl rfl rfl rfl rfl (fun v2 => ?_)
    refine g_p q257 1 15 [some (oR 12 0), some (vI a1), some (vI a2), none, none, none] [vI (-1), vI v2] rfl ?_
    refine g_i2 q257 rfl rfl ?_ ?_
    ·
      refine g_p q257 1 33 [some (oR 12 0), some (vI a1), some (vI a2), none, none, none] [vI (-100000)] rfl ?_
      exact g_ret q257 rfl rfl rfl
    ·
      refine g_p q257 4 24 [some (oR 12 0), some (vI a1), some (vI a2), none, none, none] [vL 60, vL 1, vL (ji2l a2)] rfl ?_
      refine g_cPI q257 rfl (g173 X (ji2l a2) 1 60 s) rfl rfl rfl rfl rfl (fun r3 => ?_)
      refine g_i1 q257 rfl rfl ?_ ?_
      ·
        refine g_p q257 1 35 [some (oR 12 0), some (vI a1), some (vI a2), none, none, none] [oR 12 0] rfl ?_
        refine g_m (S := [aR 1545 0]) (some (aR 1545 0)) q257 rfl rfl rfl (fun _ => rfl) rfl ?_
        refine g_p q257 1 39 [some (oR 12 0), some (vI a1), some (vI a2), none, none, none] [vI a1, aR 1545 0] rfl ?_
        refine g_ld q257 rfl rfl rfl rfl rfl rfl (fun v4 => ?_)
        refine g_p q257 2 42 [some (oR 12 0), some (vI a1), some (vI a2), some (vI v4), none, none] [oR 12 0] rfl ?_
        refine g_cV q257 rfl (g233 X s) rfl rfl rfl rfl rfl (fun s5 => ?_)
        refine g_p q257 2 47 [some (oR 12 0), some (vI a1), some (vI a2), some (vI v4), none, none] [vI a2, oR 12 0] rfl ?_
        refine g_cV q257 rfl (g236 X a2 s5) rfl rfl rfl rfl rfl (fun s6 => ?_)
        refine g_p q257 1 51 [some (oR 12 0), some (vI a1), some (vI a2), some (vI v4), none, none] [oR 12 0] rfl ?_
        refine g_m (S := [aR 1539 0]) (some (aR 1539 0)) q257 rfl rfl rfl (fun _ => rfl) rfl ?_
        refine g_p q257 1 55 [some (oR 12 0), some (vI a1), some (vI a2), some (vI v4), none, none] [vI v4, aR 1539 0] rfl ?_
        refine g_ld q257 rfl rfl rfl rfl rfl rfl (fun v7 => ?_)
        refine g_p q257 2 59 [some (oR 12 0), some (vI a1), some (vI a2), some (vI v4), some (vI v7), none] [oR 12 0] rfl ?_
        refine g_cV q257 rfl (g237 X s6) rfl rfl rfl rfl rfl (fun s8 => ?_)
        refine g_p q257 2 64 [some (oR 12 0), some (vI a1), some (vI a2), some (vI v4), some (vI v7), none] [vI a1, oR 12 0] rfl ?_
        refine g_cV q257 rfl (g227 X a1 s8) rfl rfl rfl rfl rfl (fun s9 => ?_)
        refine g_p q257 2 69 [some (oR 12 0), some (vI a1), some (vI a2), some (vI v4), some (vI v7), none] [vI a2, oR 12 0] rfl ?_
        refine g_cV q257 rfl (g236 X a2 s9) rfl rfl rfl rfl rfl (fun s10 => ?_)
        refine g_p q257 2 75 [some (oR 12 0), some (vI a1), some (vI a2), some (vI v4), some (vI v7), none] [oR 12 0, vI v7] rfl ?_
        refine g_m (S := [aR 1539 0, vI v7]) (some (aR 1539 0)) q257 rfl rfl rfl (fun _ => rfl) rfl ?_
        refine g_p q257 1 79 [some (oR 12 0), some (vI a1), some (vI a2), some (vI v4), some (vI v7), none] [vI v4, aR 1539 0, vI v7] rfl ?_
        refine g_ld q257 rfl rfl rfl rfl rfl rfl (fun v11 => ?_)
        refine g_p q257 1 81 [some (oR 12 0), some (vI a1), some (vI a2), some (vI v4), some (vI v7), none] [vI (jsub v7 v11)] rfl ?_
        refine g_top (fun v12 => ?_)
        refine g_p q257 2 84 [some (oR 12 0), some (vI a1), some (vI a2), some (vI v4), some (vI v7), some (vI v12)] [oR 12 0] rfl ?_
        refine g_cV q257 rfl (g237 X s10) rfl rfl rfl rfl rfl (fun s13 => ?_)
        refine g_p q257 1 89 [some (oR 12 0), some (vI a1), some (vI a2), some (vI v4), some (vI v7), some (vI v12)] [vI v12] rfl ?_
        exact g_ret q257 rfl rfl rfl
      ·
        refine g_p q257 1 33 [some (oR 12 0), some (vI a1), some (vI a2), none, none, none] [vI (-100000)] rfl ?_
        exact g_ret q257 rfl rfl rfl
theorem q258 : am_cd 258 = am_c258 := rfl
theorem g258 (X : X2) (a1 : Int) (a2 : Int) (a3 : Int) (s : S2) (o : Option (AV R2) × S2) : J (f258 a1 a2 a3 s) (fun (r : Int × S2) => o = (some (vI r.1), r.2)) (Go X 3 258 0 (am_loc (am_nl 258) [oR 12 0, vI a1, vI a2, vI a3]) [] s o) := by
  show J _ _ (Go X 3 258 0 [some (oR 12 0), some (vI a1), some (vI a2), some (vI a3), none] [] s o)
  unfold f258
  refine g_p q258 2 2 [some (oR 12 0), some (vI a1), some (vI a2), some (vI a3), none] [vI (-1), vI a1] rfl ?_
  refine g_i2 q258 rfl rfl ?_ ?_
  ·
    refine g_p q258 1 16 [some (oR 12 0), some (vI a1), some (vI a2), some (vI a3), none] [oR 12 0] rfl ?_
    refine g_m (S := [aR 1537 0]) (some (aR 1537 0)) q258 rfl rfl rfl (fun _ => rfl) rfl ?_
    refine g_p q258 1 21 [some (oR 12 0), some (vI a1), some (vI a2), some (vI a3), none] [vI 8, aR 1537 0] rfl ?_
    refine g_ld q258 rfl rfl rfl rfl rfl rfl (fun v1 => ?_)
    refine g_p q258 5 30 [some (oR 12 0), some (vI a1), some (vI a2), some (vI a3), some (vI v1)] [vL 60, vL 0, vL (ji2l a1)] rfl ?_
    refine g_cPI q258 rfl (g173 X (ji2l a1) 0 60 s) rfl rfl rfl rfl rfl (fun r2 => ?_)
    refine g_i1 q258 rfl rfl ?_ ?_
    ·
      refine g_p q258 1 66 [some (oR 12 0), some (vI a1), some (vI a2), some (vI a3), some (vI v1)] [vI (-2)] rfl ?_
      exact g_ret q258 rfl rfl rfl
    ·
      refine g_p q258 2 38 [some (oR 12 0), some (vI a1), some (vI a2), some (vI a3), some (vI v1)] [vI a2, oR 12 0] rfl ?_
      refine g_cPI q258 rfl (g210 X a2 s) rfl rfl rfl rfl rfl (fun r3 => ?_)
      refine g_i1 q258 rfl rfl ?_ ?_
      ·
        refine g_p q258 1 66 [some (oR 12 0), some (vI a1), some (vI a2), some (vI a3), some (vI v1)] [vI (-2)] rfl ?_
        exact g_ret q258 rfl rfl rfl
      ·
        refine g_p q258 2 46 [some (oR 12 0), some (vI a1), some (vI a2), some (vI a3), some (vI v1)] [vI (-1), vI a3] rfl ?_
        refine g_jn (fun j57 => ∀ (_ : Unit), J (j57 ()) (fun (r : Int × S2) => o = (some (vI r.1), r.2)) (Go X 3 258 57 [some (oR 12 0), some (vI a1), some (vI a2), some (vI a3), some (vI v1)] [] s o)) ?_ (fun j57 hj57 => ?_)
        ·
          intro _
          refine g_p q258 2 61 [some (oR 12 0), some (vI a1), some (vI a2), some (vI a3), some (vI v1)] [vI 10, vI v1] rfl ?_
          refine g_i2 q258 rfl rfl ?_ ?_
          ·
            refine g_p q258 1 68 [some (oR 12 0), some (vI a1), some (vI a2), some (vI a3), some (vI v1)] [oR 12 0] rfl ?_
            refine g_m (S := [aR 1551 0]) (some (aR 1551 0)) q258 rfl rfl rfl (fun _ => rfl) rfl ?_
            refine g_p q258 2 74 [some (oR 12 0), some (vI a1), some (vI a2), some (vI a3), some (vI v1)] [vI a1, vI v1, aR 1551 0] rfl ?_
            refine g_sto q258 rfl rfl rfl rfl (fun s4 => ?_)
            refine g_p q258 1 76 [some (oR 12 0), some (vI a1), some (vI a2), some (vI a3), some (vI v1)] [oR 12 0] rfl ?_
            refine g_m (S := [aR 1552 0]) (some (aR 1552 0)) q258 rfl rfl rfl (fun _ => rfl) rfl ?_
            refine g_p q258 2 82 [some (oR 12 0), some (vI a1), some (vI a2), some (vI a3), some (vI v1)] [vI a2, vI v1, aR 1552 0] rfl ?_
            refine g_sto q258 rfl rfl rfl rfl (fun s5 => ?_)
            refine g_p q258 1 84 [some (oR 12 0), some (vI a1), some (vI a2), some (vI a3), some (vI v1)] [oR 12 0] rfl ?_
            refine g_m (S := [aR 1553 0]) (some (aR 1553 0)) q258 rfl rfl rfl (fun _ => rfl) rfl ?_
            refine g_p q258 2 90 [some (oR 12 0), some (vI a1), some (vI a2), some (vI a3), some (vI v1)] [vI a3, vI v1, aR 1553 0] rfl ?_
            refine g_sto q258 rfl rfl rfl rfl (fun s6 => ?_)
            refine g_p q258 1 92 [some (oR 12 0), some (vI a1), some (vI a2), some (vI a3), some (vI v1)] [oR 12 0] rfl ?_
            refine g_m (S := [aR 1537 0]) (some (aR 1537 0)) q258 rfl rfl rfl (fun _ => rfl) rfl ?_
            refine g_p q258 2 98 [some (oR 12 0), some (vI a1), some (vI a2), some (vI a3), some (vI v1)] [vI 8, aR 1537 0, vI 8, aR 1537 0] rfl ?_
            refine g_ld q258 rfl rfl rfl rfl rfl rfl (fun v7 => ?_)
            refine g_p q258 2 101 [some (oR 12 0), some (vI a1), some (vI a2), some (vI a3), some (vI v1)] [vI (jadd v7 1), vI 8, aR 1537 0] rfl ?_
            refine g_sto q258 rfl rfl rfl rfl (fun s8 => ?_)
            refine g_p q258 3 106 [some (oR 12 0), some (vI a1), some (vI a2), some (vI a3), some (vI v1)] [vI (jadd v1 1)] rfl ?_
            refine g_top (fun v9 => ?_)
            exact g_ret q258 rfl rfl rfl
          ·
            refine g_p q258 1 66 [some (oR 12 0), some (vI a1), some (vI a2), some (vI a3), some (vI v1)] [vI (-2)] rfl ?_
            exact g_ret q258 rfl rfl rfl
        ·
          refine g_i2 q258 rfl rfl ?_ ?_
          ·
            exact g_wkJ [true, true, true, true, true] rfl (hj57 ())
          ·
            refine g_p q258 2 51 [some (oR 12 0), some (vI a1), some (vI a2), some (vI a3), some (vI v1)] [vI a3, oR 12 0] rfl ?_
            refine g_cPI q258 rfl (g198 X a3 s) rfl rfl rfl rfl rfl (fun r10 => ?_)
            refine g_i1 q258 rfl rfl ?_ ?_
            ·
              refine g_p q258 1 66 [some (oR 12 0), some (vI a1), some (vI a2), some (vI a3), some (vI v1)] [vI (-2)] rfl ?_
              exact g_ret q258 rfl rfl rfl
            ·
              exact g_wkJ [true, true, true, true, true] rfl (hj57 ())
  ·
    refine g_p q258 1 6 [some (oR 12 0), some (vI a1), some (vI a2), some (vI a3), none] [oR 12 0] rfl ?_
    refine g_m (S := [aR 1537 0]) (some (aR 1537 0)) q258 rfl rfl rfl (fun _ => rfl) rfl ?_
    refine g_p q258 2 12 [some (oR 12 0), some (vI a1), some (vI a2), some (vI a3), none] [vI 0, vI 8, aR 1537 0] rfl ?_
    refine g_sto q258 rfl rfl rfl rfl (fun s11 => ?_)
    refine g_p q258 1 14 [some (oR 12 0), some (vI a1), some (vI a2), some (vI a3), none] [vI 0] rfl ?_
    exact g_ret q258 rfl rfl rfl
theorem q261 : am_cd 261 = am_c261 := rfl
def H261_a (X : X2) (y1 : Int) (s4 : S2) (o : Option (AV R2) × S2) (a : Int × Int) : Prop := Go X 1 261 4 [some (oR 12 0), some (vI y1), some (vI (a.1)), some (vI (a.2))] [] s4 o
def E261_a (X : X2) (y1 : Int) (s4 : S2) (o : Option (AV R2) × S2) : (Int) → Prop := (fun (r : Int) => Go X 1 261 61 [none, none, some (vI r), none] [] s4 o)
theorem g261_a (X : X2) (y1 : Int) (x2 : Int) (x3 : Int) (s4 : S2) (o : Option (AV R2) × S2) : J (f261_a y1 x2 x3 s4) (am_kx (H261_a X y1 s4 o) (E261_a X y1 s4 o)) (Go X 1 261 4 [some (oR 12 0), some (vI y1), some (vI x2), some (vI x3)] [] s4 o) := by
  unfold f261_a
  refine g_p q261 2 6 [some (oR 12 0), some (vI y1), some (vI x2), some (vI x3)] [oR 12 0, vI x3] rfl ?_
  refine g_m (S := [aR 1537 0, vI x3]) (some (aR 1537 0)) q261 rfl rfl rfl (fun _ => rfl) rfl ?_
  refine g_p q261 1 11 [some (oR 12 0), some (vI y1), some (vI x2), some (vI x3)] [vI 8, aR 1537 0, vI x3] rfl ?_
  refine g_ld q261 rfl rfl rfl rfl rfl rfl (fun v5 => ?_)
  refine g_i2 q261 rfl rfl ?_ ?_
  ·
    exact g_end (fun h => g_wk [false, false, true, false] rfl h)
  ·
    refine g_p q261 1 16 [some (oR 12 0), some (vI y1), some (vI x2), some (vI x3)] [vI x2] rfl ?_
    refine g_i1 q261 rfl rfl ?_ ?_
    ·
      refine g_p q261 2 55 [some (oR 12 0), some (vI y1), some (vI 0), some (vI x3)] [] rfl ?_
      refine g_inc (fun v6 => [some (oR 12 0), some (vI y1), some (vI 0), some (vI v6)]) q261 rfl rfl (fun _ => rfl) (fun v6 => ?_)
      refine g_p q261 1 4 [some (oR 12 0), some (vI y1), some (vI 0), some (vI v6)] [] rfl ?_
      exact g_end (fun h => g_wk [true, true, true, true] rfl h)
    ·
      refine g_p q261 1 20 [some (oR 12 0), some (vI y1), some (vI x2), some (vI x3)] [oR 12 0] rfl ?_
      refine g_m (S := [aR 1551 0]) (some (aR 1551 0)) q261 rfl rfl rfl (fun _ => rfl) rfl ?_
      refine g_p q261 1 24 [some (oR 12 0), some (vI y1), some (vI x2), some (vI x3)] [vI x3, aR 1551 0] rfl ?_
      refine g_ld q261 rfl rfl rfl rfl rfl rfl (fun v7 => ?_)
      refine g_p q261 1 26 [some (oR 12 0), some (vI y1), some (vI x2), some (vI x3)] [vI y1, vI v7] rfl ?_
      refine g_i2 q261 rfl rfl ?_ ?_
      ·
        refine g_p q261 3 55 [some (oR 12 0), some (vI y1), some (vI 1), some (vI x3)] [] rfl ?_
        refine g_inc (fun v8 => [some (oR 12 0), some (vI y1), some (vI 1), some (vI v8)]) q261 rfl rfl (fun _ => rfl) (fun v8 => ?_)
        refine g_p q261 1 4 [some (oR 12 0), some (vI y1), some (vI 1), some (vI v8)] [] rfl ?_
        exact g_end (fun h => g_wk [true, true, true, true] rfl h)
      ·
        refine g_p q261 1 30 [some (oR 12 0), some (vI y1), some (vI x2), some (vI x3)] [oR 12 0] rfl ?_
        refine g_m (S := [aR 1544 0]) (some (aR 1544 0)) q261 rfl rfl rfl (fun _ => rfl) rfl ?_
        refine g_p q261 1 34 [some (oR 12 0), some (vI y1), some (vI x2), some (vI x3)] [oR 12 0, aR 1544 0] rfl ?_
        refine g_m (S := [aR 1552 0, aR 1544 0]) (some (aR 1552 0)) q261 rfl rfl rfl (fun _ => rfl) rfl ?_
        refine g_p q261 1 38 [some (oR 12 0), some (vI y1), some (vI x2), some (vI x3)] [vI x3, aR 1552 0, aR 1544 0] rfl ?_
        refine g_ld q261 rfl rfl rfl rfl rfl rfl (fun v9 => ?_)
        refine g_ld q261 rfl rfl rfl rfl rfl rfl (fun v10 => ?_)
        refine g_p q261 1 41 [some (oR 12 0), some (vI y1), some (vI x2), some (vI x3)] [oR 12 0, vI v10] rfl ?_
        refine g_m (S := [aR 1553 0, vI v10]) (some (aR 1553 0)) q261 rfl rfl rfl (fun _ => rfl) rfl ?_
        refine g_p q261 1 45 [some (oR 12 0), some (vI y1), some (vI x2), some (vI x3)] [vI x3, aR 1553 0, vI v10] rfl ?_
        refine g_ld q261 rfl rfl rfl rfl rfl rfl (fun v11 => ?_)
        refine g_i2 q261 rfl rfl ?_ ?_
        ·
          refine g_p q261 2 55 [some (oR 12 0), some (vI y1), some (vI 0), some (vI x3)] [] rfl ?_
          refine g_inc (fun v12 => [some (oR 12 0), some (vI y1), some (vI 0), some (vI v12)]) q261 rfl rfl (fun _ => rfl) (fun v12 => ?_)
          refine g_p q261 1 4 [some (oR 12 0), some (vI y1), some (vI 0), some (vI v12)] [] rfl ?_
          exact g_end (fun h => g_wk [true, true, true, true] rfl h)
        ·
          refine g_p q261 3 55 [some (oR 12 0), some (vI y1), some (vI 1), some (vI x3)] [] rfl ?_
          refine g_inc (fun v13 => [some (oR 12 0), some (vI y1), some (vI 1), some (vI v13)]) q261 rfl rfl (fun _ => rfl) (fun v13 => ?_)
          refine g_p q261 1 4 [some (oR 12 0), some (vI y1), some (vI 1), some (vI v13)] [] rfl ?_
          exact g_end (fun h => g_wk [true, true, true, true] rfl h)
theorem g261 (X : X2) (a1 : Int) (s : S2) (o : Option (AV R2) × S2) : J (f261 a1 s) (fun (r : Int) => o = (some (vI r), s)) (Go X 1 261 0 (am_loc (am_nl 261) [oR 12 0, vI a1]) [] s o) := by
  show J _ _ (Go X 1 261 0 [some (oR 12 0), some (vI a1), none, none] [] s o)
  unfold f261
  refine g_p q261 4 4 [some (oR 12 0), some (vI a1), some (vI 1), some (vI 0)] [] rfl ?_
  refine g_wkJ [true, true, true, true] (L0 := [some (oR 12 0), some (vI a1), some (vI 1), some (vI 0)]) rfl ?_
  refine g_itr (H261_a X a1 s o) (E261_a X a1 s o) (fun | (x2, x3) => g261_a X a1 x2 x3 s o) ?_
  intro z14
  show J _ _ (Go X 1 261 61 [none, none, some (vI z14), none] [] s o)
  refine g_p q261 1 62 [none, none, some (vI z14), none] [vI z14] rfl ?_
  exact g_retb q261 rfl rfl
theorem q260 : am_cd 260 = am_c260 := rfl
def H260_a (X : X2) (y3 : Int) (o : Option (AV R2) × S2) (a : Int × Int × S2) : Prop := Go X 7 260 17 [some (oR 12 0), none, some (vI y3), some (vI (a.1)), some (vI (a.2.1))] [] (a.2.2) o
def E260_a (X : X2) (y3 : Int) (o : Option (AV R2) × S2) : (Int × S2) → Prop := (fun (r : Int × S2) => Go X 7 260 71 [some (oR 12 0), none, none, some (vI (r.1)), none] [] (r.2) o)
theorem g260_a (X : X2) (y3 : Int) (x4 : Int) (x5 : Int) (s6 : S2) (o : Option (AV R2) × S2) : J (f260_a y3 x4 x5 s6) (am_kx (H260_a X y3 o) (E260_a X y3 o)) (Go X 7 260 17 [some (oR 12 0), none, some (vI y3), some (vI x4), some (vI x5)] [] s6 o) := by
  unfold f260_a
  refine g_p q260 2 21 [some (oR 12 0), none, some (vI y3), some (vI x4), some (vI x5)] [vI 60, vI x5] rfl ?_
  refine g_i2 q260 rfl rfl ?_ ?_
  ·
    exact g_end (fun h => g_wk [true, false, false, true, false] rfl h)
  ·
    refine g_p q260 1 25 [some (oR 12 0), none, some (vI y3), some (vI x4), some (vI x5)] [oR 12 0] rfl ?_
    refine g_cRI q260 rfl (g222 X s6) rfl rfl rfl rfl rfl (fun r7 s8 => ?_)
    refine g_p q260 2 30 [some (oR 12 0), none, some (vI y3), some (vI x4), some (vI x5)] [vI x4] rfl ?_
    refine g_jn (fun j47 => ∀ (x9 : Int), J (j47 x9) (am_kx (H260_a X y3 o) (E260_a X y3 o)) (Go X 7 260 47 [some (oR 12 0), none, some (vI y3), none, some (vI x5)] [vI x9] s8 o)) ?_ (fun j47 hj47 => ?_)
    ·
      intro x9
      refine g_p q260 3 51 [some (oR 12 0), none, some (vI y3), some (vI x9), some (vI x5)] [vI y3, vI x5] rfl ?_
      refine g_i2 q260 rfl rfl ?_ ?_
      ·
        refine g_inc (fun v10 => [some (oR 12 0), none, some (vI y3), some (vI x9), some (vI v10)]) q260 rfl rfl (fun _ => rfl) (fun v10 => ?_)
        refine g_p q260 1 17 [some (oR 12 0), none, some (vI y3), some (vI x9), some (vI v10)] [] rfl ?_
        exact g_end (fun h => g_wk [true, false, true, true, true] rfl h)
      ·
        refine g_p q260 1 55 [some (oR 12 0), none, some (vI y3), some (vI x9), some (vI x5)] [oR 12 0] rfl ?_
        refine g_m (S := [aR 1544 0]) (some (aR 1544 0)) q260 rfl rfl rfl (fun _ => rfl) rfl ?_
        refine g_p q260 1 59 [some (oR 12 0), none, some (vI y3), some (vI x9), some (vI x5)] [oR 12 0, aR 1544 0] rfl ?_
        refine g_m (S := [aR 1604 0, aR 1544 0]) (some (aR 1604 0)) q260 rfl rfl rfl (fun _ => rfl) rfl ?_
        refine g_cV q260 rfl (g179 X 1544 1604 s8 ⟨rfl, rfl⟩ ⟨rfl, rfl⟩) rfl rfl rfl rfl rfl (fun s11 => ?_)
        refine g_inc (fun v12 => [some (oR 12 0), none, some (vI y3), some (vI x9), some (vI v12)]) q260 rfl rfl (fun _ => rfl) (fun v12 => ?_)
        refine g_p q260 1 17 [some (oR 12 0), none, some (vI y3), some (vI x9), some (vI v12)] [] rfl ?_
        exact g_end (fun h => g_wk [true, false, true, true, true] rfl h)
    ·
      refine g_jn (fun j46 => ∀ (_ : Unit), J (j46 ()) (am_kx (H260_a X y3 o) (E260_a X y3 o)) (Go X 7 260 46 [some (oR 12 0), none, some (vI y3), none, some (vI x5)] [] s8 o)) ?_ (fun j46 hj46 => ?_)
      ·
        intro _
        refine g_p q260 1 47 [some (oR 12 0), none, some (vI y3), none, some (vI x5)] [vI 0] rfl ?_
        exact g_wkJ [true, false, true, false, true] rfl (hj47 0)
      ·
        refine g_i1 q260 rfl rfl ?_ ?_
        ·
          exact g_wkJ [true, false, true, false, true] rfl (hj46 ())
        ·
          refine g_p q260 2 36 [some (oR 12 0), none, some (vI y3), some (vI x4), some (vI x5)] [vI x5, oR 12 0] rfl ?_
          refine g_cPI q260 rfl (g261 X x5 s8) rfl rfl rfl rfl rfl (fun r13 => ?_)
          refine g_i1 q260 rfl rfl ?_ ?_
          ·
            exact g_wkJ [true, false, true, false, true] rfl (hj46 ())
          ·
            refine g_p q260 2 47 [some (oR 12 0), none, some (vI y3), some (vI x4), some (vI x5)] [vI 1] rfl ?_
            exact g_wkJ [true, false, true, false, true] rfl (hj47 1)
theorem g260 (X : X2) (a1 : Int) (a2 : Int) (s : S2) (o : Option (AV R2) × S2) : J (f260 a1 a2 s) (fun (r : Int × S2) => o = (some (vI r.1), r.2)) (Go X 7 260 0 (am_loc (am_nl 260) [oR 12 0, vI a1, vI a2]) [] s o) := by
  show J _ _ (Go X 7 260 0 [some (oR 12 0), some (vI a1), some (vI a2), none, none] [] s o)
  unfold f260
  refine g_p q260 1 1 [some (oR 12 0), some (vI a1), some (vI a2), none, none] [oR 12 0] rfl ?_
  refine g_m (S := [aR 1537 0]) (some (aR 1537 0)) q260 rfl rfl rfl (fun _ => rfl) rfl ?_
  refine g_p q260 2 7 [some (oR 12 0), some (vI a1), some (vI a2), none, none] [vI a1, vI 10, aR 1537 0] rfl ?_
  refine g_sto q260 rfl rfl rfl rfl (fun s1 => ?_)
  refine g_p q260 1 9 [some (oR 12 0), some (vI a1), some (vI a2), none, none] [oR 12 0] rfl ?_
  refine g_cV q260 rfl (g180 X s1) rfl rfl rfl rfl rfl (fun s2 => ?_)
  refine g_p q260 4 17 [some (oR 12 0), some (vI a1), some (vI a2), some (vI 1), some (vI 0)] [] rfl ?_
  refine g_wkJ [true, false, true, true, true] (L0 := [some (oR 12 0), none, some (vI a2), some (vI 1), some (vI 0)]) rfl ?_
  refine g_itr (H260_a X a2 o) (E260_a X a2 o) (fun | (x4, x5, s6) => g260_a X a2 x4 x5 s6 o) ?_
  rintro ⟨z14, s15⟩
  show J _ _ (Go X 7 260 71 [some (oR 12 0), none, none, some (vI z14), none] [] s15 o)
  refine g_p q260 1 72 [some (oR 12 0), none, none, some (vI z14), none] [oR 12 0] rfl ?_
  refine g_cV q260 rfl (g237 X s15) rfl rfl rfl rfl rfl (fun s16 => ?_)
  refine g_p q260 1 76 [some (oR 12 0), none, none, some (vI z14), none] [vI z14] rfl ?_
  exact g_retb2 q260 rfl rfl
theorem q259 : am_cd 259 = am_c259 := rfl
def H259_a (X : X2) (y4 : Int) (o : Option (AV R2) × S2) (a : Int × Int × Int × S2) : Prop := Go X 8 259 32 [some (oR 12 0), some (vI y4), some (vI (a.1)), some (vI (a.2.1)), some (vI (a.2.2.1))] [] (a.2.2.2) o
def E259_a (X : X2) (y4 : Int) (o : Option (AV R2) × S2) : (Int × Int × S2) → Prop := (fun (r : Int × Int × S2) => Go X 8 259 71 [none, some (vI y4), some (vI (r.1)), some (vI (r.2.1)), none] [] (r.2.2) o)
theorem g259_a (X : X2) (y4 : Int) (x5 : Int) (x6 : Int) (x7 : Int) (s8 : S2) (o : Option (AV R2) × S2) : J (f259_a x5 x6 x7 s8) (am_kx (H259_a X y4 o) (E259_a X y4 o)) (Go X 8 259 32 [some (oR 12 0), some (vI y4), some (vI x5), some (vI x6), some (vI x7)] [] s8 o) := by
  unfold f259_a
  refine g_p q259 2 35 [some (oR 12 0), some (vI y4), some (vI x5), some (vI x6), some (vI x7)] [oR 12 0, vI x7] rfl ?_
  refine g_get q259 rfl rfl rfl (fun _ => rfl) (fun v9 => ?_)
  refine g_i2 q259 rfl rfl ?_ ?_
  ·
    exact g_end (fun h => g_wk [false, true, true, true, false] rfl h)
  ·
    refine g_p q259 3 45 [some (oR 12 0), some (vI y4), some (vI x5), some (vI x6), some (vI x7)] [vI (-1), vI x7, oR 12 0] rfl ?_
    refine g_cRI q259 rfl (g260 X x7 (-1) s8) rfl rfl rfl rfl rfl (fun r10 s11 => ?_)
    refine g_i1 q259 rfl rfl ?_ ?_
    ·
      refine g_inc (fun v12 => [some (oR 12 0), some (vI y4), some (vI x5), some (vI x6), some (vI v12)]) q259 rfl rfl (fun _ => rfl) (fun v12 => ?_)
      refine g_p q259 1 32 [some (oR 12 0), some (vI y4), some (vI x5), some (vI x6), some (vI v12)] [] rfl ?_
      exact g_end (fun h => g_wk [true, true, true, true, true] rfl h)
    ·
      refine g_p q259 1 52 [some (oR 12 0), some (vI y4), some (vI x5), some (vI x6), some (vI x7)] [vI x5] rfl ?_
      refine g_i1 q259 rfl rfl ?_ ?_
      ·
        refine g_p q259 2 62 [some (oR 12 0), some (vI y4), some (vI x5), some (vI x6), some (vI x7)] [] rfl ?_
        refine g_inc (fun v13 => [some (oR 12 0), some (vI y4), some (vI v13), some (vI x6), some (vI x7)]) q259 rfl rfl (fun _ => rfl) (fun v13 => ?_)
        refine g_inc (fun v14 => [some (oR 12 0), some (vI y4), some (vI v13), some (vI x6), some (vI v14)]) q259 rfl rfl (fun _ => rfl) (fun v14 => ?_)
        refine g_p q259 1 32 [some (oR 12 0), some (vI y4), some (vI v13), some (vI x6), some (vI v14)] [] rfl ?_
        exact g_end (fun h => g_wk [true, true, true, true, true] rfl h)
      ·
        refine g_p q259 3 62 [some (oR 12 0), some (vI y4), some (vI x5), some (vI x7), some (vI x7)] [] rfl ?_
        refine g_inc (fun v15 => [some (oR 12 0), some (vI y4), some (vI v15), some (vI x7), some (vI x7)]) q259 rfl rfl (fun _ => rfl) (fun v15 => ?_)
        refine g_inc (fun v16 => [some (oR 12 0), some (vI y4), some (vI v15), some (vI x7), some (vI v16)]) q259 rfl rfl (fun _ => rfl) (fun v16 => ?_)
        refine g_p q259 1 32 [some (oR 12 0), some (vI y4), some (vI v15), some (vI x7), some (vI v16)] [] rfl ?_
        exact g_end (fun h => g_wk [true, true, true, true, true] rfl h)
theorem g259 (X : X2) (a1 : Int) (s : S2) (o : Option (AV R2) × S2) : J (f259 a1 s) (fun (r : Int × S2) => o = (some (vI r.1), r.2)) (Go X 8 259 0 (am_loc (am_nl 259) [oR 12 0, vI a1]) [] s o) := by
  show J _ _ (Go X 8 259 0 [some (oR 12 0), some (vI a1), none, none, none] [] s o)
  unfold f259
  refine g_p q259 1 1 [some (oR 12 0), some (vI a1), none, none, none] [oR 12 0] rfl ?_
  refine g_cPI q259 rfl (g220 X s) rfl rfl rfl rfl rfl (fun r1 => ?_)
  refine g_i1 q259 rfl rfl ?_ ?_
  ·
    refine g_p q259 1 19 [some (oR 12 0), some (vI a1), none, none, none] [vI (-3)] rfl ?_
    exact g_ret q259 rfl rfl rfl
  ·
    refine g_p q259 4 11 [some (oR 12 0), some (vI a1), none, none, none] [vL 1, vL 0, vL (ji2l a1)] rfl ?_
    refine g_cPI q259 rfl (g173 X (ji2l a1) 0 1 s) rfl rfl rfl rfl rfl (fun r2 => ?_)
    refine g_i1 q259 rfl rfl ?_ ?_
    ·
      refine g_p q259 1 21 [some (oR 12 0), some (vI a1), none, none, none] [oR 12 0] rfl ?_
      refine g_cV q259 rfl (g233 X s) rfl rfl rfl rfl rfl (fun s3 => ?_)
      refine g_p q259 6 32 [some (oR 12 0), some (vI a1), some (vI 0), some (vI (-2)), some (vI (-1))] [] rfl ?_
      refine g_wkJ [true, true, true, true, true] (L0 := [some (oR 12 0), some (vI a1), some (vI 0), some (vI (-2)), some (vI (-1))]) rfl ?_
      refine g_itr (H259_a X a1 o) (E259_a X a1 o) (fun | (x5, x6, x7, s8) => g259_a X a1 x5 x6 x7 s8 o) ?_
      rintro ⟨z17, z18, s19⟩
      show J _ _ (Go X 8 259 71 [none, some (vI a1), some (vI z17), some (vI z18), none] [] s19 o)
      refine g_p q259 1 72 [none, some (vI a1), some (vI z17), some (vI z18), none] [vI a1] rfl ?_
      refine g_i1 q259 rfl rfl ?_ ?_
      ·
        refine g_p q259 1 80 [none, some (vI a1), some (vI z17), some (vI z18), none] [vI z18] rfl ?_
        exact g_ret q259 rfl rfl rfl
      ·
        refine g_p q259 2 80 [none, some (vI a1), some (vI z17), some (vI z18), none] [vI z17] rfl ?_
        exact g_ret q259 rfl rfl rfl
    ·
      refine g_p q259 1 19 [some (oR 12 0), some (vI a1), none, none, none] [vI (-3)] rfl ?_
      exact g_ret q259 rfl rfl rfl
theorem q262 : am_cd 262 = am_c262 := rfl
def H262_a (X : X2) (y4 : Int) (y5 : Int) (o : Option (AV R2) × S2) (a : Int × S2) : Prop := Go X 8 262 33 [some (oR 12 0), some (vI y4), some (vI y5), some (vI (a.1)), none, none, none, none, none] [] (a.2) o
def E262_a (X : X2) (y4 : Int) (y5 : Int) (o : Option (AV R2) × S2) : (S2) → Prop := (fun (r : S2) => Go X 8 262 55 [some (oR 12 0), some (vI y4), some (vI y5), none, none, none, none, none, none] [] r o)
set_option maxRecDepth 20000 in
theorem g262_a (X : X2) (y4 : Int) (y5 : Int) (x6 : Int) (s7 : S2) (o : Option (AV R2) × S2) : J (f262_a x6 s7) (am_kx (H262_a X y4 y5 o) (E262_a X y4 y5 o)) (Go X 8 262 33 [some (oR 12 0), some (vI y4), some (vI y5), some (vI x6), none, none, none, none, none] [] s7 o) := by
  unfold f262_a
  refine g_p q262 2 35 [some (oR 12 0), some (vI y4), some (vI y5), some (vI x6), none, none, none, none, none] [oR 12 0, vI x6] rfl ?_
  refine g_m (S := [aR 1605 0, vI x6]) (some (aR 1605 0)) q262 rfl rfl rfl (fun _ => rfl) rfl ?_
  refine g_m (S := [vI 30, vI x6]) (some (vI 30)) q262 rfl rfl rfl (fun _ => rfl) rfl ?_
  refine g_i2 q262 rfl rfl ?_ ?_
  ·
    exact g_end (fun h => g_wk [true, true, true, false, false, false, false, false, false] rfl h)
  ·
    refine g_p q262 1 43 [some (oR 12 0), some (vI y4), some (vI y5), some (vI x6), none, none, none, none, none] [oR 12 0] rfl ?_
    refine g_m (S := [aR 1605 0]) (some (aR 1605 0)) q262 rfl rfl rfl (fun _ => rfl) rfl ?_
    refine g_p q262 2 48 [some (oR 12 0), some (vI y4), some (vI y5), some (vI x6), none, none, none, none, none] [vI 0, vI x6, aR 1605 0] rfl ?_
    refine g_sto q262 rfl rfl rfl rfl (fun s8 => ?_)
    refine g_inc (fun v9 => [some (oR 12 0), some (vI y4), some (vI y5), some (vI v9), none, none, none, none, none]) q262 rfl rfl (fun _ => rfl) (fun v9 => ?_)
    refine g_p q262 1 33 [some (oR 12 0), some (vI y4), some (vI y5), some (vI v9), none, none, none, none, none] [] rfl ?_
    exact g_end (fun h => g_wk [true, true, true, true, false, false, false, false, false] rfl h)
def H262_c (X : X2) (y22 : Int) (y23 : Int) (y24 : Int) (y25 : Int) (o : Option (AV R2) × S2) (a : Int × S2) : Prop := Go X 8 262 89 [some (oR 12 0), some (vI y22), some (vI y23), some (vI y24), some (vI y25), some (vI (a.1)), none, none, none] [] (a.2) o
def E262_c (X : X2) (y22 : Int) (y23 : Int) (y24 : Int) (y25 : Int) (o : Option (AV R2) × S2) : (S2) → Prop := (fun (r : S2) => Go X 8 262 129 [some (oR 12 0), some (vI y22), some (vI y23), some (vI y24), some (vI y25), none, none, none, none] [] r o)
set_option maxRecDepth 20000 in
theorem g262_c (X : X2) (y22 : Int) (y23 : Int) (y24 : Int) (y25 : Int) (x26 : Int) (s27 : S2) (o : Option (AV R2) × S2) : J (f262_c x26 s27) (am_kx (H262_c X y22 y23 y24 y25 o) (E262_c X y22 y23 y24 y25 o)) (Go X 8 262 89 [some (oR 12 0), some (vI y22), some (vI y23), some (vI y24), some (vI y25), some (vI x26), none, none, none] [] s27 o) := by
  unfold f262_c
  refine g_p q262 2 92 [some (oR 12 0), some (vI y22), some (vI y23), some (vI y24), some (vI y25), some (vI x26), none, none, none] [oR 12 0, vI x26] rfl ?_
  refine g_m (S := [aR 1537 0, vI x26]) (some (aR 1537 0)) q262 rfl rfl rfl (fun _ => rfl) rfl ?_
  refine g_p q262 1 96 [some (oR 12 0), some (vI y22), some (vI y23), some (vI y24), some (vI y25), some (vI x26), none, none, none] [vI 3, aR 1537 0, vI x26] rfl ?_
  refine g_ld q262 rfl rfl rfl rfl rfl rfl (fun v28 => ?_)
  refine g_i2 q262 rfl rfl ?_ ?_
  ·
    exact g_end (fun h => g_wk [true, true, true, true, true, false, false, false, false] rfl h)
  ·
    refine g_p q262 1 101 [some (oR 12 0), some (vI y22), some (vI y23), some (vI y24), some (vI y25), some (vI x26), none, none, none] [oR 12 0] rfl ?_
    refine g_m (S := [aR 1605 0]) (some (aR 1605 0)) q262 rfl rfl rfl (fun _ => rfl) rfl ?_
    refine g_p q262 4 109 [some (oR 12 0), some (vI y22), some (vI y23), some (vI y24), some (vI y25), some (vI x26), none, none, none] [oR 12 0, vI (jmul 5 x26), aR 1605 0] rfl ?_
    refine g_m (S := [aR 1604 0, vI (jmul 5 x26), aR 1605 0]) (some (aR 1604 0)) q262 rfl rfl rfl (fun _ => rfl) rfl ?_
    refine g_p q262 1 114 [some (oR 12 0), some (vI y22), some (vI y23), some (vI y24), some (vI y25), some (vI x26), none, none, none] [vI x26, aR 1604 0, vI (jmul 5 x26), aR 1605 0] rfl ?_
    refine g_ld q262 rfl rfl rfl rfl rfl rfl (fun v29 => ?_)
    refine g_p q262 4 119 [some (oR 12 0), some (vI y22), some (vI y23), some (vI y24), some (vI y25), some (vI x26), none, none, none] [vI (jadd (jadd (jmul 5 x26) v29) 1), aR 1605 0, vI (jadd (jadd (jmul 5 x26) v29) 1), aR 1605 0] rfl ?_
    refine g_ld q262 rfl rfl rfl rfl rfl rfl (fun v30 => ?_)
    refine g_p q262 2 122 [some (oR 12 0), some (vI y22), some (vI y23), some (vI y24), some (vI y25), some (vI x26), none, none, none] [vI (jadd v30 1), vI (jadd (jadd (jmul 5 x26) v29) 1), aR 1605 0] rfl ?_
    refine g_sto q262 rfl rfl rfl rfl (fun s31 => ?_)
    refine g_inc (fun v32 => [some (oR 12 0), some (vI y22), some (vI y23), some (vI y24), some (vI y25), some (vI v32), none, none, none]) q262 rfl rfl (fun _ => rfl) (fun v32 => ?_)
    refine g_p q262 1 89 [some (oR 12 0), some (vI y22), some (vI y23), some (vI y24), some (vI y25), some (vI v32), none, none, none] [] rfl ?_
    exact g_end (fun h => g_wk [true, true, true, true, true, true, false, false, false] rfl h)
def H262_b (X : X2) (y12 : Int) (y13 : Int) (o : Option (AV R2) × S2) (a : Int × Int × S2) : Prop := Go X 8 262 64 [some (oR 12 0), some (vI y12), some (vI y13), some (vI (a.1)), some (vI (a.2.1)), none, none, none, none] [] (a.2.2) o
def E262_b (X : X2) (y12 : Int) (y13 : Int) (o : Option (AV R2) × S2) : (Int × S2) → Prop := (fun (r : Int × S2) => Go X 8 262 135 [some (oR 12 0), none, some (vI y13), some (vI (r.1)), none, none, none, none, none] [] (r.2) o)
set_option maxRecDepth 20000 in
theorem g262_b (X : X2) (y12 : Int) (y13 : Int) (x14 : Int) (x15 : Int) (s16 : S2) (o : Option (AV R2) × S2) : J (f262_b y12 x14 x15 s16) (am_kx (H262_b X y12 y13 o) (E262_b X y12 y13 o)) (Go X 8 262 64 [some (oR 12 0), some (vI y12), some (vI y13), some (vI x14), some (vI x15), none, none, none, none] [] s16 o) := by
  unfold f262_b
  refine g_p q262 2 67 [some (oR 12 0), some (vI y12), some (vI y13), some (vI x14), some (vI x15), none, none, none, none] [oR 12 0, vI x15] rfl ?_
  refine g_get q262 rfl rfl rfl (fun _ => rfl) (fun v17 => ?_)
  refine g_i2 q262 rfl rfl ?_ ?_
  ·
    exact g_end (fun h => g_wk [true, false, true, true, false, false, false, false, false] rfl h)
  ·
    refine g_p q262 3 77 [some (oR 12 0), some (vI y12), some (vI y13), some (vI x14), some (vI x15), none, none, none, none] [vI y12, vI x15, oR 12 0] rfl ?_
    refine g_cRI q262 rfl (g260 X x15 y12 s16) rfl rfl rfl rfl rfl (fun r18 s19 => ?_)
    refine g_i1 q262 rfl rfl ?_ ?_
    ·
      refine g_inc (fun v20 => [some (oR 12 0), some (vI y12), some (vI y13), some (vI x14), some (vI v20), none, none, none, none]) q262 rfl rfl (fun _ => rfl) (fun v20 => ?_)
      refine g_p q262 1 64 [some (oR 12 0), some (vI y12), some (vI y13), some (vI x14), some (vI v20), none, none, none, none] [] rfl ?_
      exact g_end (fun h => g_wk [true, true, true, true, true, false, false, false, false] rfl h)
    ·
      refine g_inc (fun v21 => [some (oR 12 0), some (vI y12), some (vI y13), some (vI v21), some (vI x15), none, none, none, none]) q262 rfl rfl (fun _ => rfl) (fun v21 => ?_)
      refine g_p q262 2 89 [some (oR 12 0), some (vI y12), some (vI y13), some (vI v21), some (vI x15), some (vI 0), none, none, none] [] rfl ?_
      refine g_wkJ [true, true, true, true, true, true, false, false, false] (L0 := [some (oR 12 0), some (vI y12), some (vI y13), some (vI v21), some (vI x15), some (vI 0), none, none, none]) rfl ?_
      refine g_itr (H262_c X y12 y13 v21 x15 o) (E262_c X y12 y13 v21 x15 o) (fun | (x26, s27) => g262_c X y12 y13 v21 x15 x26 s27 o) ?_
      intro s33
      show J _ _ (Go X 8 262 129 [some (oR 12 0), some (vI y12), some (vI y13), some (vI v21), some (vI x15), none, none, none, none] [] s33 o)
      refine g_inc (fun v34 => [some (oR 12 0), some (vI y12), some (vI y13), some (vI v21), some (vI v34), none, none, none, none]) q262 rfl rfl (fun _ => rfl) (fun v34 => ?_)
      refine g_p q262 1 64 [some (oR 12 0), some (vI y12), some (vI y13), some (vI v21), some (vI v34), none, none, none, none] [] rfl ?_
      exact g_end (fun h => g_wk [true, true, true, true, true, false, false, false, false] rfl h)
def H262_e (X : X2) (y45 : Int) (y46 : Int) (y47 : Int) (y48 : Int) (y49 : Int) (s52 : S2) (o : Option (AV R2) × S2) (a : Int × Int) : Prop := Go X 8 262 170 [some (oR 12 0), none, some (vI y45), some (vI y46), some (vI y47), some (vI y48), some (vI y49), some (vI (a.1)), some (vI (a.2))] [] s52 o
def E262_e (X : X2) (y45 : Int) (y46 : Int) (y47 : Int) (y48 : Int) (y49 : Int) (s52 : S2) (o : Option (AV R2) × S2) : (Int) → Prop := (fun (r : Int) => Go X 8 262 213 [some (oR 12 0), none, some (vI y45), some (vI y46), some (vI y47), some (vI y48), some (vI y49), some (vI r), none] [] s52 o)
set_option maxRecDepth 20000 in
theorem g262_e (X : X2) (y45 : Int) (y46 : Int) (y47 : Int) (y48 : Int) (y49 : Int) (x50 : Int) (x51 : Int) (s52 : S2) (o : Option (AV R2) × S2) : J (f262_e y49 x50 x51 s52) (am_kx (H262_e X y45 y46 y47 y48 y49 s52 o) (E262_e X y45 y46 y47 y48 y49 s52 o)) (Go X 8 262 170 [some (oR 12 0), none, some (vI y45), some (vI y46), some (vI y47), some (vI y48), some (vI y49), some (vI x50), some (vI x51)] [] s52 o) := by
  unfold f262_e
  refine g_p q262 6 178 [some (oR 12 0), none, some (vI y45), some (vI y46), some (vI y47), some (vI y48), some (vI y49), some (vI x50), some (vI x51)] [vI (jmul 5 (jadd y49 1)), vI x51] rfl ?_
  refine g_i2 q262 rfl rfl ?_ ?_
  ·
    exact g_end (fun h => g_wk [true, false, true, true, true, true, true, true, false] rfl h)
  ·
    refine g_p q262 1 182 [some (oR 12 0), none, some (vI y45), some (vI y46), some (vI y47), some (vI y48), some (vI y49), some (vI x50), some (vI x51)] [oR 12 0] rfl ?_
    refine g_m (S := [aR 1605 0]) (some (aR 1605 0)) q262 rfl rfl rfl (fun _ => rfl) rfl ?_
    refine g_p q262 1 187 [some (oR 12 0), none, some (vI y45), some (vI y46), some (vI y47), some (vI y48), some (vI y49), some (vI x50), some (vI x51)] [vI x51, aR 1605 0] rfl ?_
    refine g_ld q262 rfl rfl rfl rfl rfl rfl (fun v53 => ?_)
    refine g_p q262 1 190 [some (oR 12 0), none, some (vI y45), some (vI y46), some (vI y47), some (vI y48), some (vI y49), some (vI x50), some (vI x51)] [vI x50, vI v53] rfl ?_
    refine g_i2 q262 rfl rfl ?_ ?_
    ·
      refine g_p q262 2 207 [some (oR 12 0), none, some (vI y45), some (vI y46), some (vI y47), some (vI y48), some (vI y49), some (vI x50), some (vI x51)] [] rfl ?_
      refine g_inc (fun v54 => [some (oR 12 0), none, some (vI y45), some (vI y46), some (vI y47), some (vI y48), some (vI y49), some (vI x50), some (vI v54)]) q262 rfl rfl (fun _ => rfl) (fun v54 => ?_)
      refine g_p q262 1 170 [some (oR 12 0), none, some (vI y45), some (vI y46), some (vI y47), some (vI y48), some (vI y49), some (vI x50), some (vI v54)] [] rfl ?_
      exact g_end (fun h => g_wk [true, false, true, true, true, true, true, true, true] rfl h)
    ·
      refine g_p q262 1 194 [some (oR 12 0), none, some (vI y45), some (vI y46), some (vI y47), some (vI y48), some (vI y49), some (vI x50), some (vI x51)] [oR 12 0] rfl ?_
      refine g_m (S := [aR 1605 0]) (some (aR 1605 0)) q262 rfl rfl rfl (fun _ => rfl) rfl ?_
      refine g_p q262 1 199 [some (oR 12 0), none, some (vI y45), some (vI y46), some (vI y47), some (vI y48), some (vI y49), some (vI x50), some (vI x51)] [vI x51, aR 1605 0] rfl ?_
      refine g_ld q262 rfl rfl rfl rfl rfl rfl (fun v55 => ?_)
      refine g_p q262 2 207 [some (oR 12 0), none, some (vI y45), some (vI y46), some (vI y47), some (vI y48), some (vI y49), some (vI v55), some (vI x51)] [] rfl ?_
      refine g_inc (fun v56 => [some (oR 12 0), none, some (vI y45), some (vI y46), some (vI y47), some (vI y48), some (vI y49), some (vI v55), some (vI v56)]) q262 rfl rfl (fun _ => rfl) (fun v56 => ?_)
      refine g_p q262 1 170 [some (oR 12 0), none, some (vI y45), some (vI y46), some (vI y47), some (vI y48), some (vI y49), some (vI v55), some (vI v56)] [] rfl ?_
      exact g_end (fun h => g_wk [true, false, true, true, true, true, true, true, true] rfl h)
def H262_d (X : X2) (y37 : Int) (y38 : Int) (s42 : S2) (o : Option (AV R2) × S2) (a : Int × Int × Int) : Prop := Go X 8 262 146 [some (oR 12 0), none, some (vI y37), some (vI y38), some (vI (a.1)), some (vI (a.2.1)), some (vI (a.2.2)), none, none] [] s42 o
def E262_d (X : X2) (y37 : Int) (y38 : Int) (s42 : S2) (o : Option (AV R2) × S2) : (Int × Int) → Prop := (fun (r : Int × Int) => Go X 8 262 241 [none, none, some (vI y37), none, some (vI (r.1)), some (vI (r.2)), none, none, none] [] s42 o)
set_option maxRecDepth 20000 in
theorem g262_d (X : X2) (y37 : Int) (y38 : Int) (x39 : Int) (x40 : Int) (x41 : Int) (s42 : S2) (o : Option (AV R2) × S2) : J (f262_d y38 x39 x40 x41 s42) (am_kx (H262_d X y37 y38 s42 o) (E262_d X y37 y38 s42 o)) (Go X 8 262 146 [some (oR 12 0), none, some (vI y37), some (vI y38), some (vI x39), some (vI x40), some (vI x41), none, none] [] s42 o) := by
  unfold f262_d
  refine g_p q262 2 149 [some (oR 12 0), none, some (vI y37), some (vI y38), some (vI x39), some (vI x40), some (vI x41), none, none] [oR 12 0, vI x41] rfl ?_
  refine g_m (S := [aR 1537 0, vI x41]) (some (aR 1537 0)) q262 rfl rfl rfl (fun _ => rfl) rfl ?_
  refine g_p q262 1 153 [some (oR 12 0), none, some (vI y37), some (vI y38), some (vI x39), some (vI x40), some (vI x41), none, none] [vI 3, aR 1537 0, vI x41] rfl ?_
  refine g_ld q262 rfl rfl rfl rfl rfl rfl (fun v43 => ?_)
  refine g_i2 q262 rfl rfl ?_ ?_
  ·
    exact g_end (fun h => g_wk [false, false, true, false, true, true, false, false, false] rfl h)
  ·
    refine g_p q262 1 158 [some (oR 12 0), none, some (vI y37), some (vI y38), some (vI x39), some (vI x40), some (vI x41), none, none] [vI y38] rfl ?_
    refine g_i1 q262 rfl rfl ?_ ?_
    ·
      exact g_end (fun h => g_wk [false, false, true, false, true, true, false, false, false] rfl h)
    ·
      refine g_p q262 5 168 [some (oR 12 0), none, some (vI y37), some (vI y38), some (vI x39), some (vI x40), some (vI x41), some (vI 0), none] [vI (jmul 5 x41)] rfl ?_
      refine g_top (fun v44 => ?_)
      refine g_p q262 1 170 [some (oR 12 0), none, some (vI y37), some (vI y38), some (vI x39), some (vI x40), some (vI x41), some (vI 0), some (vI v44)] [] rfl ?_
      refine g_wkJ [true, false, true, true, true, true, true, true, true] (L0 := [some (oR 12 0), none, some (vI y37), some (vI y38), some (vI x39), some (vI x40), some (vI x41), some (vI 0), some (vI v44)]) rfl ?_
      refine g_itr (H262_e X y37 y38 x39 x40 x41 s42 o) (E262_e X y37 y38 x39 x40 x41 s42 o) (fun | (x50, x51) => g262_e X y37 y38 x39 x40 x41 x50 x51 s42 o) ?_
      intro z57
      show J _ _ (Go X 8 262 213 [some (oR 12 0), none, some (vI y37), some (vI y38), some (vI x39), some (vI x40), some (vI x41), some (vI z57), none] [] s42 o)
      refine g_p q262 2 217 [some (oR 12 0), none, some (vI y37), some (vI y38), some (vI x39), some (vI x40), some (vI x41), some (vI z57), none] [vI (-2), vI x39] rfl ?_
      refine g_jn (fun j227 => ∀ (_ : Unit), J (j227 ()) (am_kx (H262_d X y37 y38 s42 o) (E262_d X y37 y38 s42 o)) (Go X 8 262 227 [some (oR 12 0), none, some (vI y37), some (vI y38), none, none, some (vI x41), some (vI z57), none] [] s42 o)) ?_ (fun j227 hj227 => ?_)
      ·
        intro _
        refine g_p q262 4 235 [some (oR 12 0), none, some (vI y37), some (vI y38), some (vI x41), some (vI z57), some (vI x41), some (vI z57), none] [] rfl ?_
        refine g_inc (fun v58 => [some (oR 12 0), none, some (vI y37), some (vI y38), some (vI x41), some (vI z57), some (vI v58), some (vI z57), none]) q262 rfl rfl (fun _ => rfl) (fun v58 => ?_)
        refine g_p q262 1 146 [some (oR 12 0), none, some (vI y37), some (vI y38), some (vI x41), some (vI z57), some (vI v58), some (vI z57), none] [] rfl ?_
        exact g_end (fun h => g_wk [true, false, true, true, true, true, true, false, false] rfl h)
      ·
        refine g_i2 q262 rfl rfl ?_ ?_
        ·
          exact g_wkJ [true, false, true, true, false, false, true, true, false] rfl (hj227 ())
        ·
          refine g_p q262 2 224 [some (oR 12 0), none, some (vI y37), some (vI y38), some (vI x39), some (vI x40), some (vI x41), some (vI z57), none] [vI x40, vI z57] rfl ?_
          refine g_i2 q262 rfl rfl ?_ ?_
          ·
            refine g_inc (fun v59 => [some (oR 12 0), none, some (vI y37), some (vI y38), some (vI x39), some (vI x40), some (vI v59), some (vI z57), none]) q262 rfl rfl (fun _ => rfl) (fun v59 => ?_)
            refine g_p q262 1 146 [some (oR 12 0), none, some (vI y37), some (vI y38), some (vI x39), some (vI x40), some (vI v59), some (vI z57), none] [] rfl ?_
            exact g_end (fun h => g_wk [true, false, true, true, true, true, true, false, false] rfl h)
          ·
            exact g_wkJ [true, false, true, true, false, false, true, true, false] rfl (hj227 ())
set_option maxRecDepth 20000 in
theorem g262 (X : X2) (a1 : Int) (a2 : Int) (s : S2) (o : Option (AV R2) × S2) : J (f262 a1 a2 s) (fun (r : Int × S2) => o = (some (vI r.1), r.2)) (Go X 8 262 0 (am_loc (am_nl 262) [oR 12 0, vI a1, vI a2]) [] s o) := by
  show J _ _ (Go X 8 262 0 [some (oR 12 0), some (vI a1), some (vI a2), none, none, none, none, none, none] [] s o)
  unfold f262
  refine g_p q262 1 1 [some (oR 12 0), some (vI a1), some (vI a2), none, none, none, none, none, none] [oR 12 0] rfl ?_
  refine g_cPI q262 rfl (g220 X s) rfl rfl rfl rfl rfl (fun r1 => ?_)
  refine g_i1 q262 rfl rfl ?_ ?_
  ·
    refine g_p q262 1 30 [some (oR 12 0), some (vI a1), some (vI a2), none, none, none, none, none, none] [vI (-1)] rfl ?_
    exact g_ret q262 rfl rfl rfl
  ·
    refine g_p q262 4 13 [some (oR 12 0), some (vI a1), some (vI a2), none, none, none, none, none, none] [vL 60, vL 0, vL (ji2l a1)] rfl ?_
    refine g_cPI q262 rfl (g173 X (ji2l a1) 0 60 s) rfl rfl rfl rfl rfl (fun r2 => ?_)
    refine g_i1 q262 rfl rfl ?_ ?_
    ·
      refine g_p q262 1 30 [some (oR 12 0), some (vI a1), some (vI a2), none, none, none, none, none, none] [vI (-1)] rfl ?_
      exact g_ret q262 rfl rfl rfl
    ·
      refine g_p q262 4 23 [some (oR 12 0), some (vI a1), some (vI a2), none, none, none, none, none, none] [vL 1, vL 0, vL (ji2l a2)] rfl ?_
      refine g_cPI q262 rfl (g173 X (ji2l a2) 0 1 s) rfl rfl rfl rfl rfl (fun r3 => ?_)
      refine g_i1 q262 rfl rfl ?_ ?_
      ·
        refine g_p q262 2 33 [some (oR 12 0), some (vI a1), some (vI a2), some (vI 0), none, none, none, none, none] [] rfl ?_
        refine g_wkJ [true, true, true, true, false, false, false, false, false] (L0 := [some (oR 12 0), some (vI a1), some (vI a2), some (vI 0), none, none, none, none, none]) rfl ?_
        refine g_itr (H262_a X a1 a2 o) (E262_a X a1 a2 o) (fun | (x6, s7) => g262_a X a1 a2 x6 s7 o) ?_
        intro s10
        show J _ _ (Go X 8 262 55 [some (oR 12 0), some (vI a1), some (vI a2), none, none, none, none, none, none] [] s10 o)
        refine g_p q262 1 56 [some (oR 12 0), some (vI a1), some (vI a2), none, none, none, none, none, none] [oR 12 0] rfl ?_
        refine g_cV q262 rfl (g233 X s10) rfl rfl rfl rfl rfl (fun s11 => ?_)
        refine g_p q262 4 64 [some (oR 12 0), some (vI a1), some (vI a2), some (vI 0), some (vI (-1)), none, none, none, none] [] rfl ?_
        refine g_wkJ [true, true, true, true, true, false, false, false, false] (L0 := [some (oR 12 0), some (vI a1), some (vI a2), some (vI 0), some (vI (-1)), none, none, none, none]) rfl ?_
        refine g_itr (H262_b X a1 a2 o) (E262_b X a1 a2 o) (fun | (x14, x15, s16) => g262_b X a1 a2 x14 x15 s16 o) ?_
        rintro ⟨z35, s36⟩
        show J _ _ (Go X 8 262 135 [some (oR 12 0), none, some (vI a2), some (vI z35), none, none, none, none, none] [] s36 o)
        refine g_p q262 6 146 [some (oR 12 0), none, some (vI a2), some (vI z35), some (vI (-2)), some (vI (-2)), some (vI 0), none, none] [] rfl ?_
        refine g_wkJ [true, false, true, true, true, true, true, false, false] (L0 := [some (oR 12 0), none, some (vI a2), some (vI z35), some (vI (-2)), some (vI (-2)), some (vI 0), none, none]) rfl ?_
        refine g_itr (H262_d X a2 z35 s36 o) (E262_d X a2 z35 s36 o) (fun | (x39, x40, x41) => g262_d X a2 z35 x39 x40 x41 s36 o) ?_
        rintro ⟨z60, z61⟩
        show J _ _ (Go X 8 262 241 [none, none, some (vI a2), none, some (vI z60), some (vI z61), none, none, none] [] s36 o)
        refine g_p q262 1 242 [none, none, some (vI a2), none, some (vI z60), some (vI z61), none, none, none] [vI a2] rfl ?_
        refine g_i1 q262 rfl rfl ?_ ?_
        ·
          refine g_p q262 1 252 [none, none, some (vI a2), none, some (vI z60), some (vI z61), none, none, none] [vI z61] rfl ?_
          exact g_ret q262 rfl rfl rfl
        ·
          refine g_p q262 2 252 [none, none, some (vI a2), none, some (vI z60), some (vI z61), none, none, none] [vI z60] rfl ?_
          exact g_ret q262 rfl rfl rfl
      ·
        refine g_p q262 1 30 [some (oR 12 0), some (vI a1), some (vI a2), none, none, none, none, none, none] [vI (-1)] rfl ?_
        exact g_ret q262 rfl rfl rfl
theorem q263 : am_cd 263 = am_c263 := rfl
def H263_a (X : X2) (y6 : Int) (y7 : Int) (y8 : Int) (y11 : Int) (o : Option (AV R2) × S2) (a : Int × Int × Int × S2) : Prop := Go X 8 263 54 [some (oR 12 0), some (vI y6), some (vI y7), some (vI y8), some (vI (a.1)), some (vI (a.2.1)), some (vI y11), some (vI (a.2.2.1))] [] (a.2.2.2) o
def E263_a (X : X2) (y6 : Int) (y7 : Int) (y8 : Int) (y11 : Int) (o : Option (AV R2) × S2) : (Int × Int × S2) → Prop := (fun (r : Int × Int × S2) => Go X 8 263 110 [none, none, none, some (vI y8), some (vI (r.1)), some (vI (r.2.1)), some (vI y11), none] [] (r.2.2) o)
theorem g263_a (X : X2) (y6 : Int) (y7 : Int) (y8 : Int) (y11 : Int) (x9 : Int) (x10 : Int) (x12 : Int) (s13 : S2) (o : Option (AV R2) × S2) : J (f263_a y6 y7 x9 x10 x12 s13) (am_kx (H263_a X y6 y7 y8 y11 o) (E263_a X y6 y7 y8 y11 o)) (Go X 8 263 54 [some (oR 12 0), some (vI y6), some (vI y7), some (vI y8), some (vI x9), some (vI x10), some (vI y11), some (vI x12)] [] s13 o) := by
  unfold f263_a
  refine g_p q263 2 57 [some (oR 12 0), some (vI y6), some (vI y7), some (vI y8), some (vI x9), some (vI x10), some (vI y11), some (vI x12)] [oR 12 0, vI x12] rfl ?_
  refine g_get q263 rfl rfl rfl (fun _ => rfl) (fun v14 => ?_)
  refine g_i2 q263 rfl rfl ?_ ?_
  ·
    exact g_end (fun h => g_wk [false, false, false, true, true, true, true, false] rfl h)
  ·
    refine g_p q263 1 64 [some (oR 12 0), some (vI y6), some (vI y7), some (vI y8), some (vI x9), some (vI x10), some (vI y11), some (vI x12)] [oR 12 0] rfl ?_
    refine g_m (S := [aR 1537 0]) (some (aR 1537 0)) q263 rfl rfl rfl (fun _ => rfl) rfl ?_
    refine g_p q263 2 71 [some (oR 12 0), some (vI y6), some (vI y7), some (vI y8), some (vI x9), some (vI x10), some (vI y11), some (vI x12)] [vI x12, vI 10, aR 1537 0] rfl ?_
    refine g_sto q263 rfl rfl rfl rfl (fun s15 => ?_)
    refine g_p q263 2 74 [some (oR 12 0), some (vI y6), some (vI y7), some (vI y8), some (vI x9), some (vI x10), some (vI y11), some (vI x12)] [vI y7, oR 12 0] rfl ?_
    refine g_cV q263 rfl (g236 X y7 s15) rfl rfl rfl rfl rfl (fun s16 => ?_)
    refine g_p q263 1 78 [some (oR 12 0), some (vI y6), some (vI y7), some (vI y8), some (vI x9), some (vI x10), some (vI y11), some (vI x12)] [oR 12 0] rfl ?_
    refine g_m (S := [aR 1539 0]) (some (aR 1539 0)) q263 rfl rfl rfl (fun _ => rfl) rfl ?_
    refine g_p q263 1 82 [some (oR 12 0), some (vI y6), some (vI y7), some (vI y8), some (vI x9), some (vI x10), some (vI y11), some (vI x12)] [vI y6, aR 1539 0] rfl ?_
    refine g_ld q263 rfl rfl rfl rfl rfl rfl (fun v17 => ?_)
    refine g_p q263 1 85 [some (oR 12 0), some (vI y6), some (vI y7), some (vI y8), some (vI x9), some (vI x10), some (vI y11), some (vI x12)] [vI x10, vI v17] rfl ?_
    refine g_jn (fun j100 => ∀ (x18 : Int) (x19 : Int), J (j100 x18 x19) (am_kx (H263_a X y6 y7 y8 y11 o) (E263_a X y6 y7 y8 y11 o)) (Go X 8 263 100 [some (oR 12 0), some (vI y6), some (vI y7), some (vI y8), some (vI x18), some (vI x19), some (vI y11), some (vI x12)] [] s16 o)) ?_ (fun j100 hj100 => ?_)
    ·
      intro x18 x19
      refine g_p q263 1 101 [some (oR 12 0), some (vI y6), some (vI y7), some (vI y8), some (vI x18), some (vI x19), some (vI y11), some (vI x12)] [oR 12 0] rfl ?_
      refine g_cV q263 rfl (g237 X s16) rfl rfl rfl rfl rfl (fun s20 => ?_)
      refine g_inc (fun v21 => [some (oR 12 0), some (vI y6), some (vI y7), some (vI y8), some (vI x18), some (vI x19), some (vI y11), some (vI v21)]) q263 rfl rfl (fun _ => rfl) (fun v21 => ?_)
      refine g_p q263 1 54 [some (oR 12 0), some (vI y6), some (vI y7), some (vI y8), some (vI x18), some (vI x19), some (vI y11), some (vI v21)] [] rfl ?_
      exact g_end (fun h => g_wk [true, true, true, true, true, true, true, true] rfl h)
    ·
      refine g_i2 q263 rfl rfl ?_ ?_
      ·
        exact g_wkJ [true, true, true, true, true, true, true, true] rfl (hj100 x9 x10)
      ·
        refine g_p q263 3 93 [some (oR 12 0), some (vI y6), some (vI y7), some (vI y8), some (vI x12), some (vI x10), some (vI y11), some (vI x12)] [oR 12 0] rfl ?_
        refine g_m (S := [aR 1539 0]) (some (aR 1539 0)) q263 rfl rfl rfl (fun _ => rfl) rfl ?_
        refine g_p q263 1 97 [some (oR 12 0), some (vI y6), some (vI y7), some (vI y8), some (vI x12), some (vI x10), some (vI y11), some (vI x12)] [vI y6, aR 1539 0] rfl ?_
        refine g_ld q263 rfl rfl rfl rfl rfl rfl (fun v22 => ?_)
        refine g_p q263 1 100 [some (oR 12 0), some (vI y6), some (vI y7), some (vI y8), some (vI x12), some (vI v22), some (vI y11), some (vI x12)] [] rfl ?_
        exact g_wkJ [true, true, true, true, true, true, true, true] rfl (hj100 x12 v22)
theorem g263 (X : X2) (a1 : Int) (a2 : Int) (a3 : Int) (s : S2) (o : Option (AV R2) × S2) : J (f263 a1 a2 a3 s) (fun (r : Int × S2) => o = (some (vI r.1), r.2)) (Go X 8 263 0 (am_loc (am_nl 263) [oR 12 0, vI a1, vI a2, vI a3]) [] s o) := by
  show J _ _ (Go X 8 263 0 [some (oR 12 0), some (vI a1), some (vI a2), some (vI a3), none, none, none, none] [] s o)
  unfold f263
  refine g_p q263 2 2 [some (oR 12 0), some (vI a1), some (vI a2), some (vI a3), none, none, none, none] [vI a1, oR 12 0] rfl ?_
  refine g_cPI q263 rfl (g198 X a1 s) rfl rfl rfl rfl rfl (fun r1 => ?_)
  refine g_i1 q263 rfl rfl ?_ ?_
  ·
    refine g_p q263 1 32 [some (oR 12 0), some (vI a1), some (vI a2), some (vI a3), none, none, none, none] [vI (-2)] rfl ?_
    exact g_ret q263 rfl rfl rfl
  ·
    refine g_p q263 4 14 [some (oR 12 0), some (vI a1), some (vI a2), some (vI a3), none, none, none, none] [vL 60, vL 1, vL (ji2l a2)] rfl ?_
    refine g_cPI q263 rfl (g173 X (ji2l a2) 1 60 s) rfl rfl rfl rfl rfl (fun r2 => ?_)
    refine g_i1 q263 rfl rfl ?_ ?_
    ·
      refine g_p q263 1 32 [some (oR 12 0), some (vI a1), some (vI a2), some (vI a3), none, none, none, none] [vI (-2)] rfl ?_
      exact g_ret q263 rfl rfl rfl
    ·
      refine g_p q263 4 24 [some (oR 12 0), some (vI a1), some (vI a2), some (vI a3), none, none, none, none] [vL 1, vL 0, vL (ji2l a3)] rfl ?_
      refine g_cPI q263 rfl (g173 X (ji2l a3) 0 1 s) rfl rfl rfl rfl rfl (fun r3 => ?_)
      refine g_i1 q263 rfl rfl ?_ ?_
      ·
        refine g_p q263 5 40 [some (oR 12 0), some (vI a1), some (vI a2), some (vI a3), some (vI (-1)), some (vI (-1)), none, none] [oR 12 0] rfl ?_
        refine g_m (S := [aR 1539 0]) (some (aR 1539 0)) q263 rfl rfl rfl (fun _ => rfl) rfl ?_
        refine g_p q263 1 44 [some (oR 12 0), some (vI a1), some (vI a2), some (vI a3), some (vI (-1)), some (vI (-1)), none, none] [vI a1, aR 1539 0] rfl ?_
        refine g_ld q263 rfl rfl rfl rfl rfl rfl (fun v4 => ?_)
        refine g_p q263 2 48 [some (oR 12 0), some (vI a1), some (vI a2), some (vI a3), some (vI (-1)), some (vI (-1)), some (vI v4), none] [oR 12 0] rfl ?_
        refine g_cV q263 rfl (g233 X s) rfl rfl rfl rfl rfl (fun s5 => ?_)
        refine g_p q263 2 54 [some (oR 12 0), some (vI a1), some (vI a2), some (vI a3), some (vI (-1)), some (vI (-1)), some (vI v4), some (vI (-1))] [] rfl ?_
        refine g_wkJ [true, true, true, true, true, true, true, true] (L0 := [some (oR 12 0), some (vI a1), some (vI a2), some (vI a3), some (vI (-1)), some (vI (-1)), some (vI v4), some (vI (-1))]) rfl ?_
        refine g_itr (H263_a X a1 a2 a3 v4 o) (E263_a X a1 a2 a3 v4 o) (fun | (x9, x10, x12, s13) => g263_a X a1 a2 a3 v4 x9 x10 x12 s13 o) ?_
        rintro ⟨z23, z24, s25⟩
        show J _ _ (Go X 8 263 110 [none, none, none, some (vI a3), some (vI z23), some (vI z24), some (vI v4), none] [] s25 o)
        refine g_p q263 1 111 [none, none, none, some (vI a3), some (vI z23), some (vI z24), some (vI v4), none] [vI a3] rfl ?_
        refine g_i1 q263 rfl rfl ?_ ?_
        ·
          refine g_p q263 3 124 [none, none, none, some (vI a3), some (vI z23), some (vI z24), some (vI v4), none] [vI (jsub z24 v4)] rfl ?_
          refine g_top (fun v26 => ?_)
          exact g_ret q263 rfl rfl rfl
        ·
          refine g_p q263 2 124 [none, none, none, some (vI a3), some (vI z23), some (vI z24), some (vI v4), none] [vI z23] rfl ?_
          exact g_ret q263 rfl rfl rfl
      ·
        refine g_p q263 1 32 [some (oR 12 0), some (vI a1), some (vI a2), some (vI a3), none, none, none, none] [vI (-2)] rfl ?_
        exact g_ret q263 rfl rfl rfl
theorem q264 : am_cd 264 = am_c264 := rfl
theorem g264 (X : X2) (a1 : Int) (s : S2) (o : Option (AV R2) × S2) : J (f264 a1 s) (fun (r : Int × S2) => o = (some (vI r.1), r.2)) (Go X 1 264 0 (am_loc (am_nl 264) [oR 12 0, vI a1]) [] s o) := by
  show J _ _ (Go X 1 264 0 [some (oR 12 0), some (vI a1), none] [] s o)
  unfold f264
  refine g_p q264 1 1 [some (oR 12 0), some (vI a1), none] [vI a1] rfl ?_
  refine g_i1 q264 rfl rfl ?_ ?_
  ·
    refine g_p q264 1 7 [some (oR 12 0), some (vI a1), none] [oR 12 0] rfl ?_
    refine g_m (S := [aR 1537 0]) (some (aR 1537 0)) q264 rfl rfl rfl (fun _ => rfl) rfl ?_
    refine g_p q264 1 12 [some (oR 12 0), some (vI a1), none] [vI 9, aR 1537 0] rfl ?_
    refine g_ld q264 rfl rfl rfl rfl rfl rfl (fun v1 => ?_)
    refine g_p q264 2 15 [some (oR 12 0), some (vI a1), some (vI v1)] [oR 12 0] rfl ?_
    refine g_m (S := [aR 1537 0]) (some (aR 1537 0)) q264 rfl rfl rfl (fun _ => rfl) rfl ?_
    refine g_p q264 2 21 [some (oR 12 0), some (vI a1), some (vI v1)] [vI a1, vI 9, aR 1537 0] rfl ?_
    refine g_sto q264 rfl rfl rfl rfl (fun s2 => ?_)
    refine g_p q264 1 23 [some (oR 12 0), some (vI a1), some (vI v1)] [vI v1] rfl ?_
    exact g_ret q264 rfl rfl rfl
  ·
    refine g_p q264 1 5 [some (oR 12 0), some (vI a1), none] [vI (-1)] rfl ?_
    exact g_ret q264 rfl rfl rfl
theorem q266 : am_cd 266 = am_c266 := rfl
theorem g266 (X : X2) (a1 : Int) (s : S2) (o : Option (AV R2) × S2) : J (f266 a1 s) (fun (r : Int × S2) => o = (some (vI r.1), r.2)) (Go X 1 266 0 (am_loc (am_nl 266) [oR 12 0, vI a1]) [] s o) := by
  show J _ _ (Go X 1 266 0 [some (oR 12 0), some (vI a1)] [] s o)
  unfold f266
  refine g_p q266 1 1 [some (oR 12 0), some (vI a1)] [oR 12 0] rfl ?_
  refine g_m (S := [aR 1537 0]) (some (aR 1537 0)) q266 rfl rfl rfl (fun _ => rfl) rfl ?_
  refine g_p q266 2 7 [some (oR 12 0), some (vI a1)] [oR 12 0, vI 9, aR 1537 0] rfl ?_
  refine g_m (S := [aR 1537 0, vI 9, aR 1537 0]) (some (aR 1537 0)) q266 rfl rfl rfl (fun _ => rfl) rfl ?_
  refine g_p q266 1 12 [some (oR 12 0), some (vI a1)] [vI 9, aR 1537 0, vI 9, aR 1537 0] rfl ?_
  refine g_ld q266 rfl rfl rfl rfl rfl rfl (fun v1 => ?_)
  refine g_p q266 8 27 [some (oR 12 0), some (vI a1)] [vI (jl2i (krem (kadd (kmul (ji2l v1) 1103515245) 12345) 2147483648)), vI 9, aR 1537 0] rfl ?_
  refine g_sto q266 rfl rfl rfl rfl (fun s2 => ?_)
  refine g_p q266 1 29 [some (oR 12 0), some (vI a1)] [oR 12 0] rfl ?_
  refine g_m (S := [aR 1537 0]) (some (aR 1537 0)) q266 rfl rfl rfl (fun _ => rfl) rfl ?_
  refine g_p q266 1 34 [some (oR 12 0), some (vI a1)] [vI 9, aR 1537 0] rfl ?_
  refine g_ld q266 rfl rfl rfl rfl rfl rfl (fun v3 => ?_)
  refine g_p q266 3 40 [some (oR 12 0), some (vI a1)] [vI a1, vI (jdiv v3 65536)] rfl ?_
  refine g_irem q266 rfl ?_
  refine g_top (fun v4 => ?_)
  exact g_ret q266 rfl rfl rfl
theorem q267 : am_cd 267 = am_c267 := rfl
def H267_a (X : X2) (s3 : S2) (o : Option (AV R2) × S2) (a : Int × Int) : Prop := Go X 1 267 4 [some (oR 12 0), some (vI (a.1)), some (vI (a.2))] [] s3 o
def E267_a (X : X2) (s3 : S2) (o : Option (AV R2) × S2) : (Int) → Prop := (fun (r : Int) => Go X 1 267 47 [none, some (vI r), none] [] s3 o)
theorem g267_a (X : X2) (x1 : Int) (x2 : Int) (s3 : S2) (o : Option (AV R2) × S2) : J (f267_a x1 x2 s3) (am_kx (H267_a X s3 o) (E267_a X s3 o)) (Go X 1 267 4 [some (oR 12 0), some (vI x1), some (vI x2)] [] s3 o) := by
  unfold f267_a
  refine g_p q267 2 6 [some (oR 12 0), some (vI x1), some (vI x2)] [oR 12 0, vI x2] rfl ?_
  refine g_m (S := [aR 1537 0, vI x2]) (some (aR 1537 0)) q267 rfl rfl rfl (fun _ => rfl) rfl ?_
  refine g_p q267 1 10 [some (oR 12 0), some (vI x1), some (vI x2)] [vI 4, aR 1537 0, vI x2] rfl ?_
  refine g_ld q267 rfl rfl rfl rfl rfl rfl (fun v4 => ?_)
  refine g_i2 q267 rfl rfl ?_ ?_
  ·
    exact g_end (fun h => g_wk [false, true, false] rfl h)
  ·
    refine g_p q267 2 16 [some (oR 12 0), some (vI x1), some (vI x2)] [oR 12 0, vI x1] rfl ?_
    refine g_m (S := [aR 1548 0, vI x1]) (some (aR 1548 0)) q267 rfl rfl rfl (fun _ => rfl) rfl ?_
    refine g_p q267 1 20 [some (oR 12 0), some (vI x1), some (vI x2)] [vI x2, aR 1548 0, vI x1] rfl ?_
    refine g_ld q267 rfl rfl rfl rfl rfl rfl (fun v5 => ?_)
    refine g_p q267 1 22 [some (oR 12 0), some (vI x1), some (vI x2)] [vI (-1), vI v5, vI x1] rfl ?_
    refine g_jn (fun j39 => ∀ (x6 : Int), J (j39 x6) (am_kx (H267_a X s3 o) (E267_a X s3 o)) (Go X 1 267 39 [some (oR 12 0), none, some (vI x2)] [vI x6, vI x1] s3 o)) ?_ (fun j39 hj39 => ?_)
    ·
      intro x6
      refine g_p q267 1 40 [some (oR 12 0), none, some (vI x2)] [vI (jadd x1 x6)] rfl ?_
      refine g_top (fun v7 => ?_)
      refine g_p q267 1 41 [some (oR 12 0), some (vI v7), some (vI x2)] [] rfl ?_
      refine g_inc (fun v8 => [some (oR 12 0), some (vI v7), some (vI v8)]) q267 rfl rfl (fun _ => rfl) (fun v8 => ?_)
      refine g_p q267 1 4 [some (oR 12 0), some (vI v7), some (vI v8)] [] rfl ?_
      exact g_end (fun h => g_wk [true, true, true] rfl h)
    ·
      refine g_jn (fun j38 => ∀ (_ : Unit), J (j38 ()) (am_kx (H267_a X s3 o) (E267_a X s3 o)) (Go X 1 267 38 [some (oR 12 0), none, some (vI x2)] [vI x1] s3 o)) ?_ (fun j38 hj38 => ?_)
      ·
        intro _
        refine g_p q267 1 39 [some (oR 12 0), none, some (vI x2)] [vI 0, vI x1] rfl ?_
        exact g_wkJ [true, false, true] rfl (hj39 0)
      ·
        refine g_i2 q267 rfl rfl ?_ ?_
        ·
          exact g_wkJ [true, false, true] rfl (hj38 ())
        ·
          refine g_p q267 1 26 [some (oR 12 0), some (vI x1), some (vI x2)] [oR 12 0, vI x1] rfl ?_
          refine g_m (S := [aR 1547 0, vI x1]) (some (aR 1547 0)) q267 rfl rfl rfl (fun _ => rfl) rfl ?_
          refine g_p q267 1 30 [some (oR 12 0), some (vI x1), some (vI x2)] [vI x2, aR 1547 0, vI x1] rfl ?_
          refine g_ld q267 rfl rfl rfl rfl rfl rfl (fun v9 => ?_)
          refine g_i1 q267 rfl rfl ?_ ?_
          ·
            exact g_wkJ [true, false, true] rfl (hj38 ())
          ·
            refine g_p q267 2 39 [some (oR 12 0), some (vI x1), some (vI x2)] [vI 1, vI x1] rfl ?_
            exact g_wkJ [true, false, true] rfl (hj39 1)
theorem g267 (X : X2) (s : S2) (o : Option (AV R2) × S2) : J (f267 s) (fun (r : Int) => o = (some (vI r), s)) (Go X 1 267 0 (am_loc (am_nl 267) [oR 12 0]) [] s o) := by
  show J _ _ (Go X 1 267 0 [some (oR 12 0), none, none] [] s o)
  unfold f267
  refine g_p q267 4 4 [some (oR 12 0), some (vI 0), some (vI 0)] [] rfl ?_
  refine g_wkJ [true, true, true] (L0 := [some (oR 12 0), some (vI 0), some (vI 0)]) rfl ?_
  refine g_itr (H267_a X s o) (E267_a X s o) (fun | (x1, x2) => g267_a X x1 x2 s o) ?_
  intro z10
  show J _ _ (Go X 1 267 47 [none, some (vI z10), none] [] s o)
  refine g_p q267 1 48 [none, some (vI z10), none] [vI z10] rfl ?_
  exact g_ret q267 rfl rfl rfl
theorem q265 : am_cd 265 = am_c265 := rfl
def H265_b (X : X2) (y19 : Int) (y20 : Int) (y21 : Int) (y22 : Int) (y23 : Int) (y25 : Int) (y26 : Int) (o : Option (AV R2) × S2) (a : Int × Int × S2) : Prop := Go X 7 265 100 [some (oR 12 0), some (vI y19), some (vI y20), some (vI y21), some (vI y22), some (vI y23), none, some (vI (a.1)), some (vI y25), some (vI y26), some (vI (a.2.1))] [] (a.2.2) o
def E265_b (X : X2) (y19 : Int) (y20 : Int) (y21 : Int) (y22 : Int) (y23 : Int) (y25 : Int) (y26 : Int) (o : Option (AV R2) × S2) : (Int × S2) → Prop := (fun (r : Int × S2) => Go X 7 265 140 [some (oR 12 0), some (vI y19), some (vI y20), some (vI y21), some (vI y22), some (vI y23), none, some (vI (r.1)), some (vI y25), some (vI y26), none] [] (r.2) o)
theorem g265_b (X : X2) (y19 : Int) (y20 : Int) (y21 : Int) (y22 : Int) (y23 : Int) (y25 : Int) (y26 : Int) (x24 : Int) (x27 : Int) (s28 : S2) (o : Option (AV R2) × S2) : J (f265_b y20 y21 x24 x27 s28) (am_kx (H265_b X y19 y20 y21 y22 y23 y25 y26 o) (E265_b X y19 y20 y21 y22 y23 y25 y26 o)) (Go X 7 265 100 [some (oR 12 0), some (vI y19), some (vI y20), some (vI y21), some (vI y22), some (vI y23), none, some (vI x24), some (vI y25), some (vI y26), some (vI x27)] [] s28 o) := by
  unfold f265_b
  refine g_p q265 2 103 [some (oR 12 0), some (vI y19), some (vI y20), some (vI y21), some (vI y22), some (vI y23), none, some (vI x24), some (vI y25), some (vI y26), some (vI x27)] [vI y20, vI x27] rfl ?_
  refine g_i2 q265 rfl rfl ?_ ?_
  ·
    exact g_end (fun h => g_wk [true, true, true, true, true, true, false, true, true, true, false] rfl h)
  ·
    refine g_p q265 3 110 [some (oR 12 0), some (vI y19), some (vI y20), some (vI y21), some (vI y22), some (vI y23), none, some (vI x24), some (vI y25), some (vI y26), some (vI x27)] [vI 100, oR 12 0, oR 12 0] rfl ?_
    refine g_cRI q265 rfl (g266 X 100 s28) rfl rfl rfl rfl rfl (fun r29 s30 => ?_)
    refine g_p q265 1 114 [some (oR 12 0), some (vI y19), some (vI y20), some (vI y21), some (vI y22), some (vI y23), none, some (vI x24), some (vI y25), some (vI y26), some (vI x27)] [vI y21, vI r29, oR 12 0] rfl ?_
    refine g_jn (fun j122 => ∀ (x31 : Int), J (j122 x31) (am_kx (H265_b X y19 y20 y21 y22 y23 y25 y26 o) (E265_b X y19 y20 y21 y22 y23 y25 y26 o)) (Go X 7 265 122 [some (oR 12 0), some (vI y19), some (vI y20), some (vI y21), some (vI y22), some (vI y23), none, some (vI x24), some (vI y25), some (vI y26), some (vI x27)] [vI x31, oR 12 0] s30 o)) ?_ (fun j122 hj122 => ?_)
    ·
      intro x31
      refine g_putb q265 rfl rfl rfl (fun _ h => if_pos h) (fun s32 => ?_)
      refine g_p q265 2 128 [some (oR 12 0), some (vI y19), some (vI y20), some (vI y21), some (vI y22), some (vI y23), none, some (vI x24), some (vI y25), some (vI y26), some (vI x27)] [oR 12 0, vI x24] rfl ?_
      refine g_cRI q265 rfl (g222 X s32) rfl rfl rfl rfl rfl (fun r33 s34 => ?_)
      refine g_p q265 1 132 [some (oR 12 0), some (vI y19), some (vI y20), some (vI y21), some (vI y22), some (vI y23), none, some (vI x24), some (vI y25), some (vI y26), some (vI x27)] [vI (jadd x24 r33)] rfl ?_
      refine g_top (fun v35 => ?_)
      refine g_p q265 1 134 [some (oR 12 0), some (vI y19), some (vI y20), some (vI y21), some (vI y22), some (vI y23), none, some (vI v35), some (vI y25), some (vI y26), some (vI x27)] [] rfl ?_
      refine g_inc (fun v36 => [some (oR 12 0), some (vI y19), some (vI y20), some (vI y21), some (vI y22), some (vI y23), none, some (vI v35), some (vI y25), some (vI y26), some (vI v36)]) q265 rfl rfl (fun _ => rfl) (fun v36 => ?_)
      refine g_p q265 1 100 [some (oR 12 0), some (vI y19), some (vI y20), some (vI y21), some (vI y22), some (vI y23), none, some (vI v35), some (vI y25), some (vI y26), some (vI v36)] [] rfl ?_
      exact g_end (fun h => g_wk [true, true, true, true, true, true, false, true, true, true, true] rfl h)
    ·
      refine g_i2 q265 rfl rfl ?_ ?_
      ·
        refine g_p q265 1 122 [some (oR 12 0), some (vI y19), some (vI y20), some (vI y21), some (vI y22), some (vI y23), none, some (vI x24), some (vI y25), some (vI y26), some (vI x27)] [vI 0, oR 12 0] rfl ?_
        exact g_wkJ [true, true, true, true, true, true, false, true, true, true, true] rfl (hj122 0)
      ·
        refine g_p q265 2 122 [some (oR 12 0), some (vI y19), some (vI y20), some (vI y21), some (vI y22), some (vI y23), none, some (vI x24), some (vI y25), some (vI y26), some (vI x27)] [vI 1, oR 12 0] rfl ?_
        exact g_wkJ [true, true, true, true, true, true, false, true, true, true, true] rfl (hj122 1)
def H265_a (X : X2) (y8 : Int) (y9 : Int) (y10 : Int) (y11 : Int) (y12 : Int) (o : Option (AV R2) × S2) (a : Int × Int × Int × Int × S2) : Prop := Go X 7 265 82 [some (oR 12 0), some (vI y8), some (vI y9), some (vI y10), some (vI y11), some (vI y12), some (vI (a.1)), some (vI (a.2.1)), some (vI (a.2.2.1)), some (vI (a.2.2.2.1)), none] [] (a.2.2.2.2) o
def E265_a (X : X2) (y8 : Int) (y9 : Int) (y10 : Int) (y11 : Int) (y12 : Int) (o : Option (AV R2) × S2) : (Int × Int × S2) → Prop := (fun (r : Int × Int × S2) => Go X 7 265 173 [some (oR 12 0), none, none, none, some (vI y11), some (vI y12), none, some (vI (r.1)), some (vI (r.2.1)), none, none] [] (r.2.2) o)
theorem g265_a (X : X2) (y8 : Int) (y9 : Int) (y10 : Int) (y11 : Int) (y12 : Int) (x13 : Int) (x14 : Int) (x15 : Int) (x16 : Int) (s17 : S2) (o : Option (AV R2) × S2) : J (f265_a y8 y9 y10 x13 x14 x15 x16 s17) (am_kx (H265_a X y8 y9 y10 y11 y12 o) (E265_a X y8 y9 y10 y11 y12 o)) (Go X 7 265 82 [some (oR 12 0), some (vI y8), some (vI y9), some (vI y10), some (vI y11), some (vI y12), some (vI x13), some (vI x14), some (vI x15), some (vI x16), none] [] s17 o) := by
  unfold f265_a
  refine g_p q265 2 85 [some (oR 12 0), some (vI y8), some (vI y9), some (vI y10), some (vI y11), some (vI y12), some (vI x13), some (vI x14), some (vI x15), some (vI x16), none] [vI y8, vI x16] rfl ?_
  refine g_i2 q265 rfl rfl ?_ ?_
  ·
    exact g_end (fun h => g_wk [true, false, false, false, true, true, false, true, true, false, false] rfl h)
  ·
    refine g_p q265 1 89 [some (oR 12 0), some (vI y8), some (vI y9), some (vI y10), some (vI y11), some (vI y12), some (vI x13), some (vI x14), some (vI x15), some (vI x16), none] [oR 12 0] rfl ?_
    refine g_m (S := [aR 1537 0]) (some (aR 1537 0)) q265 rfl rfl rfl (fun _ => rfl) rfl ?_
    refine g_p q265 2 96 [some (oR 12 0), some (vI y8), some (vI y9), some (vI y10), some (vI y11), some (vI y12), some (vI x13), some (vI x14), some (vI x15), some (vI x16), none] [vI x13, vI 9, aR 1537 0] rfl ?_
    refine g_sto q265 rfl rfl rfl rfl (fun s18 => ?_)
    refine g_p q265 2 100 [some (oR 12 0), some (vI y8), some (vI y9), some (vI y10), some (vI y11), some (vI y12), some (vI x13), some (vI x14), some (vI x15), some (vI x16), some (vI 0)] [] rfl ?_
    refine g_wkJ [true, true, true, true, true, true, false, true, true, true, true] (L0 := [some (oR 12 0), some (vI y8), some (vI y9), some (vI y10), some (vI y11), some (vI y12), none, some (vI x14), some (vI x15), some (vI x16), some (vI 0)]) rfl ?_
    refine g_itr (H265_b X y8 y9 y10 y11 y12 x15 x16 o) (E265_b X y8 y9 y10 y11 y12 x15 x16 o) (fun | (x24, x27, s28) => g265_b X y8 y9 y10 y11 y12 x15 x16 x24 x27 s28 o) ?_
    rintro ⟨z37, s38⟩
    show J _ _ (Go X 7 265 140 [some (oR 12 0), some (vI y8), some (vI y9), some (vI y10), some (vI y11), some (vI y12), none, some (vI z37), some (vI x15), some (vI x16), none] [] s38 o)
    refine g_p q265 2 142 [some (oR 12 0), some (vI y8), some (vI y9), some (vI y10), some (vI y11), some (vI y12), none, some (vI z37), some (vI x15), some (vI x16), none] [vI 0, oR 12 0] rfl ?_
    refine g_put q265 rfl rfl rfl (fun _ => rfl) (fun s39 => ?_)
    refine g_p q265 2 148 [some (oR 12 0), some (vI y8), some (vI y9), some (vI y10), some (vI y11), some (vI y12), none, some (vI z37), some (vI x15), some (vI x16), none] [oR 12 0, vI x15] rfl ?_
    refine g_cPI q265 rfl (g267 X s39) rfl rfl rfl rfl rfl (fun r40 => ?_)
    refine g_p q265 1 152 [some (oR 12 0), some (vI y8), some (vI y9), some (vI y10), some (vI y11), some (vI y12), none, some (vI z37), some (vI x15), some (vI x16), none] [vI (jadd x15 r40)] rfl ?_
    refine g_top (fun v41 => ?_)
    refine g_p q265 2 155 [some (oR 12 0), some (vI y8), some (vI y9), some (vI y10), some (vI y11), some (vI y12), none, some (vI z37), some (vI v41), some (vI x16), none] [oR 12 0] rfl ?_
    refine g_m (S := [aR 1537 0]) (some (aR 1537 0)) q265 rfl rfl rfl (fun _ => rfl) rfl ?_
    refine g_p q265 1 160 [some (oR 12 0), some (vI y8), some (vI y9), some (vI y10), some (vI y11), some (vI y12), none, some (vI z37), some (vI v41), some (vI x16), none] [vI 9, aR 1537 0] rfl ?_
    refine g_ld q265 rfl rfl rfl rfl rfl rfl (fun v42 => ?_)
    refine g_p q265 2 164 [some (oR 12 0), some (vI y8), some (vI y9), some (vI y10), some (vI y11), some (vI y12), some (vI v42), some (vI z37), some (vI v41), some (vI x16), none] [oR 12 0] rfl ?_
    refine g_cV q265 rfl (g237 X s39) rfl rfl rfl rfl rfl (fun s43 => ?_)
    refine g_inc (fun v44 => [some (oR 12 0), some (vI y8), some (vI y9), some (vI y10), some (vI y11), some (vI y12), some (vI v42), some (vI z37), some (vI v41), some (vI v44), none]) q265 rfl rfl (fun _ => rfl) (fun v44 => ?_)
    refine g_p q265 1 82 [some (oR 12 0), some (vI y8), some (vI y9), some (vI y10), some (vI y11), some (vI y12), some (vI v42), some (vI z37), some (vI v41), some (vI v44), none] [] rfl ?_
    exact g_end (fun h => g_wk [true, true, true, true, true, true, true, true, true, true, false] rfl h)
theorem g265 (X : X2) (a1 : Int) (a2 : Int) (a3 : Int) (a4 : Int) (s : S2) (o : Option (AV R2) × S2) : J (f265 a1 a2 a3 a4 s) (fun (r : Int × S2) => o = (some (vI r.1), r.2)) (Go X 7 265 0 (am_loc (am_nl 265) [oR 12 0, vI a1, vI a2, vI a3, vI a4]) [] s o) := by
  show J _ _ (Go X 7 265 0 [some (oR 12 0), some (vI a1), some (vI a2), some (vI a3), some (vI a4), none, none, none, none, none, none] [] s o)
  unfold f265
  refine g_p q265 1 1 [some (oR 12 0), some (vI a1), some (vI a2), some (vI a3), some (vI a4), none, none, none, none, none, none] [oR 12 0] rfl ?_
  refine g_cPI q265 rfl (g220 X s) rfl rfl rfl rfl rfl (fun r1 => ?_)
  refine g_i1 q265 rfl rfl ?_ ?_
  ·
    refine g_p q265 1 55 [some (oR 12 0), some (vI a1), some (vI a2), some (vI a3), some (vI a4), none, none, none, none, none, none] [vI (-1)] rfl ?_
    exact g_ret q265 rfl rfl rfl
  ·
    refine g_p q265 4 13 [some (oR 12 0), some (vI a1), some (vI a2), some (vI a3), some (vI a4), none, none, none, none, none, none] [vL 10, vL 1, vL (ji2l a1)] rfl ?_
    refine g_cPI q265 rfl (g173 X (ji2l a1) 1 10 s) rfl rfl rfl rfl rfl (fun r2 => ?_)
    refine g_i1 q265 rfl rfl ?_ ?_
    ·
      refine g_p q265 1 55 [some (oR 12 0), some (vI a1), some (vI a2), some (vI a3), some (vI a4), none, none, none, none, none, none] [vI (-1)] rfl ?_
      exact g_ret q265 rfl rfl rfl
    ·
      refine g_p q265 4 25 [some (oR 12 0), some (vI a1), some (vI a2), some (vI a3), some (vI a4), none, none, none, none, none, none] [vL 60, vL 1, vL (ji2l a2)] rfl ?_
      refine g_cPI q265 rfl (g173 X (ji2l a2) 1 60 s) rfl rfl rfl rfl rfl (fun r3 => ?_)
      refine g_i1 q265 rfl rfl ?_ ?_
      ·
        refine g_p q265 1 55 [some (oR 12 0), some (vI a1), some (vI a2), some (vI a3), some (vI a4), none, none, none, none, none, none] [vI (-1)] rfl ?_
        exact g_ret q265 rfl rfl rfl
      ·
        refine g_p q265 4 37 [some (oR 12 0), some (vI a1), some (vI a2), some (vI a3), some (vI a4), none, none, none, none, none, none] [vL 100, vL 0, vL (ji2l a3)] rfl ?_
        refine g_cPI q265 rfl (g173 X (ji2l a3) 0 100 s) rfl rfl rfl rfl rfl (fun r4 => ?_)
        refine g_i1 q265 rfl rfl ?_ ?_
        ·
          refine g_p q265 1 55 [some (oR 12 0), some (vI a1), some (vI a2), some (vI a3), some (vI a4), none, none, none, none, none, none] [vI (-1)] rfl ?_
          exact g_ret q265 rfl rfl rfl
        ·
          refine g_p q265 4 48 [some (oR 12 0), some (vI a1), some (vI a2), some (vI a3), some (vI a4), none, none, none, none, none, none] [vL 1, vL 0, vL (ji2l a4)] rfl ?_
          refine g_cPI q265 rfl (g173 X (ji2l a4) 0 1 s) rfl rfl rfl rfl rfl (fun r5 => ?_)
          refine g_i1 q265 rfl rfl ?_ ?_
          ·
            refine g_p q265 1 57 [some (oR 12 0), some (vI a1), some (vI a2), some (vI a3), some (vI a4), none, none, none, none, none, none] [oR 12 0] rfl ?_
            refine g_m (S := [aR 1537 0]) (some (aR 1537 0)) q265 rfl rfl rfl (fun _ => rfl) rfl ?_
            refine g_p q265 1 62 [some (oR 12 0), some (vI a1), some (vI a2), some (vI a3), some (vI a4), none, none, none, none, none, none] [vI 9, aR 1537 0] rfl ?_
            refine g_ld q265 rfl rfl rfl rfl rfl rfl (fun v6 => ?_)
            refine g_p q265 8 76 [some (oR 12 0), some (vI a1), some (vI a2), some (vI a3), some (vI a4), some (vI v6), some (vI v6), some (vI 0), some (vI 0), none, none] [oR 12 0] rfl ?_
            refine g_cV q265 rfl (g233 X s) rfl rfl rfl rfl rfl (fun s7 => ?_)
            refine g_p q265 2 82 [some (oR 12 0), some (vI a1), some (vI a2), some (vI a3), some (vI a4), some (vI v6), some (vI v6), some (vI 0), some (vI 0), some (vI 0), none] [] rfl ?_
            refine g_wkJ [true, true, true, true, true, true, true, true, true, true, false] (L0 := [some (oR 12 0), some (vI a1), some (vI a2), some (vI a3), some (vI a4), some (vI v6), some (vI v6), some (vI 0), some (vI 0), some (vI 0), none]) rfl ?_
            refine g_itr (H265_a X a1 a2 a3 a4 v6 o) (E265_a X a1 a2 a3 a4 v6 o) (fun | (x13, x14, x15, x16, s17) => g265_a X a1 a2 a3 a4 v6 x13 x14 x15 x16 s17 o) ?_
            rintro ⟨z45, z46, s47⟩
            show J _ _ (Go X 7 265 173 [some (oR 12 0), none, none, none, some (vI a4), some (vI v6), none, some (vI z45), some (vI z46), none, none] [] s47 o)
            refine g_p q265 1 174 [some (oR 12 0), none, none, none, some (vI a4), some (vI v6), none, some (vI z45), some (vI z46), none, none] [oR 12 0] rfl ?_
            refine g_m (S := [aR 1537 0]) (some (aR 1537 0)) q265 rfl rfl rfl (fun _ => rfl) rfl ?_
            refine g_p q265 2 181 [some (oR 12 0), none, none, none, some (vI a4), some (vI v6), none, some (vI z45), some (vI z46), none, none] [vI v6, vI 9, aR 1537 0] rfl ?_
            refine g_sto q265 rfl rfl rfl rfl (fun s48 => ?_)
            refine g_p q265 1 184 [some (oR 12 0), none, none, none, some (vI a4), some (vI v6), none, some (vI z45), some (vI z46), none, none] [vI a4] rfl ?_
            refine g_i1 q265 rfl rfl ?_ ?_
            ·
              refine g_p q265 1 194 [some (oR 12 0), none, none, none, some (vI a4), some (vI v6), none, some (vI z45), some (vI z46), none, none] [vI z46] rfl ?_
              exact g_ret q265 rfl rfl rfl
            ·
              refine g_p q265 2 194 [some (oR 12 0), none, none, none, some (vI a4), some (vI v6), none, some (vI z45), some (vI z46), none, none] [vI z45] rfl ?_
              exact g_ret q265 rfl rfl rfl
          ·
            refine g_p q265 1 55 [some (oR 12 0), some (vI a1), some (vI a2), some (vI a3), some (vI a4), none, none, none, none, none, none] [vI (-1)] rfl ?_
            exact g_ret q265 rfl rfl rfl
theorem q269 : am_cd 269 = am_c269 := rfl
def H269_a (X : X2) (s3 : S2) (o : Option (AV R2) × S2) (a : Int × Int) : Prop := Go X 1 269 4 [some (oR 12 0), some (vI (a.1)), some (vI (a.2))] [] s3 o
def E269_a (X : X2) (s3 : S2) (o : Option (AV R2) × S2) : (Int) → Prop := (fun (r : Int) => Go X 1 269 40 [none, some (vI r), none] [] s3 o)
theorem g269_a (X : X2) (x1 : Int) (x2 : Int) (s3 : S2) (o : Option (AV R2) × S2) : J (f269_a x1 x2 s3) (am_kx (H269_a X s3 o) (E269_a X s3 o)) (Go X 1 269 4 [some (oR 12 0), some (vI x1), some (vI x2)] [] s3 o) := by
  unfold f269_a
  refine g_p q269 2 6 [some (oR 12 0), some (vI x1), some (vI x2)] [oR 12 0, vI x2] rfl ?_
  refine g_m (S := [aR 1537 0, vI x2]) (some (aR 1537 0)) q269 rfl rfl rfl (fun _ => rfl) rfl ?_
  refine g_p q269 1 10 [some (oR 12 0), some (vI x1), some (vI x2)] [vI 4, aR 1537 0, vI x2] rfl ?_
  refine g_ld q269 rfl rfl rfl rfl rfl rfl (fun v4 => ?_)
  refine g_i2 q269 rfl rfl ?_ ?_
  ·
    exact g_end (fun h => g_wk [false, true, false] rfl h)
  ·
    refine g_p q269 2 16 [some (oR 12 0), some (vI x1), some (vI x2)] [oR 12 0, vI x1] rfl ?_
    refine g_m (S := [aR 1548 0, vI x1]) (some (aR 1548 0)) q269 rfl rfl rfl (fun _ => rfl) rfl ?_
    refine g_p q269 1 20 [some (oR 12 0), some (vI x1), some (vI x2)] [vI x2, aR 1548 0, vI x1] rfl ?_
    refine g_ld q269 rfl rfl rfl rfl rfl rfl (fun v5 => ?_)
    refine g_p q269 1 22 [some (oR 12 0), some (vI x1), some (vI x2)] [vI (-1), vI v5, vI x1] rfl ?_
    refine g_jn (fun j32 => ∀ (x6 : Int), J (j32 x6) (am_kx (H269_a X s3 o) (E269_a X s3 o)) (Go X 1 269 32 [some (oR 12 0), none, some (vI x2)] [vI x6, vI x1] s3 o)) ?_ (fun j32 hj32 => ?_)
    ·
      intro x6
      refine g_p q269 1 33 [some (oR 12 0), none, some (vI x2)] [vI (jor x1 x6)] rfl ?_
      refine g_top (fun v7 => ?_)
      refine g_p q269 1 34 [some (oR 12 0), some (vI v7), some (vI x2)] [] rfl ?_
      refine g_inc (fun v8 => [some (oR 12 0), some (vI v7), some (vI v8)]) q269 rfl rfl (fun _ => rfl) (fun v8 => ?_)
      refine g_p q269 1 4 [some (oR 12 0), some (vI v7), some (vI v8)] [] rfl ?_
      exact g_end (fun h => g_wk [true, true, true] rfl h)
    ·
      refine g_i2 q269 rfl rfl ?_ ?_
      ·
        refine g_p q269 1 32 [some (oR 12 0), some (vI x1), some (vI x2)] [vI 0, vI x1] rfl ?_
        exact g_wkJ [true, false, true] rfl (hj32 0)
      ·
        refine g_p q269 4 32 [some (oR 12 0), some (vI x1), some (vI x2)] [vI (jshl 1 x2), vI x1] rfl ?_
        exact g_wkJ [true, false, true] rfl (hj32 (jshl 1 x2))
theorem g269 (X : X2) (s : S2) (o : Option (AV R2) × S2) : J (f269 s) (fun (r : Int) => o = (some (vI r), s)) (Go X 1 269 0 (am_loc (am_nl 269) [oR 12 0]) [] s o) := by
  show J _ _ (Go X 1 269 0 [some (oR 12 0), none, none] [] s o)
  unfold f269
  refine g_p q269 4 4 [some (oR 12 0), some (vI 0), some (vI 0)] [] rfl ?_
  refine g_wkJ [true, true, true] (L0 := [some (oR 12 0), some (vI 0), some (vI 0)]) rfl ?_
  refine g_itr (H269_a X s o) (E269_a X s o) (fun | (x1, x2) => g269_a X x1 x2 s o) ?_
  intro z9
  show J _ _ (Go X 1 269 40 [none, some (vI z9), none] [] s o)
  refine g_p q269 1 41 [none, some (vI z9), none] [vI z9] rfl ?_
  exact g_ret q269 rfl rfl rfl
theorem q268 : am_cd 268 = am_c268 := rfl
theorem g268 (X : X2) (a1 : Int) (s : S2) (o : Option (AV R2) × S2) : J (f268 a1 s) (fun (r : Int) => o = (some (vI r), s)) (Go X 3 268 0 (am_loc (am_nl 268) [oR 12 0, vI a1]) [] s o) := by
  show J _ _ (Go X 3 268 0 [some (oR 12 0), some (vI a1)] [] s o)
  unfold f268
  refine g_p q268 1 1 [some (oR 12 0), some (vI a1)] [vI a1] rfl ?_
  refine g_sw q268 rfl ?_
  refine g_swc ?_ ?_
  ·
    refine g_p q268 1 77 [some (oR 12 0), some (vI a1)] [oR 12 0] rfl ?_
    refine g_m (S := [aR 1537 0]) (some (aR 1537 0)) q268 rfl rfl rfl (fun _ => rfl) rfl ?_
    refine g_p q268 1 81 [some (oR 12 0), some (vI a1)] [vI 0, aR 1537 0] rfl ?_
    refine g_ld q268 rfl rfl rfl rfl rfl rfl (fun v1 => ?_)
    exact g_ret q268 rfl rfl rfl
  ·
    refine g_swc ?_ ?_
    ·
      refine g_p q268 1 84 [some (oR 12 0), some (vI a1)] [oR 12 0] rfl ?_
      refine g_m (S := [aR 1537 0]) (some (aR 1537 0)) q268 rfl rfl rfl (fun _ => rfl) rfl ?_
      refine g_p q268 1 88 [some (oR 12 0), some (vI a1)] [vI 1, aR 1537 0] rfl ?_
      refine g_ld q268 rfl rfl rfl rfl rfl rfl (fun v2 => ?_)
      exact g_ret q268 rfl rfl rfl
    ·
      refine g_swc ?_ ?_
      ·
        refine g_p q268 1 91 [some (oR 12 0), some (vI a1)] [oR 12 0] rfl ?_
        refine g_m (S := [aR 1537 0]) (some (aR 1537 0)) q268 rfl rfl rfl (fun _ => rfl) rfl ?_
        refine g_p q268 1 95 [some (oR 12 0), some (vI a1)] [vI 2, aR 1537 0] rfl ?_
        refine g_ld q268 rfl rfl rfl rfl rfl rfl (fun v3 => ?_)
        exact g_ret q268 rfl rfl rfl
      ·
        refine g_swc ?_ ?_
        ·
          refine g_p q268 1 98 [some (oR 12 0), some (vI a1)] [oR 12 0] rfl ?_
          refine g_m (S := [aR 1537 0]) (some (aR 1537 0)) q268 rfl rfl rfl (fun _ => rfl) rfl ?_
          refine g_p q268 1 102 [some (oR 12 0), some (vI a1)] [vI 3, aR 1537 0] rfl ?_
          refine g_ld q268 rfl rfl rfl rfl rfl rfl (fun v4 => ?_)
          exact g_ret q268 rfl rfl rfl
        ·
          refine g_swc ?_ ?_
          ·
            refine g_p q268 1 105 [some (oR 12 0), some (vI a1)] [oR 12 0] rfl ?_
            refine g_m (S := [aR 1537 0]) (some (aR 1537 0)) q268 rfl rfl rfl (fun _ => rfl) rfl ?_
            refine g_p q268 1 109 [some (oR 12 0), some (vI a1)] [vI 4, aR 1537 0] rfl ?_
            refine g_ld q268 rfl rfl rfl rfl rfl rfl (fun v5 => ?_)
            exact g_ret q268 rfl rfl rfl
          ·
            refine g_swc ?_ ?_
            ·
              refine g_p q268 1 112 [some (oR 12 0), some (vI a1)] [oR 12 0] rfl ?_
              refine g_get q268 rfl rfl rfl (fun _ => rfl) (fun v6 => ?_)
              exact g_ret q268 rfl rfl rfl
            ·
              refine g_swc ?_ ?_
              ·
                refine g_p q268 1 117 [some (oR 12 0), some (vI a1)] [oR 12 0] rfl ?_
                refine g_m (S := [aR 1537 0]) (some (aR 1537 0)) q268 rfl rfl rfl (fun _ => rfl) rfl ?_
                refine g_p q268 1 122 [some (oR 12 0), some (vI a1)] [vI 10, aR 1537 0] rfl ?_
                refine g_ld q268 rfl rfl rfl rfl rfl rfl (fun v7 => ?_)
                exact g_ret q268 rfl rfl rfl
              ·
                refine g_swc ?_ ?_
                ·
                  refine g_p q268 1 125 [some (oR 12 0), some (vI a1)] [oR 12 0] rfl ?_
                  refine g_m (S := [aR 1537 0]) (some (aR 1537 0)) q268 rfl rfl rfl (fun _ => rfl) rfl ?_
                  refine g_p q268 1 130 [some (oR 12 0), some (vI a1)] [vI 7, aR 1537 0] rfl ?_
                  refine g_ld q268 rfl rfl rfl rfl rfl rfl (fun v8 => ?_)
                  exact g_ret q268 rfl rfl rfl
                ·
                  refine g_swc ?_ ?_
                  ·
                    refine g_p q268 1 133 [some (oR 12 0), some (vI a1)] [oR 12 0] rfl ?_
                    refine g_cPI q268 rfl (g269 X s) rfl rfl rfl rfl rfl (fun r9 => ?_)
                    exact g_ret q268 rfl rfl rfl
                  ·
                    refine g_swc ?_ ?_
                    ·
                      refine g_p q268 1 138 [some (oR 12 0), some (vI a1)] [oR 12 0] rfl ?_
                      refine g_m (S := [aR 1537 0]) (some (aR 1537 0)) q268 rfl rfl rfl (fun _ => rfl) rfl ?_
                      refine g_p q268 1 143 [some (oR 12 0), some (vI a1)] [vI 6, aR 1537 0] rfl ?_
                      refine g_ld q268 rfl rfl rfl rfl rfl rfl (fun v10 => ?_)
                      exact g_ret q268 rfl rfl rfl
                    ·
                      refine g_swc ?_ ?_
                      ·
                        refine g_p q268 2 147 [some (oR 12 0), some (vI a1)] [oR 12 0, oR 12 0] rfl ?_
                        refine g_m (S := [aR 1537 0, oR 12 0]) (some (aR 1537 0)) q268 rfl rfl rfl (fun _ => rfl) rfl ?_
                        refine g_p q268 1 152 [some (oR 12 0), some (vI a1)] [vI 7, aR 1537 0, oR 12 0] rfl ?_
                        refine g_ld q268 rfl rfl rfl rfl rfl rfl (fun v11 => ?_)
                        refine g_cPI q268 rfl (g204 X v11 s) rfl rfl rfl rfl rfl (fun r12 => ?_)
                        refine g_i1 q268 rfl rfl ?_ ?_
                        ·
                          refine g_p q268 1 164 [some (oR 12 0), some (vI a1)] [vI 0] rfl ?_
                          exact g_ret q268 rfl rfl rfl
                        ·
                          refine g_p q268 2 164 [some (oR 12 0), some (vI a1)] [vI 1] rfl ?_
                          exact g_ret q268 rfl rfl rfl
                      ·
                        refine g_swc ?_ ?_
                        ·
                          refine g_p q268 1 166 [some (oR 12 0), some (vI a1)] [oR 12 0] rfl ?_
                          refine g_m (S := [aR 1537 0]) (some (aR 1537 0)) q268 rfl rfl rfl (fun _ => rfl) rfl ?_
                          refine g_p q268 1 171 [some (oR 12 0), some (vI a1)] [vI 8, aR 1537 0] rfl ?_
                          refine g_ld q268 rfl rfl rfl rfl rfl rfl (fun v13 => ?_)
                          exact g_ret q268 rfl rfl rfl
                        ·
                          refine g_swc ?_ ?_
                          ·
                            refine g_p q268 1 174 [some (oR 12 0), some (vI a1)] [oR 12 0] rfl ?_
                            refine g_get q268 rfl rfl rfl (fun _ => rfl) (fun v14 => ?_)
                            exact g_ret q268 rfl rfl rfl
                          ·
                            refine g_swc ?_ ?_
                            ·
                              refine g_p q268 1 179 [some (oR 12 0), some (vI a1)] [oR 12 0] rfl ?_
                              refine g_m (S := [aR 1537 0]) (some (aR 1537 0)) q268 rfl rfl rfl (fun _ => rfl) rfl ?_
                              refine g_p q268 1 184 [some (oR 12 0), some (vI a1)] [vI 9, aR 1537 0] rfl ?_
                              refine g_ld q268 rfl rfl rfl rfl rfl rfl (fun v15 => ?_)
                              exact g_ret q268 rfl rfl rfl
                            ·
                              refine g_swc ?_ ?_
                              ·
                                refine g_p q268 1 187 [some (oR 12 0), some (vI a1)] [oR 12 0] rfl ?_
                                refine g_get q268 rfl rfl rfl (fun _ => rfl) (fun v16 => ?_)
                                exact g_ret q268 rfl rfl rfl
                              ·
                                refine g_swe ?_
                                refine g_p q268 1 192 [some (oR 12 0), some (vI a1)] [vI (-1)] rfl ?_
                                exact g_ret q268 rfl rfl rfl
theorem q270 : am_cd 270 = am_c270 := rfl
theorem g270 (X : X2) (a1 : Int) (s : S2) (o : Option (AV R2) × S2) : J (f270 a1 s) (fun (r : Int × S2) => o = (some (vI r.1), r.2)) (Go X 3 270 0 (am_loc (am_nl 270) [oR 12 0, vI a1]) [] s o) := by
  show J _ _ (Go X 3 270 0 [some (oR 12 0), some (vI a1)] [] s o)
  unfold f270
  refine g_p q270 4 6 [some (oR 12 0), some (vI a1)] [vL 3, vL 0, vL (ji2l a1)] rfl ?_
  refine g_cPI q270 rfl (g173 X (ji2l a1) 0 3 s) rfl rfl rfl rfl rfl (fun r1 => ?_)
  refine g_i1 q270 rfl rfl ?_ ?_
  ·
    refine g_p q270 1 15 [some (oR 12 0), some (vI a1)] [oR 12 0] rfl ?_
    refine g_m (S := [aR 1607 0]) (some (aR 1607 0)) q270 rfl rfl rfl (fun _ => rfl) rfl ?_
    refine g_p q270 2 20 [some (oR 12 0), some (vI a1)] [vI 1, vI a1, aR 1607 0] rfl ?_
    refine g_stoz (Or.inr rfl) q270 rfl rfl rfl rfl (fun s2 => ?_)
    refine g_p q270 3 24 [some (oR 12 0), some (vI a1)] [vI 0, vI a1, oR 12 0] rfl ?_
    refine g_cV q270 rfl (g234 X a1 0 s2) rfl rfl rfl rfl rfl (fun s3 => ?_)
    refine g_p q270 1 28 [some (oR 12 0), some (vI a1)] [oR 12 0] rfl ?_
    refine g_m (S := [aR 1537 0]) (some (aR 1537 0)) q270 rfl rfl rfl (fun _ => rfl) rfl ?_
    refine g_p q270 1 33 [some (oR 12 0), some (vI a1)] [vI 7, aR 1537 0] rfl ?_
    refine g_ld q270 rfl rfl rfl rfl rfl rfl (fun v4 => ?_)
    exact g_ret q270 rfl rfl rfl
  ·
    refine g_p q270 1 13 [some (oR 12 0), some (vI a1)] [vI (-1)] rfl ?_
    exact g_ret q270 rfl rfl rfl
theorem q271 : am_cd 271 = am_c271 := rfl
theorem g271 (X : X2) (a1 : Int) (s : S2) (o : Option (AV R2) × S2) : J (f271 a1 s) (fun (r : Int × S2) => o = (some (vI r.1), r.2)) (Go X 3 271 0 (am_loc (am_nl 271) [oR 12 0, vI a1]) [] s o) := by
  show J _ _ (Go X 3 271 0 [some (oR 12 0), some (vI a1)] [] s o)
  unfold f271
  refine g_p q271 4 6 [some (oR 12 0), some (vI a1)] [vL 3, vL 0, vL (ji2l a1)] rfl ?_
  refine g_cPI q271 rfl (g173 X (ji2l a1) 0 3 s) rfl rfl rfl rfl rfl (fun r1 => ?_)
  refine g_i1 q271 rfl rfl ?_ ?_
  ·
    refine g_p q271 1 22 [some (oR 12 0), some (vI a1)] [vI (-1)] rfl ?_
    exact g_ret q271 rfl rfl rfl
  ·
    refine g_p q271 1 13 [some (oR 12 0), some (vI a1)] [oR 12 0] rfl ?_
    refine g_m (S := [aR 1607 0]) (some (aR 1607 0)) q271 rfl rfl rfl (fun _ => rfl) rfl ?_
    refine g_p q271 1 17 [some (oR 12 0), some (vI a1)] [vI a1, aR 1607 0] rfl ?_
    refine g_ld q271 rfl rfl rfl rfl rfl rfl (fun v2 => ?_)
    refine g_i1 q271 rfl rfl ?_ ?_
    ·
      refine g_p q271 3 26 [some (oR 12 0), some (vI a1)] [vI 1, vI a1, oR 12 0] rfl ?_
      refine g_cV q271 rfl (g234 X a1 1 s) rfl rfl rfl rfl rfl (fun s3 => ?_)
      refine g_p q271 1 30 [some (oR 12 0), some (vI a1)] [oR 12 0] rfl ?_
      refine g_m (S := [aR 1537 0]) (some (aR 1537 0)) q271 rfl rfl rfl (fun _ => rfl) rfl ?_
      refine g_p q271 1 35 [some (oR 12 0), some (vI a1)] [vI 7, aR 1537 0] rfl ?_
      refine g_ld q271 rfl rfl rfl rfl rfl rfl (fun v4 => ?_)
      exact g_ret q271 rfl rfl rfl
    ·
      refine g_p q271 1 22 [some (oR 12 0), some (vI a1)] [vI (-1)] rfl ?_
      exact g_ret q271 rfl rfl rfl
