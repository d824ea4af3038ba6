/-! THE SMALL MACHINE FOLLOWS THE FUNCTIONS, written by a program (gen_fn.py) -/
theorem q190 : am_cd 190 = am_c190 := rfl
def H190_a (X : X2) (o : Option (AV R2) × S2) (a : Int × Int × S2) : Prop := Go X 11 190 9 [some (oR 12 0), some (vI (a.1)), some (vI (a.2.1)), none, none] [] (a.2.2) o
def E190_a (X : X2) (o : Option (AV R2) × S2) : (S2) → Prop := (fun (r : S2) => Go X 11 190 202 [none, none, none, none, none] [] r o)
theorem g190_a (X : X2) (x2 : Int) (x3 : Int) (s4 : S2) (o : Option (AV R2) × S2) : J (f190_a x2 x3 s4) (am_kx (H190_a X o) (E190_a X o)) (Go X 11 190 9 [some (oR 12 0), some (vI x2), some (vI x3), none, none] [] s4 o) := by
  unfold f190_a
  refine g_p q190 1 10 [some (oR 12 0), some (vI x2), some (vI x3), none, none] [vI x3] rfl ?_
  refine g_i1 q190 rfl rfl ?_ ?_
  ·
    exact g_end (fun h => g_wk [false, false, false, false, false] rfl h)
  ·
    refine g_p q190 1 14 [some (oR 12 0), some (vI x2), some (vI x3), none, none] [oR 12 0] rfl ?_
    refine g_get q190 rfl rfl rfl (fun _ => rfl) (fun v5 => ?_)
    refine g_i1 q190 rfl rfl ?_ ?_
    ·
      exact g_end (fun h => g_wk [false, false, false, false, false] rfl h)
    ·
      refine g_p q190 1 21 [some (oR 12 0), some (vI x2), some (vI x3), none, none] [vI x2] rfl ?_
      refine g_i1 q190 rfl rfl ?_ ?_
      ·
        refine g_p q190 2 43 [some (oR 12 0), some (vI x2), some (vI x3), none, none] [vI 9, oR 12 0] rfl ?_
        refine g_cV q190 rfl (g194 X 9 s4) rfl rfl rfl rfl rfl (fun s6 => ?_)
        refine g_p q190 1 47 [some (oR 12 0), some (vI x2), some (vI x3), none, none] [oR 12 0] rfl ?_
        refine g_cV q190 rfl (g163 X s6) rfl rfl rfl rfl rfl (fun s7 => ?_)
        refine g_p q190 1 51 [some (oR 12 0), some (vI x2), some (vI x3), none, none] [oR 12 0] rfl ?_
        refine g_m (S := [oR 16 21, oR 12 0]) (some (oR 16 21)) q190 rfl rfl rfl (fun _ => rfl) rfl ?_
        refine g_cPI q190 rfl (g166 X 21 s7 (Nat.le_of_ble_eq_true rfl)) rfl rfl rfl rfl rfl (fun r8 => ?_)
        refine g_p q190 2 59 [some (oR 12 0), some (vI x2), some (vI x3), some (vI r8), none] [oR 12 0] rfl ?_
        refine g_m (S := [oR 16 22, oR 12 0]) (some (oR 16 22)) q190 rfl rfl rfl (fun _ => rfl) rfl ?_
        refine g_cPI q190 rfl (g166 X 22 s7 (Nat.le_of_ble_eq_true rfl)) rfl rfl rfl rfl rfl (fun r9 => ?_)
        refine g_p q190 3 70 [some (oR 12 0), some (vI x2), some (vI x3), some (vI r8), some (vI r9)] [vI 10, oR 12 0] rfl ?_
        refine g_cV q190 rfl (g194 X 10 s7) rfl rfl rfl rfl rfl (fun s10 => ?_)
        refine g_p q190 1 74 [some (oR 12 0), some (vI x2), some (vI x3), some (vI r8), some (vI r9)] [vI r8] rfl ?_
        refine g_jn (fun j82 => ∀ (_ : Unit), J (j82 ()) (am_kx (H190_a X o) (E190_a X o)) (Go X 11 190 82 [some (oR 12 0), none, some (vI x3), some (vI r8), some (vI r9)] [] s10 o)) ?_ (fun j82 hj82 => ?_)
        ·
          intro _
          refine g_p q190 1 84 [some (oR 12 0), none, some (vI x3), some (vI r8), some (vI r9)] [vI r9] rfl ?_
          refine g_jn (fun j93 => ∀ (s11 : S2), J (j93 s11) (am_kx (H190_a X o) (E190_a X o)) (Go X 11 190 93 [some (oR 12 0), none, some (vI x3), some (vI r8), none] [] s11 o)) ?_ (fun j93 hj93 => ?_)
          ·
            intro s11
            refine g_p q190 2 95 [some (oR 12 0), none, some (vI x3), some (vI r8), none] [vI r8, oR 12 0] rfl ?_
            refine g_jn (fun j105 => ∀ (x12 : Int), J (j105 x12) (am_kx (H190_a X o) (E190_a X o)) (Go X 11 190 105 [some (oR 12 0), none, some (vI x3), some (vI r8), none] [vI x12, oR 12 0] s11 o)) ?_ (fun j105 hj105 => ?_)
            ·
              intro x12
              refine g_cV q190 rfl (g192 X x12 s11) rfl rfl rfl rfl rfl (fun s13 => ?_)
              refine g_p q190 2 110 [some (oR 12 0), none, some (vI x3), some (vI r8), none] [oR 12 0, oR 12 0] rfl ?_
              refine g_get q190 rfl rfl rfl (fun _ => rfl) (fun v14 => ?_)
              refine g_p q190 1 114 [some (oR 12 0), none, some (vI x3), some (vI r8), none] [vI r8, vI v14, oR 12 0] rfl ?_
              refine g_jn (fun j122 => ∀ (x15 : Int), J (j122 x15) (am_kx (H190_a X o) (E190_a X o)) (Go X 11 190 122 [some (oR 12 0), none, some (vI x3), none, none] [vI x15, vI v14, oR 12 0] s13 o)) ?_ (fun j122 hj122 => ?_)
              ·
                intro x15
                refine g_p q190 1 123 [some (oR 12 0), none, some (vI x3), none, none] [vI (jadd v14 x15), oR 12 0] rfl ?_
                refine g_put q190 rfl rfl rfl (fun _ => rfl) (fun s16 => ?_)
                refine g_p q190 4 9 [some (oR 12 0), some (vI 1), some (vI x3), none, none] [] rfl ?_
                exact g_end (fun h => g_wk [true, true, true, false, false] rfl h)
              ·
                refine g_i1 q190 rfl rfl ?_ ?_
                ·
                  refine g_p q190 1 122 [some (oR 12 0), none, some (vI x3), some (vI r8), none] [vI 2, vI v14, oR 12 0] rfl ?_
                  exact g_wkJ [true, false, true, false, false] rfl (hj122 2)
                ·
                  refine g_p q190 2 122 [some (oR 12 0), none, some (vI x3), some (vI r8), none] [vI 3, vI v14, oR 12 0] rfl ?_
                  exact g_wkJ [true, false, true, false, false] rfl (hj122 3)
            ·
              refine g_i1 q190 rfl rfl ?_ ?_
              ·
                refine g_p q190 1 105 [some (oR 12 0), none, some (vI x3), some (vI r8), none] [vI 11, oR 12 0] rfl ?_
                exact g_wkJ [true, false, true, true, false] rfl (hj105 11)
              ·
                refine g_p q190 2 105 [some (oR 12 0), none, some (vI x3), some (vI r8), none] [vI 10, oR 12 0] rfl ?_
                exact g_wkJ [true, false, true, true, false] rfl (hj105 10)
          ·
            refine g_i1 q190 rfl rfl ?_ ?_
            ·
              exact g_wkJ [true, false, true, true, false] rfl (hj93 s10)
            ·
              refine g_p q190 2 90 [some (oR 12 0), none, some (vI x3), some (vI r8), some (vI r9)] [vI 11, oR 12 0] rfl ?_
              refine g_cV q190 rfl (g194 X 11 s10) rfl rfl rfl rfl rfl (fun s17 => ?_)
              exact g_wkJ [true, false, true, true, false] rfl (hj93 s17)
        ·
          refine g_i1 q190 rfl rfl ?_ ?_
          ·
            exact g_wkJ [true, false, true, true, true] rfl (hj82 ())
          ·
            refine g_p q190 1 79 [some (oR 12 0), some (vI x2), some (vI x3), some (vI r8), some (vI r9)] [vI r9] rfl ?_
            refine g_i1 q190 rfl rfl ?_ ?_
            ·
              refine g_p q190 2 134 [some (oR 12 0), some (vI x2), some (vI x3), some (vI r8), some (vI r9)] [vI 11, oR 12 0] rfl ?_
              refine g_cV q190 rfl (g194 X 11 s10) rfl rfl rfl rfl rfl (fun s18 => ?_)
              refine g_p q190 1 138 [some (oR 12 0), some (vI x2), some (vI x3), some (vI r8), some (vI r9)] [oR 12 0] rfl ?_
              refine g_cPI q190 rfl (g195 X s18) rfl rfl rfl rfl rfl (fun r19 => ?_)
              refine g_p q190 1 143 [some (oR 12 0), some (vI x2), some (vI x3), some (vI r8), some (vI r9)] [vI 12, vI r19] rfl ?_
              refine g_i2 q190 rfl rfl ?_ ?_
              ·
                refine g_p q190 3 9 [some (oR 12 0), some (vI x2), some (vI 0), some (vI r8), some (vI r9)] [] rfl ?_
                exact g_end (fun h => g_wk [true, true, true, false, false] rfl h)
              ·
                refine g_p q190 1 147 [some (oR 12 0), some (vI x2), some (vI x3), some (vI r8), some (vI r9)] [oR 12 0] rfl ?_
                refine g_cPI q190 rfl (g164 X s18) rfl rfl rfl rfl rfl (fun r20 => ?_)
                refine g_p q190 1 152 [some (oR 12 0), some (vI x2), some (vI x3), some (vI r8), some (vI r9)] [vI 93, vI r20] rfl ?_
                refine g_jn (fun j164 => ∀ (s21 : S2), J (j164 s21) (am_kx (H190_a X o) (E190_a X o)) (Go X 11 190 164 [some (oR 12 0), some (vI x2), some (vI x3), none, none] [] s21 o)) ?_ (fun j164 hj164 => ?_)
                ·
                  intro s21
                  refine g_p q190 2 166 [some (oR 12 0), some (vI x2), some (vI x3), none, none] [oR 12 0, oR 12 0] rfl ?_
                  refine g_get q190 rfl rfl rfl (fun _ => rfl) (fun v22 => ?_)
                  refine g_p q190 2 171 [some (oR 12 0), some (vI x2), some (vI x3), none, none] [vI (jadd v22 1), oR 12 0] rfl ?_
                  refine g_put q190 rfl rfl rfl (fun _ => rfl) (fun s23 => ?_)
                  refine g_p q190 2 176 [some (oR 12 0), some (vI x2), some (vI x3), none, none] [oR 12 0, oR 12 0] rfl ?_
                  refine g_get q190 rfl rfl rfl (fun _ => rfl) (fun v24 => ?_)
                  refine g_p q190 2 181 [some (oR 12 0), some (vI x2), some (vI x3), none, none] [vI (jsub v24 1), oR 12 0] rfl ?_
                  refine g_put q190 rfl rfl rfl (fun _ => rfl) (fun s25 => ?_)
                  refine g_p q190 2 186 [some (oR 12 0), some (vI x2), some (vI x3), none, none] [oR 12 0, oR 12 0] rfl ?_
                  refine g_get q190 rfl rfl rfl (fun _ => rfl) (fun v26 => ?_)
                  refine g_p q190 2 191 [some (oR 12 0), some (vI x2), some (vI x3), none, none] [vI (jsub v26 1), oR 12 0] rfl ?_
                  refine g_put q190 rfl rfl rfl (fun _ => rfl) (fun s27 => ?_)
                  refine g_p q190 2 9 [some (oR 12 0), some (vI x2), some (vI x3), none, none] [] rfl ?_
                  exact g_end (fun h => g_wk [true, true, true, false, false] rfl h)
                ·
                  refine g_i2 q190 rfl rfl ?_ ?_
                  ·
                    exact g_wkJ [true, true, true, false, false] rfl (hj164 s18)
                  ·
                    refine g_p q190 3 158 [some (oR 12 0), some (vI x2), some (vI x3), some (vI r8), some (vI r9)] [oR 12 0, vI 0, oR 12 0] rfl ?_
                    refine g_get q190 rfl rfl rfl (fun _ => rfl) (fun v28 => ?_)
                    refine g_cV q190 rfl (g167 X 0 v28 s18) rfl rfl rfl rfl rfl (fun s29 => ?_)
                    exact g_wkJ [true, true, true, false, false] rfl (hj164 s29)
            ·
              exact g_wkJ [true, false, true, true, true] rfl (hj82 ())
      ·
        refine g_p q190 1 25 [some (oR 12 0), some (vI x2), some (vI x3), none, none] [oR 12 0] rfl ?_
        refine g_cRI q190 rfl (g191 X s4) rfl rfl rfl rfl rfl (fun r30 s31 => ?_)
        refine g_i1 q190 rfl rfl ?_ ?_
        ·
          refine g_p q190 3 9 [some (oR 12 0), some (vI 0), some (vI x3), none, none] [] rfl ?_
          exact g_end (fun h => g_wk [true, true, true, false, false] rfl h)
        ·
          refine g_p q190 4 9 [some (oR 12 0), some (vI 1), some (vI x3), none, none] [] rfl ?_
          exact g_end (fun h => g_wk [true, true, true, false, false] rfl h)
theorem g190 (X : X2) (s : S2) (o : Option (AV R2) × S2) : J (f190 s) (fun (r : S2) => o = (none, r)) (Go X 11 190 0 (am_loc (am_nl 190) [oR 12 0]) [] s o) := by
  show J _ _ (Go X 11 190 0 [some (oR 12 0), none, none, none, none] [] s o)
  unfold f190
  refine g_p q190 2 2 [some (oR 12 0), none, none, none, none] [vI 0, oR 12 0] rfl ?_
  refine g_put q190 rfl rfl rfl (fun _ => rfl) (fun s1 => ?_)
  refine g_p q190 4 9 [some (oR 12 0), some (vI 1), some (vI 1), none, none] [] rfl ?_
  refine g_wkJ [true, true, true, false, false] (L0 := [some (oR 12 0), some (vI 1), some (vI 1), none, none]) rfl ?_
  refine g_itr (H190_a X o) (E190_a X o) (fun | (x2, x3, s4) => g190_a X x2 x3 s4 o) ?_
  intro s32
  show J _ _ (Go X 11 190 202 [none, none, none, none, none] [] s32 o)
  exact g_retV q190 rfl rfl
theorem q182 : am_cd 182 = am_c182 := rfl
theorem g182 (X : X2) (a1 : Int) (s : S2) (o : Option (AV R2) × S2) : J (f182 a1 s) (fun (r : S2) => o = (none, r)) (Go X 12 182 0 (am_loc (am_nl 182) [oR 12 0, vI a1]) [] s o) := by
  show J _ _ (Go X 12 182 0 [some (oR 12 0), some (vI a1), none, none] [] s o)
  unfold f182
  refine g_p q182 1 1 [some (oR 12 0), some (vI a1), none, none] [oR 12 0] rfl ?_
  refine g_cV q182 rfl (g163 X s) rfl rfl rfl rfl rfl (fun s1 => ?_)
  refine g_p q182 1 5 [some (oR 12 0), some (vI a1), none, none] [oR 12 0] rfl ?_
  refine g_get q182 rfl rfl rfl (fun _ => rfl) (fun v2 => ?_)
  refine g_p q182 2 10 [some (oR 12 0), some (vI a1), some (vI v2), none] [oR 12 0] rfl ?_
  refine g_m (S := [oR 16 8, oR 12 0]) (some (oR 16 8)) q182 rfl rfl rfl (fun _ => rfl) rfl ?_
  refine g_cPI q182 rfl (g166 X 8 s1 (Nat.le_of_ble_eq_true rfl)) rfl rfl rfl rfl rfl (fun r3 => ?_)
  refine g_i1 q182 rfl rfl ?_ ?_
  ·
    refine g_p q182 2 29 [some (oR 12 0), some (vI a1), some (vI v2), none] [vI 12, vI a1] rfl ?_
    refine g_i2 q182 rfl rfl ?_ ?_
    ·
      refine g_p q182 2 41 [some (oR 12 0), some (vI a1), some (vI v2), none] [oR 12 0, oR 12 0] rfl ?_
      refine g_get q182 rfl rfl rfl (fun _ => rfl) (fun v4 => ?_)
      refine g_p q182 2 46 [some (oR 12 0), some (vI a1), some (vI v2), none] [vI (jadd v4 5), oR 12 0] rfl ?_
      refine g_put q182 rfl rfl rfl (fun _ => rfl) (fun s5 => ?_)
      refine g_p q182 2 52 [some (oR 12 0), some (vI a1), some (vI v2), none] [oR 12 0, vI 12] rfl ?_
      refine g_get q182 rfl rfl rfl (fun _ => rfl) (fun v6 => ?_)
      refine g_p q182 3 58 [some (oR 12 0), some (vI a1), some (vI v2), none] [vI (jadd (jmul 12 v6) a1)] rfl ?_
      refine g_top (fun v7 => ?_)
      refine g_p q182 2 60 [some (oR 12 0), some (vI a1), some (vI v2), some (vI v7)] [oR 12 0] rfl ?_
      refine g_m (S := [aR 1583 0]) (some (aR 1583 0)) q182 rfl rfl rfl (fun _ => rfl) rfl ?_
      refine g_p q182 2 65 [some (oR 12 0), some (vI a1), some (vI v2), some (vI v7)] [oR 12 0, vI v7, aR 1583 0] rfl ?_
      refine g_get q182 rfl rfl rfl (fun _ => rfl) (fun v8 => ?_)
      refine g_sto q182 rfl rfl rfl rfl (fun s9 => ?_)
      refine g_p q182 1 70 [some (oR 12 0), some (vI a1), some (vI v2), some (vI v7)] [oR 12 0] rfl ?_
      refine g_cV q182 rfl (g183 X s9) rfl rfl rfl rfl rfl (fun s10 => ?_)
      refine g_p q182 1 74 [some (oR 12 0), some (vI a1), some (vI v2), some (vI v7)] [oR 12 0] rfl ?_
      refine g_m (S := [aR 1584 0]) (some (aR 1584 0)) q182 rfl rfl rfl (fun _ => rfl) rfl ?_
      refine g_p q182 2 79 [some (oR 12 0), some (vI a1), some (vI v2), some (vI v7)] [oR 12 0, vI v7, aR 1584 0] rfl ?_
      refine g_get q182 rfl rfl rfl (fun _ => rfl) (fun v11 => ?_)
      refine g_sto q182 rfl rfl rfl rfl (fun s12 => ?_)
      refine g_p q182 1 84 [some (oR 12 0), some (vI a1), some (vI v2), some (vI v7)] [oR 12 0] rfl ?_
      refine g_get q182 rfl rfl rfl (fun _ => rfl) (fun v13 => ?_)
      refine g_jn (fun j104 => ∀ (s14 : S2), J (j104 s14) (fun (r : S2) => o = (none, r)) (Go X 12 182 104 [some (oR 12 0), none, none, some (vI v7)] [] s14 o)) ?_ (fun j104 hj104 => ?_)
      ·
        intro s14
        refine g_p q182 1 105 [some (oR 12 0), none, none, some (vI v7)] [oR 12 0] rfl ?_
        refine g_m (S := [aR 1585 0]) (some (aR 1585 0)) q182 rfl rfl rfl (fun _ => rfl) rfl ?_
        refine g_p q182 2 110 [some (oR 12 0), none, none, some (vI v7)] [oR 12 0, vI v7, aR 1585 0] rfl ?_
        refine g_get q182 rfl rfl rfl (fun _ => rfl) (fun v15 => ?_)
        refine g_sto q182 rfl rfl rfl rfl (fun s16 => ?_)
        exact g_retV q182 rfl rfl
      ·
        refine g_i1 q182 rfl rfl ?_ ?_
        ·
          exact g_wkJ [true, false, false, true] rfl (hj104 s12)
        ·
          refine g_p q182 1 91 [some (oR 12 0), some (vI a1), some (vI v2), some (vI v7)] [oR 12 0] rfl ?_
          refine g_m (S := [oR 16 19, oR 12 0]) (some (oR 16 19)) q182 rfl rfl rfl (fun _ => rfl) rfl ?_
          refine g_cRI q182 rfl (g189 X 19 s12 (Nat.le_of_ble_eq_true rfl)) rfl rfl rfl rfl rfl (fun r17 s18 => ?_)
          refine g_i1 q182 rfl rfl ?_ ?_
          ·
            exact g_wkJ [true, false, false, true] rfl (hj104 s18)
          ·
            refine g_p q182 1 101 [some (oR 12 0), some (vI a1), some (vI v2), some (vI v7)] [oR 12 0] rfl ?_
            refine g_cV q182 rfl (g190 X s18) rfl rfl rfl rfl rfl (fun s19 => ?_)
            exact g_wkJ [true, false, false, true] rfl (hj104 s19)
    ·
      refine g_p q182 3 35 [some (oR 12 0), some (vI a1), some (vI v2), none] [vI v2, vI 4, oR 12 0] rfl ?_
      refine g_cV q182 rfl (g167 X 4 v2 s1) rfl rfl rfl rfl rfl (fun s20 => ?_)
      exact g_retV q182 rfl rfl
  ·
    refine g_p q182 3 22 [some (oR 12 0), some (vI a1), some (vI v2), none] [vI v2, vI 0, oR 12 0] rfl ?_
    refine g_cV q182 rfl (g167 X 0 v2 s1) rfl rfl rfl rfl rfl (fun s21 => ?_)
    exact g_retV q182 rfl rfl
theorem q181 : am_cd 181 = am_c181 := rfl
def H181_a (X : X2) (o : Option (AV R2) × S2) (a : Int × Int × S2) : Prop := Go X 13 181 27 [some (oR 12 0), some (vI (a.1)), some (vI (a.2.1))] [] (a.2.2) o
def E181_a (X : X2) (o : Option (AV R2) × S2) : (Int × S2) → Prop := (fun (r : Int × S2) => Go X 13 181 47 [some (oR 12 0), some (vI (r.1)), none] [] (r.2) o)
theorem g181_a (X : X2) (x5 : Int) (x6 : Int) (s7 : S2) (o : Option (AV R2) × S2) : J (f181_a x5 x6 s7) (am_kx (H181_a X o) (E181_a X o)) (Go X 13 181 27 [some (oR 12 0), some (vI x5), some (vI x6)] [] s7 o) := by
  unfold f181_a
  refine g_p q181 1 28 [some (oR 12 0), some (vI x5), some (vI x6)] [vI x6] rfl ?_
  refine g_i1 q181 rfl rfl ?_ ?_
  ·
    exact g_end (fun h => g_wk [true, true, false] rfl h)
  ·
    refine g_p q181 2 33 [some (oR 12 0), some (vI x5), some (vI x6)] [vI x5, oR 12 0] rfl ?_
    refine g_cV q181 rfl (g182 X x5 s7) rfl rfl rfl rfl rfl (fun s8 => ?_)
    refine g_inc (fun v9 => [some (oR 12 0), some (vI v9), some (vI x6)]) q181 rfl rfl (fun _ => rfl) (fun v9 => ?_)
    refine g_p q181 1 40 [some (oR 12 0), some (vI v9), some (vI x6)] [oR 12 0] rfl ?_
    refine g_cRI q181 rfl (g178 X s8) rfl rfl rfl rfl rfl (fun r10 s11 => ?_)
    refine g_p q181 2 27 [some (oR 12 0), some (vI v9), some (vI r10)] [] rfl ?_
    exact g_end (fun h => g_wk [true, true, true] rfl h)
theorem g181 (X : X2) (s : S2) (o : Option (AV R2) × S2) : J (f181 s) (fun (r : Int × S2) => o = (some (vI r.1), r.2)) (Go X 13 181 0 (am_loc (am_nl 181) [oR 12 0]) [] s o) := by
  show J _ _ (Go X 13 181 0 [some (oR 12 0), none, none] [] s o)
  unfold f181
  refine g_p q181 1 1 [some (oR 12 0), none, none] [oR 12 0] rfl ?_
  refine g_get q181 rfl rfl rfl (fun _ => rfl) (fun v1 => ?_)
  refine g_p q181 1 6 [some (oR 12 0), none, none] [vI 6, vI v1] rfl ?_
  refine g_i2 q181 rfl rfl ?_ ?_
  ·
    refine g_p q181 2 13 [some (oR 12 0), none, none] [oR 12 0, oR 12 0] rfl ?_
    refine g_get q181 rfl rfl rfl (fun _ => rfl) (fun v2 => ?_)
    refine g_put q181 rfl rfl rfl (fun _ => rfl) (fun s3 => ?_)
    refine g_p q181 1 20 [some (oR 12 0), none, none] [oR 12 0] rfl ?_
    refine g_cV q181 rfl (g161 X s3) rfl rfl rfl rfl rfl (fun s4 => ?_)
    refine g_p q181 4 27 [some (oR 12 0), some (vI 0), some (vI 1)] [] rfl ?_
    refine g_wkJ [true, true, true] (L0 := [some (oR 12 0), some (vI 0), some (vI 1)]) rfl ?_
    refine g_itr (H181_a X o) (E181_a X o) (fun | (x5, x6, s7) => g181_a X x5 x6 s7 o) ?_
    rintro ⟨z12, s13⟩
    show J _ _ (Go X 13 181 47 [some (oR 12 0), some (vI z12), none] [] s13 o)
    refine g_p q181 2 49 [some (oR 12 0), some (vI z12), none] [vI 0, oR 12 0] rfl ?_
    refine g_put q181 rfl rfl rfl (fun _ => rfl) (fun s14 => ?_)
    refine g_p q181 1 53 [some (oR 12 0), some (vI z12), none] [oR 12 0] rfl ?_
    refine g_m (S := [aR 1582 0]) (some (aR 1582 0)) q181 rfl rfl rfl (fun _ => rfl) rfl ?_
    refine g_p q181 1 57 [some (oR 12 0), some (vI z12), none] [oR 12 0, aR 1582 0] rfl ?_
    refine g_get q181 rfl rfl rfl (fun _ => rfl) (fun v15 => ?_)
    refine g_p q181 1 61 [some (oR 12 0), some (vI z12), none] [vI z12, vI v15, aR 1582 0] rfl ?_
    refine g_sto q181 rfl rfl rfl rfl (fun s16 => ?_)
    refine g_p q181 2 64 [some (oR 12 0), some (vI z12), none] [oR 12 0, oR 12 0] rfl ?_
    refine g_get q181 rfl rfl rfl (fun _ => rfl) (fun v17 => ?_)
    refine g_p q181 1 68 [some (oR 12 0), some (vI z12), none] [oR 12 0, vI v17, oR 12 0] rfl ?_
    refine g_get q181 rfl rfl rfl (fun _ => rfl) (fun v18 => ?_)
    refine g_jn (fun j79 => ∀ (x19 : Int), J (j79 x19) (fun (r : Int × S2) => o = (some (vI r.1), r.2)) (Go X 13 181 79 [some (oR 12 0), none, none] [vI x19, vI v17, oR 12 0] s16 o)) ?_ (fun j79 hj79 => ?_)
    ·
      intro x19
      refine g_p q181 1 80 [some (oR 12 0), none, none] [vI (jadd v17 x19), oR 12 0] rfl ?_
      refine g_put q181 rfl rfl rfl (fun _ => rfl) (fun s20 => ?_)
      refine g_p q181 1 84 [some (oR 12 0), none, none] [oR 12 0] rfl ?_
      refine g_get q181 rfl rfl rfl (fun _ => rfl) (fun v21 => ?_)
      refine g_i1 q181 rfl rfl ?_ ?_
      ·
        refine g_p q181 1 101 [some (oR 12 0), none, none] [oR 12 0] rfl ?_
        refine g_get q181 rfl rfl rfl (fun _ => rfl) (fun v22 => ?_)
        refine g_p q181 2 106 [some (oR 12 0), none, none] [vI (jsub v22 1)] rfl ?_
        refine g_top (fun v23 => ?_)
        exact g_ret q181 rfl rfl rfl
      ·
        refine g_p q181 2 93 [some (oR 12 0), none, none] [oR 12 0, vI (-2)] rfl ?_
        refine g_get q181 rfl rfl rfl (fun _ => rfl) (fun v24 => ?_)
        refine g_p q181 2 106 [some (oR 12 0), none, none] [vI (jsub (-2) v24)] rfl ?_
        refine g_top (fun v25 => ?_)
        exact g_ret q181 rfl rfl rfl
    ·
      refine g_i1 q181 rfl rfl ?_ ?_
      ·
        refine g_p q181 1 79 [some (oR 12 0), some (vI z12), none] [vI 0, vI v17, oR 12 0] rfl ?_
        exact g_wkJ [true, false, false] rfl (hj79 0)
      ·
        refine g_p q181 2 79 [some (oR 12 0), some (vI z12), none] [vI 1, vI v17, oR 12 0] rfl ?_
        exact g_wkJ [true, false, false] rfl (hj79 1)
  ·
    refine g_p q181 1 10 [some (oR 12 0), none, none] [vI (-1)] rfl ?_
    exact g_ret q181 rfl rfl rfl
theorem q196 : am_cd 196 = am_c196 := rfl
theorem g196 (X : X2) (a1 : Int) (s : S2) (o : Option (AV R2) × S2) : J (f196 a1 s) (fun (r : Int × S2) => o = (some (vI r.1), r.2)) (Go X 2 196 0 (am_loc (am_nl 196) [oR 12 0, vI a1]) [] s o) := by
  show J _ _ (Go X 2 196 0 [some (oR 12 0), some (vI a1), none] [] s o)
  unfold f196
  refine g_p q196 4 6 [some (oR 12 0), some (vI a1), none] [oR 12 0, vL (-1), vL (ji2l a1)] rfl ?_
  refine g_get q196 rfl rfl rfl (fun _ => rfl) (fun v1 => ?_)
  refine g_p q196 3 12 [some (oR 12 0), some (vI a1), none] [vL (ji2l (jsub v1 1)), vL (-1), vL (ji2l a1)] rfl ?_
  refine g_cPI q196 rfl (g173 X (ji2l a1) (-1) (ji2l (jsub v1 1)) s) rfl rfl rfl rfl rfl (fun r2 => ?_)
  refine g_i1 q196 rfl rfl ?_ ?_
  ·
    refine g_p q196 1 22 [some (oR 12 0), some (vI a1), none] [oR 12 0] rfl ?_
    refine g_m (S := [aR 1537 0]) (some (aR 1537 0)) q196 rfl rfl rfl (fun _ => rfl) rfl ?_
    refine g_p q196 1 27 [some (oR 12 0), some (vI a1), none] [vI 10, aR 1537 0] rfl ?_
    refine g_ld q196 rfl rfl rfl rfl rfl rfl (fun v3 => ?_)
    refine g_p q196 2 30 [some (oR 12 0), some (vI a1), some (vI v3)] [oR 12 0] rfl ?_
    refine g_m (S := [aR 1537 0]) (some (aR 1537 0)) q196 rfl rfl rfl (fun _ => rfl) rfl ?_
    refine g_p q196 2 36 [some (oR 12 0), some (vI a1), some (vI v3)] [vI a1, vI 10, aR 1537 0] rfl ?_
    refine g_sto q196 rfl rfl rfl rfl (fun s4 => ?_)
    refine g_p q196 1 38 [some (oR 12 0), some (vI a1), some (vI v3)] [vI v3] rfl ?_
    exact g_ret q196 rfl rfl rfl
  ·
    refine g_p q196 1 20 [some (oR 12 0), some (vI a1), none] [vI (-2)] rfl ?_
    exact g_ret q196 rfl rfl rfl
theorem q198 : am_cd 198 = am_c198 := rfl
theorem g198 (X : X2) (a1 : Int) (s : S2) (o : Option (AV R2) × S2) : J (f198 a1 s) (fun (r : Int) => o = (some (vI r), s)) (Go X 2 198 0 (am_loc (am_nl 198) [oR 12 0, vI a1]) [] s o) := by
  show J _ _ (Go X 2 198 0 [some (oR 12 0), some (vI a1)] [] s o)
  unfold f198
  refine g_p q198 4 4 [some (oR 12 0), some (vI a1)] [oR 12 0, vL 0, vL (ji2l a1)] rfl ?_
  refine g_m (S := [aR 1537 0, vL 0, vL (ji2l a1)]) (some (aR 1537 0)) q198 rfl rfl rfl (fun _ => rfl) rfl ?_
  refine g_p q198 1 8 [some (oR 12 0), some (vI a1)] [vI 2, aR 1537 0, vL 0, vL (ji2l a1)] rfl ?_
  refine g_ld q198 rfl rfl rfl rfl rfl rfl (fun v1 => ?_)
  refine g_p q198 3 12 [some (oR 12 0), some (vI a1)] [vL (ji2l (jsub v1 1)), vL 0, vL (ji2l a1)] rfl ?_
  refine g_cPI q198 rfl (g173 X (ji2l a1) 0 (ji2l (jsub v1 1)) s) rfl rfl rfl rfl rfl (fun r2 => ?_)
  exact g_retb q198 rfl rfl
theorem q202 : am_cd 202 = am_c202 := rfl
theorem g202 (X : X2) (a0 : Int) (a1 : Int) (s : S2) (o : Option (AV R2) × S2) : J (f202 a0 a1) (fun (r : Int) => o = (some (vI r), s)) (Go X 1 202 0 (am_loc (am_nl 202) [vI a0, vI a1]) [] s o) := by
  show J _ _ (Go X 1 202 0 [some (vI a0), some (vI a1)] [] s o)
  unfold f202
  refine g_p q202 6 6 [some (vI a0), some (vI a1)] [vI 1, vI (jand (jshr a0 a1) 1)] rfl ?_
  refine g_i2 q202 rfl rfl ?_ ?_
  ·
    refine g_p q202 1 14 [some (vI a0), some (vI a1)] [vI 0] rfl ?_
    exact g_ret q202 rfl rfl rfl
  ·
    refine g_p q202 2 14 [some (vI a0), some (vI a1)] [vI 1] rfl ?_
    exact g_ret q202 rfl rfl rfl
theorem q201 : am_cd 201 = am_c201 := rfl
theorem g201 (X : X2) (a1 : Int) (s : S2) (o : Option (AV R2) × S2) : J (f201 a1 s) (fun (r : Int) => o = (some (vI r), s)) (Go X 2 201 0 (am_loc (am_nl 201) [oR 12 0, vI a1]) [] s o) := by
  show J _ _ (Go X 2 201 0 [some (oR 12 0), some (vI a1)] [] s o)
  unfold f201
  refine g_p q201 1 1 [some (oR 12 0), some (vI a1)] [oR 12 0] rfl ?_
  refine g_m (S := [aR 1537 0]) (some (aR 1537 0)) q201 rfl rfl rfl (fun _ => rfl) rfl ?_
  refine g_p q201 1 6 [some (oR 12 0), some (vI a1)] [vI 6, aR 1537 0] rfl ?_
  refine g_ld q201 rfl rfl rfl rfl rfl rfl (fun v1 => ?_)
  refine g_p q201 1 8 [some (oR 12 0), some (vI a1)] [vI a1, vI v1] rfl ?_
  refine g_cPI q201 rfl (g202 X v1 a1 s) rfl rfl rfl rfl rfl (fun r2 => ?_)
  exact g_retb q201 rfl rfl
theorem q204 : am_cd 204 = am_c204 := rfl
def H204_a (X : X2) (y1 : Int) (s3 : S2) (o : Option (AV R2) × S2) (a : Int) : Prop := Go X 2 204 2 [some (oR 12 0), some (vI y1), some (vI a)] [] s3 o
def E204_a (X : X2) (y1 : Int) (s3 : S2) (o : Option (AV R2) × S2) : (Unit) ⊕ (Unit) → Prop := (am_kx (fun (r : Unit) => Go X 2 204 34 [none, none, none] [] s3 o) (fun (r : Unit) => Go X 2 204 42 [some (oR 12 0), none, none] [] s3 o))
theorem g204_a (X : X2) (y1 : Int) (x2 : Int) (s3 : S2) (o : Option (AV R2) × S2) : J (f204_a y1 x2 s3) (am_kx (H204_a X y1 s3 o) (E204_a X y1 s3 o)) (Go X 2 204 2 [some (oR 12 0), some (vI y1), some (vI x2)] [] s3 o) := by
  unfold f204_a
  refine g_p q204 2 4 [some (oR 12 0), some (vI y1), some (vI x2)] [oR 12 0, vI x2] rfl ?_
  refine g_m (S := [aR 1537 0, vI x2]) (some (aR 1537 0)) q204 rfl rfl rfl (fun _ => rfl) rfl ?_
  refine g_p q204 1 8 [some (oR 12 0), some (vI y1), some (vI x2)] [vI 5, aR 1537 0, vI x2] rfl ?_
  refine g_ld q204 rfl rfl rfl rfl rfl rfl (fun v4 => ?_)
  refine g_i2 q204 rfl rfl ?_ ?_
  ·
    exact g_end (fun h => g_wk [true, false, false] rfl h)
  ·
    refine g_p q204 3 15 [some (oR 12 0), some (vI y1), some (vI x2)] [oR 12 0, vL (ji2l y1)] rfl ?_
    refine g_m (S := [aR 1549 0, vL (ji2l y1)]) (some (aR 1549 0)) q204 rfl rfl rfl (fun _ => rfl) rfl ?_
    refine g_p q204 1 19 [some (oR 12 0), some (vI y1), some (vI x2)] [vI x2, aR 1549 0, vL (ji2l y1)] rfl ?_
    refine g_ld q204 rfl rfl rfl rfl rfl rfl (fun v5 => ?_)
    refine g_p q204 2 22 [some (oR 12 0), some (vI y1), some (vI x2)] [oR 12 0, vL (ji2l v5), vL (ji2l y1)] rfl ?_
    refine g_m (S := [aR 1550 0, vL (ji2l v5), vL (ji2l y1)]) (some (aR 1550 0)) q204 rfl rfl rfl (fun _ => rfl) rfl ?_
    refine g_p q204 1 26 [some (oR 12 0), some (vI y1), some (vI x2)] [vI x2, aR 1550 0, vL (ji2l v5), vL (ji2l y1)] rfl ?_
    refine g_ld q204 rfl rfl rfl rfl rfl rfl (fun v6 => ?_)
    refine g_p q204 1 28 [some (oR 12 0), some (vI y1), some (vI x2)] [vL (ji2l v6), vL (ji2l v5), vL (ji2l y1)] rfl ?_
    refine g_cPI q204 rfl (g173 X (ji2l y1) (ji2l v5) (ji2l v6) s3) rfl rfl rfl rfl rfl (fun r7 => ?_)
    refine g_i1 q204 rfl rfl ?_ ?_
    ·
      refine g_inc (fun v8 => [some (oR 12 0), some (vI y1), some (vI v8)]) q204 rfl rfl (fun _ => rfl) (fun v8 => ?_)
      refine g_p q204 1 2 [some (oR 12 0), some (vI y1), some (vI v8)] [] rfl ?_
      exact g_end (fun h => g_wk [true, true, true] rfl h)
    ·
      exact g_end (fun h => g_wk [false, false, false] rfl h)
theorem g204 (X : X2) (a1 : Int) (s : S2) (o : Option (AV R2) × S2) : J (f204 a1 s) (fun (r : Int) => o = (some (vI r), s)) (Go X 2 204 0 (am_loc (am_nl 204) [oR 12 0, vI a1]) [] s o) := by
  show J _ _ (Go X 2 204 0 [some (oR 12 0), some (vI a1), none] [] s o)
  unfold f204
  refine g_p q204 2 2 [some (oR 12 0), some (vI a1), some (vI 0)] [] rfl ?_
  refine g_wkJ [true, true, true] (L0 := [some (oR 12 0), some (vI a1), some (vI 0)]) rfl ?_
  refine g_itr (H204_a X a1 s o) (E204_a X a1 s o) (fun x2 => g204_a X a1 x2 s o) ?_
  refine g_se ?_ ?_
  ·
    intro _
    show J _ _ (Go X 2 204 34 [none, none, none] [] s o)
    refine g_p q204 1 35 [none, none, none] [vI 1] rfl ?_
    exact g_ret q204 rfl rfl rfl
  ·
    intro _
    show J _ _ (Go X 2 204 42 [some (oR 12 0), none, none] [] s o)
    refine g_p q204 1 43 [some (oR 12 0), none, none] [oR 12 0] rfl ?_
    refine g_get q204 rfl rfl rfl (fun _ => rfl) (fun v9 => ?_)
    exact g_retb q204 rfl rfl
theorem q203 : am_cd 203 = am_c203 := rfl
def H203_a (X : X2) (y1 : Int) (y2 : Int) (s9 : S2) (o : Option (AV R2) × S2) (a : Int × Int × Int × Int × Int × Int) : Prop := Go X 3 203 17 [some (oR 12 0), some (vI y1), some (vI y2), some (vI (a.1)), some (vI (a.2.1)), some (vI (a.2.2.1)), some (vI (a.2.2.2.1)), some (vI (a.2.2.2.2.1)), some (vI (a.2.2.2.2.2))] [] s9 o
def E203_a (X : X2) (y1 : Int) (y2 : Int) (s9 : S2) (o : Option (AV R2) × S2) : (Int × Int × Int × Int × Int) → Prop := (fun (r : Int × Int × Int × Int × Int) => Go X 3 203 156 [some (oR 12 0), some (vI y1), some (vI y2), some (vI (r.1)), some (vI (r.2.1)), some (vI (r.2.2.1)), some (vI (r.2.2.2.1)), some (vI (r.2.2.2.2)), none] [] s9 o)
set_option maxRecDepth 20000 in
theorem g203_a (X : X2) (y1 : Int) (y2 : Int) (x3 : Int) (x4 : Int) (x5 : Int) (x6 : Int) (x7 : Int) (x8 : Int) (s9 : S2) (o : Option (AV R2) × S2) : J (f203_a y1 y2 x3 x4 x5 x6 x7 x8 s9) (am_kx (H203_a X y1 y2 s9 o) (E203_a X y1 y2 s9 o)) (Go X 3 203 17 [some (oR 12 0), some (vI y1), some (vI y2), some (vI x3), some (vI x4), some (vI x5), some (vI x6), some (vI x7), some (vI x8)] [] s9 o) := by
  unfold f203_a
  refine g_p q203 2 20 [some (oR 12 0), some (vI y1), some (vI y2), some (vI x3), some (vI x4), some (vI x5), some (vI x6), some (vI x7), some (vI x8)] [oR 12 0, vI x8] rfl ?_
  refine g_m (S := [aR 1537 0, vI x8]) (some (aR 1537 0)) q203 rfl rfl rfl (fun _ => rfl) rfl ?_
  refine g_p q203 1 24 [some (oR 12 0), some (vI y1), some (vI y2), some (vI x3), some (vI x4), some (vI x5), some (vI x6), some (vI x7), some (vI x8)] [vI 4, aR 1537 0, vI x8] rfl ?_
  refine g_ld q203 rfl rfl rfl rfl rfl rfl (fun v10 => ?_)
  refine g_i2 q203 rfl rfl ?_ ?_
  ·
    exact g_end (fun h => g_wk [true, true, true, true, true, true, true, true, false] rfl h)
  ·
    refine g_p q203 1 29 [some (oR 12 0), some (vI y1), some (vI y2), some (vI x3), some (vI x4), some (vI x5), some (vI x6), some (vI x7), some (vI x8)] [oR 12 0] rfl ?_
    refine g_m (S := [aR 1548 0]) (some (aR 1548 0)) q203 rfl rfl rfl (fun _ => rfl) rfl ?_
    refine g_p q203 1 34 [some (oR 12 0), some (vI y1), some (vI y2), some (vI x3), some (vI x4), some (vI x5), some (vI x6), some (vI x7), some (vI x8)] [vI x8, aR 1548 0] rfl ?_
    refine g_ld q203 rfl rfl rfl rfl rfl rfl (fun v11 => ?_)
    refine g_p q203 1 36 [some (oR 12 0), some (vI y1), some (vI y2), some (vI x3), some (vI x4), some (vI x5), some (vI x6), some (vI x7), some (vI x8)] [vI y2, vI v11] rfl ?_
    refine g_jn (fun j127 => ∀ (_ : Unit), J (j127 ()) (am_kx (H203_a X y1 y2 s9 o) (E203_a X y1 y2 s9 o)) (Go X 3 203 127 [some (oR 12 0), some (vI y1), some (vI y2), some (vI x3), some (vI x4), some (vI x5), some (vI x6), some (vI x7), some (vI x8)] [] s9 o)) ?_ (fun j127 hj127 => ?_)
    ·
      intro _
      refine g_p q203 1 128 [some (oR 12 0), some (vI y1), some (vI y2), some (vI x3), some (vI x4), some (vI x5), some (vI x6), some (vI x7), some (vI x8)] [oR 12 0] rfl ?_
      refine g_m (S := [aR 1548 0]) (some (aR 1548 0)) q203 rfl rfl rfl (fun _ => rfl) rfl ?_
      refine g_p q203 1 133 [some (oR 12 0), some (vI y1), some (vI y2), some (vI x3), some (vI x4), some (vI x5), some (vI x6), some (vI x7), some (vI x8)] [vI x8, aR 1548 0] rfl ?_
      refine g_ld q203 rfl rfl rfl rfl rfl rfl (fun v12 => ?_)
      refine g_p q203 1 135 [some (oR 12 0), some (vI y1), some (vI y2), some (vI x3), some (vI x4), some (vI x5), some (vI x6), some (vI x7), some (vI x8)] [vI y2, vI v12] rfl ?_
      refine g_i2 q203 rfl rfl ?_ ?_
      ·
        refine g_inc (fun v13 => [some (oR 12 0), some (vI y1), some (vI y2), some (vI x3), some (vI x4), some (vI x5), some (vI x6), some (vI x7), some (vI v13)]) q203 rfl rfl (fun _ => rfl) (fun v13 => ?_)
        refine g_p q203 1 17 [some (oR 12 0), some (vI y1), some (vI y2), some (vI x3), some (vI x4), some (vI x5), some (vI x6), some (vI x7), some (vI v13)] [] rfl ?_
        exact g_end (fun h => g_wk [true, true, true, true, true, true, true, true, true] rfl h)
      ·
        refine g_p q203 2 141 [some (oR 12 0), some (vI y1), some (vI y2), some (vI x3), some (vI x4), some (vI x5), some (vI x6), some (vI x7), some (vI x8)] [oR 12 0, vI x7] rfl ?_
        refine g_m (S := [aR 1546 0, vI x7]) (some (aR 1546 0)) q203 rfl rfl rfl (fun _ => rfl) rfl ?_
        refine g_p q203 1 146 [some (oR 12 0), some (vI y1), some (vI y2), some (vI x3), some (vI x4), some (vI x5), some (vI x6), some (vI x7), some (vI x8)] [vI x8, aR 1546 0, vI x7] rfl ?_
        refine g_ld q203 rfl rfl rfl rfl rfl rfl (fun v14 => ?_)
        refine g_p q203 1 148 [some (oR 12 0), some (vI y1), some (vI y2), some (vI x3), some (vI x4), some (vI x5), some (vI x6), some (vI x7), some (vI x8)] [vI (jadd x7 v14)] rfl ?_
        refine g_top (fun v15 => ?_)
        refine g_p q203 1 150 [some (oR 12 0), some (vI y1), some (vI y2), some (vI x3), some (vI x4), some (vI x5), some (vI x6), some (vI v15), some (vI x8)] [] rfl ?_
        refine g_inc (fun v16 => [some (oR 12 0), some (vI y1), some (vI y2), some (vI x3), some (vI x4), some (vI x5), some (vI x6), some (vI v15), some (vI v16)]) q203 rfl rfl (fun _ => rfl) (fun v16 => ?_)
        refine g_p q203 1 17 [some (oR 12 0), some (vI y1), some (vI y2), some (vI x3), some (vI x4), some (vI x5), some (vI x6), some (vI v15), some (vI v16)] [] rfl ?_
        exact g_end (fun h => g_wk [true, true, true, true, true, true, true, true, true] rfl h)
    ·
      refine g_i2 q203 rfl rfl ?_ ?_
      ·
        exact g_wkJ [true, true, true, true, true, true, true, true, true] rfl (hj127 ())
      ·
        refine g_p q203 1 40 [some (oR 12 0), some (vI y1), some (vI y2), some (vI x3), some (vI x4), some (vI x5), some (vI x6), some (vI x7), some (vI x8)] [oR 12 0] rfl ?_
        refine g_m (S := [aR 1545 0]) (some (aR 1545 0)) q203 rfl rfl rfl (fun _ => rfl) rfl ?_
        refine g_p q203 1 45 [some (oR 12 0), some (vI y1), some (vI y2), some (vI x3), some (vI x4), some (vI x5), some (vI x6), some (vI x7), some (vI x8)] [vI x8, aR 1545 0] rfl ?_
        refine g_ld q203 rfl rfl rfl rfl rfl rfl (fun v17 => ?_)
        refine g_p q203 1 47 [some (oR 12 0), some (vI y1), some (vI y2), some (vI x3), some (vI x4), some (vI x5), some (vI x6), some (vI x7), some (vI x8)] [vI y1, vI v17] rfl ?_
        refine g_i2 q203 rfl rfl ?_ ?_
        ·
          exact g_wkJ [true, true, true, true, true, true, true, true, true] rfl (hj127 ())
        ·
          refine g_p q203 2 52 [some (oR 12 0), some (vI y1), some (vI y2), some (vI x3), some (vI x4), some (vI x5), some (vI x6), some (vI x7), some (vI x8)] [oR 12 0, vI x3] rfl ?_
          refine g_m (S := [aR 1546 0, vI x3]) (some (aR 1546 0)) q203 rfl rfl rfl (fun _ => rfl) rfl ?_
          refine g_p q203 1 57 [some (oR 12 0), some (vI y1), some (vI y2), some (vI x3), some (vI x4), some (vI x5), some (vI x6), some (vI x7), some (vI x8)] [vI x8, aR 1546 0, vI x3] rfl ?_
          refine g_ld q203 rfl rfl rfl rfl rfl rfl (fun v18 => ?_)
          refine g_p q203 1 59 [some (oR 12 0), some (vI y1), some (vI y2), some (vI x3), some (vI x4), some (vI x5), some (vI x6), some (vI x7), some (vI x8)] [vI (jadd x3 v18)] rfl ?_
          refine g_top (fun v19 => ?_)
          refine g_p q203 3 63 [some (oR 12 0), some (vI y1), some (vI y2), some (vI v19), some (vI x4), some (vI x5), some (vI x6), some (vI x7), some (vI x8)] [oR 12 0, vI x4] rfl ?_
          refine g_m (S := [aR 1547 0, vI x4]) (some (aR 1547 0)) q203 rfl rfl rfl (fun _ => rfl) rfl ?_
          refine g_p q203 1 68 [some (oR 12 0), some (vI y1), some (vI y2), some (vI v19), some (vI x4), some (vI x5), some (vI x6), some (vI x7), some (vI x8)] [vI x8, aR 1547 0, vI x4] rfl ?_
          refine g_ld q203 rfl rfl rfl rfl rfl rfl (fun v20 => ?_)
          refine g_jn (fun j83 => ∀ (x21 : Int), J (j83 x21) (am_kx (H203_a X y1 y2 s9 o) (E203_a X y1 y2 s9 o)) (Go X 3 203 83 [some (oR 12 0), some (vI y1), some (vI y2), some (vI v19), none, some (vI x5), some (vI x6), some (vI x7), some (vI x8)] [vI x21, vI x4] s9 o)) ?_ (fun j83 hj83 => ?_)
          ·
            intro x21
            refine g_p q203 1 84 [some (oR 12 0), some (vI y1), some (vI y2), some (vI v19), none, some (vI x5), some (vI x6), some (vI x7), some (vI x8)] [vI (jadd x4 x21)] rfl ?_
            refine g_top (fun v22 => ?_)
            refine g_p q203 2 87 [some (oR 12 0), some (vI y1), some (vI y2), some (vI v19), some (vI v22), some (vI x5), some (vI x6), some (vI x7), some (vI x8)] [oR 12 0] rfl ?_
            refine g_m (S := [aR 1547 0]) (some (aR 1547 0)) q203 rfl rfl rfl (fun _ => rfl) rfl ?_
            refine g_p q203 1 92 [some (oR 12 0), some (vI y1), some (vI y2), some (vI v19), some (vI v22), some (vI x5), some (vI x6), some (vI x7), some (vI x8)] [vI x8, aR 1547 0] rfl ?_
            refine g_ld q203 rfl rfl rfl rfl rfl rfl (fun v23 => ?_)
            refine g_p q203 1 95 [some (oR 12 0), some (vI y1), some (vI y2), some (vI v19), some (vI v22), some (vI x5), some (vI x6), some (vI x7), some (vI x8)] [vI x5, vI v23] rfl ?_
            refine g_jn (fun j110 => ∀ (x24 : Int), J (j110 x24) (am_kx (H203_a X y1 y2 s9 o) (E203_a X y1 y2 s9 o)) (Go X 3 203 110 [some (oR 12 0), some (vI y1), some (vI y2), some (vI v19), some (vI v22), none, some (vI x6), some (vI x7), some (vI x8)] [vI x24] s9 o)) ?_ (fun j110 hj110 => ?_)
            ·
              intro x24
              refine g_p q203 3 115 [some (oR 12 0), some (vI y1), some (vI y2), some (vI v19), some (vI v22), some (vI x24), some (vI x6), some (vI x7), some (vI x8)] [oR 12 0, vI x6] rfl ?_
              refine g_m (S := [aR 1547 0, vI x6]) (some (aR 1547 0)) q203 rfl rfl rfl (fun _ => rfl) rfl ?_
              refine g_p q203 1 120 [some (oR 12 0), some (vI y1), some (vI y2), some (vI v19), some (vI v22), some (vI x24), some (vI x6), some (vI x7), some (vI x8)] [vI x8, aR 1547 0, vI x6] rfl ?_
              refine g_ld q203 rfl rfl rfl rfl rfl rfl (fun v25 => ?_)
              refine g_p q203 1 122 [some (oR 12 0), some (vI y1), some (vI y2), some (vI v19), some (vI v22), some (vI x24), some (vI x6), some (vI x7), some (vI x8)] [vI (jadd x6 v25)] rfl ?_
              refine g_top (fun v26 => ?_)
              refine g_p q203 2 150 [some (oR 12 0), some (vI y1), some (vI y2), some (vI v19), some (vI v22), some (vI x24), some (vI v26), some (vI x7), some (vI x8)] [] rfl ?_
              refine g_inc (fun v27 => [some (oR 12 0), some (vI y1), some (vI y2), some (vI v19), some (vI v22), some (vI x24), some (vI v26), some (vI x7), some (vI v27)]) q203 rfl rfl (fun _ => rfl) (fun v27 => ?_)
              refine g_p q203 1 17 [some (oR 12 0), some (vI y1), some (vI y2), some (vI v19), some (vI v22), some (vI x24), some (vI v26), some (vI x7), some (vI v27)] [] rfl ?_
              exact g_end (fun h => g_wk [true, true, true, true, true, true, true, true, true] rfl h)
            ·
              refine g_i2 q203 rfl rfl ?_ ?_
              ·
                refine g_p q203 1 110 [some (oR 12 0), some (vI y1), some (vI y2), some (vI v19), some (vI v22), some (vI x5), some (vI x6), some (vI x7), some (vI x8)] [vI x5] rfl ?_
                exact g_wkJ [true, true, true, true, true, false, true, true, true] rfl (hj110 x5)
              ·
                refine g_p q203 1 99 [some (oR 12 0), some (vI y1), some (vI y2), some (vI v19), some (vI v22), some (vI x5), some (vI x6), some (vI x7), some (vI x8)] [oR 12 0] rfl ?_
                refine g_m (S := [aR 1547 0]) (some (aR 1547 0)) q203 rfl rfl rfl (fun _ => rfl) rfl ?_
                refine g_p q203 1 104 [some (oR 12 0), some (vI y1), some (vI y2), some (vI v19), some (vI v22), some (vI x5), some (vI x6), some (vI x7), some (vI x8)] [vI x8, aR 1547 0] rfl ?_
                refine g_ld q203 rfl rfl rfl rfl rfl rfl (fun v28 => ?_)
                refine g_p q203 1 110 [some (oR 12 0), some (vI y1), some (vI y2), some (vI v19), some (vI v22), some (vI x5), some (vI x6), some (vI x7), some (vI x8)] [vI v28] rfl ?_
                exact g_wkJ [true, true, true, true, true, false, true, true, true] rfl (hj110 v28)
          ·
            refine g_i1 q203 rfl rfl ?_ ?_
            ·
              refine g_p q203 1 83 [some (oR 12 0), some (vI y1), some (vI y2), some (vI v19), some (vI x4), some (vI x5), some (vI x6), some (vI x7), some (vI x8)] [vI 0, vI x4] rfl ?_
              exact g_wkJ [true, true, true, true, false, true, true, true, true] rfl (hj83 0)
            ·
              refine g_p q203 1 73 [some (oR 12 0), some (vI y1), some (vI y2), some (vI v19), some (vI x4), some (vI x5), some (vI x6), some (vI x7), some (vI x8)] [oR 12 0, vI x4] rfl ?_
              refine g_m (S := [aR 1546 0, vI x4]) (some (aR 1546 0)) q203 rfl rfl rfl (fun _ => rfl) rfl ?_
              refine g_p q203 1 78 [some (oR 12 0), some (vI y1), some (vI y2), some (vI v19), some (vI x4), some (vI x5), some (vI x6), some (vI x7), some (vI x8)] [vI x8, aR 1546 0, vI x4] rfl ?_
              refine g_ld q203 rfl rfl rfl rfl rfl rfl (fun v29 => ?_)
              refine g_p q203 1 83 [some (oR 12 0), some (vI y1), some (vI y2), some (vI v19), some (vI x4), some (vI x5), some (vI x6), some (vI x7), some (vI x8)] [vI v29, vI x4] rfl ?_
              exact g_wkJ [true, true, true, true, false, true, true, true, true] rfl (hj83 v29)
set_option maxRecDepth 20000 in
theorem g203 (X : X2) (a1 : Int) (a2 : Int) (s : S2) (o : Option (AV R2) × S2) : J (f203 a1 a2 s) (fun (r : S2) => o = (none, r)) (Go X 3 203 0 (am_loc (am_nl 203) [oR 12 0, vI a1, vI a2]) [] s o) := by
  show J _ _ (Go X 3 203 0 [some (oR 12 0), some (vI a1), some (vI a2), none, none, none, none, none, none] [] s o)
  unfold f203
  refine g_p q203 12 17 [some (oR 12 0), some (vI a1), some (vI a2), some (vI 0), some (vI 0), some (vI 0), some (vI 0), some (vI 0), some (vI 0)] [] rfl ?_
  refine g_wkJ [true, true, true, true, true, true, true, true, true] (L0 := [some (oR 12 0), some (vI a1), some (vI a2), some (vI 0), some (vI 0), some (vI 0), some (vI 0), some (vI 0), some (vI 0)]) rfl ?_
  refine g_itr (H203_a X a1 a2 s o) (E203_a X a1 a2 s o) (fun | (x3, x4, x5, x6, x7, x8) => g203_a X a1 a2 x3 x4 x5 x6 x7 x8 s o) ?_
  rintro ⟨z30, z31, z32, z33, z34⟩
  show J _ _ (Go X 3 203 156 [some (oR 12 0), some (vI a1), some (vI a2), some (vI z30), some (vI z31), some (vI z32), some (vI z33), some (vI z34), none] [] s o)
  refine g_p q203 1 157 [some (oR 12 0), some (vI a1), some (vI a2), some (vI z30), some (vI z31), some (vI z32), some (vI z33), some (vI z34), none] [oR 12 0] rfl ?_
  refine g_m (S := [aR 1587 0]) (some (aR 1587 0)) q203 rfl rfl rfl (fun _ => rfl) rfl ?_
  refine g_p q203 3 163 [some (oR 12 0), some (vI a1), some (vI a2), some (vI z30), some (vI z31), some (vI z32), some (vI z33), some (vI z34), none] [vL (ji2l a1), vI 0, aR 1587 0] rfl ?_
  refine g_stol q203 rfl rfl rfl rfl (fun s35 => ?_)
  refine g_p q203 1 165 [some (oR 12 0), some (vI a1), some (vI a2), some (vI z30), some (vI z31), some (vI z32), some (vI z33), some (vI z34), none] [oR 12 0] rfl ?_
  refine g_m (S := [aR 1587 0]) (some (aR 1587 0)) q203 rfl rfl rfl (fun _ => rfl) rfl ?_
  refine g_p q203 3 171 [some (oR 12 0), some (vI a1), some (vI a2), some (vI z30), some (vI z31), some (vI z32), some (vI z33), some (vI z34), none] [vL (ji2l a2), vI 1, aR 1587 0] rfl ?_
  refine g_stol q203 rfl rfl rfl rfl (fun s36 => ?_)
  refine g_p q203 1 173 [some (oR 12 0), some (vI a1), some (vI a2), some (vI z30), some (vI z31), some (vI z32), some (vI z33), some (vI z34), none] [oR 12 0] rfl ?_
  refine g_m (S := [aR 1587 0]) (some (aR 1587 0)) q203 rfl rfl rfl (fun _ => rfl) rfl ?_
  refine g_p q203 2 178 [some (oR 12 0), some (vI a1), some (vI a2), some (vI z30), some (vI z31), some (vI z32), some (vI z33), some (vI z34), none] [oR 12 0, vI 2, aR 1587 0] rfl ?_
  refine g_m (S := [aR 1542 0, vI 2, aR 1587 0]) (some (aR 1542 0)) q203 rfl rfl rfl (fun _ => rfl) rfl ?_
  refine g_p q203 1 182 [some (oR 12 0), some (vI a1), some (vI a2), some (vI z30), some (vI z31), some (vI z32), some (vI z33), some (vI z34), none] [vI a2, aR 1542 0, vI 2, aR 1587 0] rfl ?_
  refine g_ld q203 rfl rfl rfl rfl rfl rfl (fun v37 => ?_)
  refine g_p q203 1 184 [some (oR 12 0), some (vI a1), some (vI a2), some (vI z30), some (vI z31), some (vI z32), some (vI z33), some (vI z34), none] [vL (ji2l v37), vI 2, aR 1587 0] rfl ?_
  refine g_stol q203 rfl rfl rfl rfl (fun s38 => ?_)
  refine g_p q203 1 186 [some (oR 12 0), some (vI a1), some (vI a2), some (vI z30), some (vI z31), some (vI z32), some (vI z33), some (vI z34), none] [oR 12 0] rfl ?_
  refine g_m (S := [aR 1587 0]) (some (aR 1587 0)) q203 rfl rfl rfl (fun _ => rfl) rfl ?_
  refine g_p q203 3 192 [some (oR 12 0), some (vI a1), some (vI a2), some (vI z30), some (vI z31), some (vI z32), some (vI z33), some (vI z34), none] [vL (ji2l z30), vI 3, aR 1587 0] rfl ?_
  refine g_stol q203 rfl rfl rfl rfl (fun s39 => ?_)
  refine g_p q203 1 194 [some (oR 12 0), some (vI a1), some (vI a2), some (vI z30), some (vI z31), some (vI z32), some (vI z33), some (vI z34), none] [oR 12 0] rfl ?_
  refine g_m (S := [aR 1587 0]) (some (aR 1587 0)) q203 rfl rfl rfl (fun _ => rfl) rfl ?_
  refine g_p q203 3 201 [some (oR 12 0), some (vI a1), some (vI a2), some (vI z30), some (vI z31), some (vI z32), some (vI z33), some (vI z34), none] [vL (ji2l z31), vI 4, aR 1587 0] rfl ?_
  refine g_stol q203 rfl rfl rfl rfl (fun s40 => ?_)
  refine g_p q203 1 203 [some (oR 12 0), some (vI a1), some (vI a2), some (vI z30), some (vI z31), some (vI z32), some (vI z33), some (vI z34), none] [oR 12 0] rfl ?_
  refine g_m (S := [aR 1587 0]) (some (aR 1587 0)) q203 rfl rfl rfl (fun _ => rfl) rfl ?_
  refine g_p q203 3 210 [some (oR 12 0), some (vI a1), some (vI a2), some (vI z30), some (vI z31), some (vI z32), some (vI z33), some (vI z34), none] [vL (ji2l z32), vI 5, aR 1587 0] rfl ?_
  refine g_stol q203 rfl rfl rfl rfl (fun s41 => ?_)
  refine g_p q203 1 212 [some (oR 12 0), some (vI a1), some (vI a2), some (vI z30), some (vI z31), some (vI z32), some (vI z33), some (vI z34), none] [oR 12 0] rfl ?_
  refine g_m (S := [aR 1587 0]) (some (aR 1587 0)) q203 rfl rfl rfl (fun _ => rfl) rfl ?_
  refine g_p q203 3 220 [some (oR 12 0), some (vI a1), some (vI a2), some (vI z30), some (vI z31), some (vI z32), some (vI z33), some (vI z34), none] [vL (ji2l z33), vI 6, aR 1587 0] rfl ?_
  refine g_stol q203 rfl rfl rfl rfl (fun s42 => ?_)
  refine g_p q203 1 222 [some (oR 12 0), some (vI a1), some (vI a2), some (vI z30), some (vI z31), some (vI z32), some (vI z33), some (vI z34), none] [oR 12 0] rfl ?_
  refine g_m (S := [aR 1587 0]) (some (aR 1587 0)) q203 rfl rfl rfl (fun _ => rfl) rfl ?_
  refine g_p q203 3 230 [some (oR 12 0), some (vI a1), some (vI a2), some (vI z30), some (vI z31), some (vI z32), some (vI z33), some (vI z34), none] [vL (ji2l z34), vI 7, aR 1587 0] rfl ?_
  refine g_stol q203 rfl rfl rfl rfl (fun s43 => ?_)
  refine g_p q203 1 232 [some (oR 12 0), some (vI a1), some (vI a2), some (vI z30), some (vI z31), some (vI z32), some (vI z33), some (vI z34), none] [oR 12 0] rfl ?_
  refine g_m (S := [aR 1587 0]) (some (aR 1587 0)) q203 rfl rfl rfl (fun _ => rfl) rfl ?_
  refine g_p q203 2 238 [some (oR 12 0), some (vI a1), some (vI a2), some (vI z30), some (vI z31), some (vI z32), some (vI z33), some (vI z34), none] [oR 12 0, vI 8, aR 1587 0] rfl ?_
  refine g_m (S := [aR 1544 0, vI 8, aR 1587 0]) (some (aR 1544 0)) q203 rfl rfl rfl (fun _ => rfl) rfl ?_
  refine g_p q203 1 242 [some (oR 12 0), some (vI a1), some (vI a2), some (vI z30), some (vI z31), some (vI z32), some (vI z33), some (vI z34), none] [vI a2, aR 1544 0, vI 8, aR 1587 0] rfl ?_
  refine g_ld q203 rfl rfl rfl rfl rfl rfl (fun v44 => ?_)
  refine g_p q203 1 244 [some (oR 12 0), some (vI a1), some (vI a2), some (vI z30), some (vI z31), some (vI z32), some (vI z33), some (vI z34), none] [vI a1, vI v44, vI 8, aR 1587 0] rfl ?_
  refine g_jn (fun j252 => ∀ (x45 : Int), J (j252 x45) (fun (r : S2) => o = (none, r)) (Go X 3 203 252 [some (oR 12 0), some (vI a1), none, none, none, none, none, none, none] [vL x45, vI 8, aR 1587 0] s43 o)) ?_ (fun j252 hj252 => ?_)
  ·
    intro x45
    refine g_stol q203 rfl rfl rfl rfl (fun s46 => ?_)
    refine g_p q203 1 254 [some (oR 12 0), some (vI a1), none, none, none, none, none, none, none] [oR 12 0] rfl ?_
    refine g_m (S := [aR 1587 0]) (some (aR 1587 0)) q203 rfl rfl rfl (fun _ => rfl) rfl ?_
    refine g_p q203 2 260 [some (oR 12 0), some (vI a1), none, none, none, none, none, none, none] [oR 12 0, vI 9, aR 1587 0] rfl ?_
    refine g_m (S := [aR 1538 0, vI 9, aR 1587 0]) (some (aR 1538 0)) q203 rfl rfl rfl (fun _ => rfl) rfl ?_
    refine g_p q203 1 264 [some (oR 12 0), some (vI a1), none, none, none, none, none, none, none] [vI a1, aR 1538 0, vI 9, aR 1587 0] rfl ?_
    refine g_ld q203 rfl rfl rfl rfl rfl rfl (fun v47 => ?_)
    refine g_p q203 1 266 [some (oR 12 0), some (vI a1), none, none, none, none, none, none, none] [vL (ji2l v47), vI 9, aR 1587 0] rfl ?_
    refine g_stol q203 rfl rfl rfl rfl (fun s48 => ?_)
    refine g_p q203 1 268 [some (oR 12 0), some (vI a1), none, none, none, none, none, none, none] [oR 12 0] rfl ?_
    refine g_m (S := [aR 1587 0]) (some (aR 1587 0)) q203 rfl rfl rfl (fun _ => rfl) rfl ?_
    refine g_p q203 2 274 [some (oR 12 0), some (vI a1), none, none, none, none, none, none, none] [oR 12 0, vI 10, aR 1587 0] rfl ?_
    refine g_m (S := [aR 1539 0, vI 10, aR 1587 0]) (some (aR 1539 0)) q203 rfl rfl rfl (fun _ => rfl) rfl ?_
    refine g_p q203 1 278 [some (oR 12 0), some (vI a1), none, none, none, none, none, none, none] [vI a1, aR 1539 0, vI 10, aR 1587 0] rfl ?_
    refine g_ld q203 rfl rfl rfl rfl rfl rfl (fun v49 => ?_)
    refine g_p q203 1 280 [some (oR 12 0), some (vI a1), none, none, none, none, none, none, none] [vL (ji2l v49), vI 10, aR 1587 0] rfl ?_
    refine g_stol q203 rfl rfl rfl rfl (fun s50 => ?_)
    refine g_p q203 1 282 [some (oR 12 0), some (vI a1), none, none, none, none, none, none, none] [oR 12 0] rfl ?_
    refine g_m (S := [aR 1587 0]) (some (aR 1587 0)) q203 rfl rfl rfl (fun _ => rfl) rfl ?_
    refine g_p q203 2 288 [some (oR 12 0), some (vI a1), none, none, none, none, none, none, none] [oR 12 0, vI 11, aR 1587 0] rfl ?_
    refine g_m (S := [aR 1537 0, vI 11, aR 1587 0]) (some (aR 1537 0)) q203 rfl rfl rfl (fun _ => rfl) rfl ?_
    refine g_p q203 1 293 [some (oR 12 0), some (vI a1), none, none, none, none, none, none, none] [vI 7, aR 1537 0, vI 11, aR 1587 0] rfl ?_
    refine g_ld q203 rfl rfl rfl rfl rfl rfl (fun v51 => ?_)
    refine g_p q203 1 295 [some (oR 12 0), some (vI a1), none, none, none, none, none, none, none] [vL (ji2l v51), vI 11, aR 1587 0] rfl ?_
    refine g_stol q203 rfl rfl rfl rfl (fun s52 => ?_)
    refine g_p q203 1 297 [some (oR 12 0), some (vI a1), none, none, none, none, none, none, none] [oR 12 0] rfl ?_
    refine g_m (S := [aR 1587 0]) (some (aR 1587 0)) q203 rfl rfl rfl (fun _ => rfl) rfl ?_
    refine g_p q203 3 304 [some (oR 12 0), some (vI a1), none, none, none, none, none, none, none] [oR 12 0, oR 12 0, vI 12, aR 1587 0] rfl ?_
    refine g_m (S := [aR 1537 0, oR 12 0, vI 12, aR 1587 0]) (some (aR 1537 0)) q203 rfl rfl rfl (fun _ => rfl) rfl ?_
    refine g_p q203 1 309 [some (oR 12 0), some (vI a1), none, none, none, none, none, none, none] [vI 7, aR 1537 0, oR 12 0, vI 12, aR 1587 0] rfl ?_
    refine g_ld q203 rfl rfl rfl rfl rfl rfl (fun v53 => ?_)
    refine g_cPI q203 rfl (g204 X v53 s52) rfl rfl rfl rfl rfl (fun r54 => ?_)
    refine g_jn (fun j321 => ∀ (x55 : Int), J (j321 x55) (fun (r : S2) => o = (none, r)) (Go X 3 203 321 [none, none, none, none, none, none, none, none, none] [vL x55, vI 12, aR 1587 0] s52 o)) ?_ (fun j321 hj321 => ?_)
    ·
      intro x55
      refine g_stol q203 rfl rfl rfl rfl (fun s56 => ?_)
      exact g_retV q203 rfl rfl
    ·
      refine g_i1 q203 rfl rfl ?_ ?_
      ·
        refine g_p q203 1 321 [some (oR 12 0), some (vI a1), none, none, none, none, none, none, none] [vL 0, vI 12, aR 1587 0] rfl ?_
        exact g_wkJ [false, false, false, false, false, false, false, false, false] rfl (hj321 0)
      ·
        refine g_p q203 2 321 [some (oR 12 0), some (vI a1), none, none, none, none, none, none, none] [vL 1, vI 12, aR 1587 0] rfl ?_
        exact g_wkJ [false, false, false, false, false, false, false, false, false] rfl (hj321 1)
  ·
    refine g_i2 q203 rfl rfl ?_ ?_
    ·
      refine g_p q203 1 252 [some (oR 12 0), some (vI a1), some (vI a2), some (vI z30), some (vI z31), some (vI z32), some (vI z33), some (vI z34), none] [vL 0, vI 8, aR 1587 0] rfl ?_
      exact g_wkJ [true, true, false, false, false, false, false, false, false] rfl (hj252 0)
    ·
      refine g_p q203 2 252 [some (oR 12 0), some (vI a1), some (vI a2), some (vI z30), some (vI z31), some (vI z32), some (vI z33), some (vI z34), none] [vL 1, vI 8, aR 1587 0] rfl ?_
      exact g_wkJ [true, true, false, false, false, false, false, false, false] rfl (hj252 1)
theorem q208 : am_cd 208 = am_c208 := rfl
theorem g208 (X : X2) (a0 : Int) (s : S2) (o : Option (AV R2) × S2) : J (f208 a0) (fun (r : Int) => o = (some (vL r), s)) (Go X 1 208 0 (am_loc (am_nl 208) [vI a0]) [] s o) := by
  show J _ _ (Go X 1 208 0 [some (vI a0)] [] s o)
  unfold f208
  refine g_p q208 1 1 [some (vI a0)] [vI a0] rfl ?_
  refine g_i1 q208 rfl rfl ?_ ?_
  ·
    refine g_p q208 1 9 [some (vI a0)] [vL 0] rfl ?_
    exact g_ret q208 rfl rfl rfl
  ·
    refine g_p q208 2 9 [some (vI a0)] [vL 1] rfl ?_
    exact g_ret q208 rfl rfl rfl
theorem q207 : am_cd 207 = am_c207 := rfl
theorem g207 (X : X2) (a0 : Int) (a1 : Int) (a2 : Int) (s : S2) (o : Option (AV R2) × S2) : J (f207 a0 a1 a2) (fun (r : Int) => o = (some (vL r), s)) (Go X 2 207 0 (am_loc (am_nl 207) [vI a0, vL a1, vL a2]) [] s o) := by
  show J _ _ (Go X 2 207 0 [some (vI a0), some (vL a1), none, some (vL a2), none] [] s o)
  unfold f207
  refine g_p q207 1 1 [some (vI a0), some (vL a1), none, some (vL a2), none] [vI a0] rfl ?_
  refine g_sw q207 rfl ?_
  refine g_swc ?_ ?_
  ·
    refine g_p q207 3 75 [some (vI a0), some (vL a1), none, some (vL a2), none] [vL (kadd a1 a2)] rfl ?_
    refine g_topl (fun v1 => ?_)
    exact g_ret q207 rfl rfl rfl
  ·
    refine g_swc ?_ ?_
    ·
      refine g_p q207 3 79 [some (vI a0), some (vL a1), none, some (vL a2), none] [vL (ksub a1 a2)] rfl ?_
      refine g_topl (fun v2 => ?_)
      exact g_ret q207 rfl rfl rfl
    ·
      refine g_swc ?_ ?_
      ·
        refine g_p q207 3 115 [some (vI a0), some (vL a1), none, some (vL a2), none] [vI (jcmp a1 a2)] rfl ?_
        refine g_jn (fun j123 => ∀ (x3 : Int), J (j123 x3) (fun (r : Int) => o = (some (vL r), s)) (Go X 2 207 123 [none, none, none, none, none] [vI x3] s o)) ?_ (fun j123 hj123 => ?_)
        ·
          intro x3
          refine g_cPL q207 rfl (g208 X x3 s) rfl rfl rfl rfl rfl (fun r4 => ?_)
          exact g_ret q207 rfl rfl rfl
        ·
          refine g_i1 q207 rfl rfl ?_ ?_
          ·
            refine g_p q207 1 123 [some (vI a0), some (vL a1), none, some (vL a2), none] [vI 0] rfl ?_
            exact g_wkJ [false, false, false, false, false] rfl (hj123 0)
          ·
            refine g_p q207 2 123 [some (vI a0), some (vL a1), none, some (vL a2), none] [vI 1] rfl ?_
            exact g_wkJ [false, false, false, false, false] rfl (hj123 1)
      ·
        refine g_swc ?_ ?_
        ·
          refine g_p q207 3 130 [some (vI a0), some (vL a1), none, some (vL a2), none] [vI (jcmp a1 a2)] rfl ?_
          refine g_jn (fun j138 => ∀ (x5 : Int), J (j138 x5) (fun (r : Int) => o = (some (vL r), s)) (Go X 2 207 138 [none, none, none, none, none] [vI x5] s o)) ?_ (fun j138 hj138 => ?_)
          ·
            intro x5
            refine g_cPL q207 rfl (g208 X x5 s) rfl rfl rfl rfl rfl (fun r6 => ?_)
            exact g_ret q207 rfl rfl rfl
          ·
            refine g_i1 q207 rfl rfl ?_ ?_
            ·
              refine g_p q207 1 138 [some (vI a0), some (vL a1), none, some (vL a2), none] [vI 0] rfl ?_
              exact g_wkJ [false, false, false, false, false] rfl (hj138 0)
            ·
              refine g_p q207 2 138 [some (vI a0), some (vL a1), none, some (vL a2), none] [vI 1] rfl ?_
              exact g_wkJ [false, false, false, false, false] rfl (hj138 1)
        ·
          refine g_swc ?_ ?_
          ·
            refine g_p q207 3 145 [some (vI a0), some (vL a1), none, some (vL a2), none] [vI (jcmp a1 a2)] rfl ?_
            refine g_jn (fun j153 => ∀ (x7 : Int), J (j153 x7) (fun (r : Int) => o = (some (vL r), s)) (Go X 2 207 153 [none, none, none, none, none] [vI x7] s o)) ?_ (fun j153 hj153 => ?_)
            ·
              intro x7
              refine g_cPL q207 rfl (g208 X x7 s) rfl rfl rfl rfl rfl (fun r8 => ?_)
              exact g_ret q207 rfl rfl rfl
            ·
              refine g_i1 q207 rfl rfl ?_ ?_
              ·
                refine g_p q207 1 153 [some (vI a0), some (vL a1), none, some (vL a2), none] [vI 0] rfl ?_
                exact g_wkJ [false, false, false, false, false] rfl (hj153 0)
              ·
                refine g_p q207 2 153 [some (vI a0), some (vL a1), none, some (vL a2), none] [vI 1] rfl ?_
                exact g_wkJ [false, false, false, false, false] rfl (hj153 1)
          ·
            refine g_swc ?_ ?_
            ·
              refine g_p q207 3 160 [some (vI a0), some (vL a1), none, some (vL a2), none] [vI (jcmp a1 a2)] rfl ?_
              refine g_jn (fun j168 => ∀ (x9 : Int), J (j168 x9) (fun (r : Int) => o = (some (vL r), s)) (Go X 2 207 168 [none, none, none, none, none] [vI x9] s o)) ?_ (fun j168 hj168 => ?_)
              ·
                intro x9
                refine g_cPL q207 rfl (g208 X x9 s) rfl rfl rfl rfl rfl (fun r10 => ?_)
                exact g_ret q207 rfl rfl rfl
              ·
                refine g_i1 q207 rfl rfl ?_ ?_
                ·
                  refine g_p q207 1 168 [some (vI a0), some (vL a1), none, some (vL a2), none] [vI 0] rfl ?_
                  exact g_wkJ [false, false, false, false, false] rfl (hj168 0)
                ·
                  refine g_p q207 2 168 [some (vI a0), some (vL a1), none, some (vL a2), none] [vI 1] rfl ?_
                  exact g_wkJ [false, false, false, false, false] rfl (hj168 1)
            ·
              refine g_swc ?_ ?_
              ·
                refine g_p q207 3 175 [some (vI a0), some (vL a1), none, some (vL a2), none] [vI (jcmp a1 a2)] rfl ?_
                refine g_jn (fun j183 => ∀ (x11 : Int), J (j183 x11) (fun (r : Int) => o = (some (vL r), s)) (Go X 2 207 183 [none, none, none, none, none] [vI x11] s o)) ?_ (fun j183 hj183 => ?_)
                ·
                  intro x11
                  refine g_cPL q207 rfl (g208 X x11 s) rfl rfl rfl rfl rfl (fun r12 => ?_)
                  exact g_ret q207 rfl rfl rfl
                ·
                  refine g_i1 q207 rfl rfl ?_ ?_
                  ·
                    refine g_p q207 1 183 [some (vI a0), some (vL a1), none, some (vL a2), none] [vI 0] rfl ?_
                    exact g_wkJ [false, false, false, false, false] rfl (hj183 0)
                  ·
                    refine g_p q207 2 183 [some (vI a0), some (vL a1), none, some (vL a2), none] [vI 1] rfl ?_
                    exact g_wkJ [false, false, false, false, false] rfl (hj183 1)
              ·
                refine g_swd rfl ?_
                refine g_swc ?_ ?_
                ·
                  refine g_p q207 3 190 [some (vI a0), some (vL a1), none, some (vL a2), none] [vL (kand a1 a2)] rfl ?_
                  refine g_topl (fun v13 => ?_)
                  exact g_ret q207 rfl rfl rfl
                ·
                  refine g_swd rfl ?_
                  refine g_swd rfl ?_
                  refine g_swc ?_ ?_
                  ·
                    refine g_p q207 3 83 [some (vI a0), some (vL a1), none, some (vL a2), none] [vL (kmul a1 a2)] rfl ?_
                    refine g_topl (fun v14 => ?_)
                    exact g_ret q207 rfl rfl rfl
                  ·
                    refine g_swc ?_ ?_
                    ·
                      refine g_p q207 3 87 [some (vI a0), some (vL a1), none, some (vL a2), none] [vI (jcmp a2 0)] rfl ?_
                      refine g_i1 q207 rfl rfl ?_ ?_
                      ·
                        refine g_p q207 2 96 [some (vI a0), some (vL a1), none, some (vL a2), none] [vL a2, vL a1] rfl ?_
                        refine g_ldiv q207 rfl ?_
                        refine g_topl (fun v15 => ?_)
                        exact g_ret q207 rfl rfl rfl
                      ·
                        refine g_p q207 2 97 [some (vI a0), some (vL a1), none, some (vL a2), none] [vL 0] rfl ?_
                        exact g_ret q207 rfl rfl rfl
                    ·
                      refine g_swc ?_ ?_
                      ·
                        refine g_p q207 3 101 [some (vI a0), some (vL a1), none, some (vL a2), none] [vI (jcmp a2 0)] rfl ?_
                        refine g_i1 q207 rfl rfl ?_ ?_
                        ·
                          refine g_p q207 2 110 [some (vI a0), some (vL a1), none, some (vL a2), none] [vL a2, vL a1] rfl ?_
                          refine g_lrem q207 rfl ?_
                          refine g_topl (fun v16 => ?_)
                          exact g_ret q207 rfl rfl rfl
                        ·
                          refine g_p q207 2 111 [some (vI a0), some (vL a1), none, some (vL a2), none] [vL 0] rfl ?_
                          exact g_ret q207 rfl rfl rfl
                      ·
                        refine g_swe ?_
                        refine g_p q207 3 194 [some (vI a0), some (vL a1), none, some (vL a2), none] [vL (kor a1 a2)] rfl ?_
                        refine g_topl (fun v17 => ?_)
                        exact g_ret q207 rfl rfl rfl
theorem q206 : am_cd 206 = am_c206 := rfl
def H206_a (X : X2) (y1 : Int) (y2 : Int) (o : Option (AV R2) × S2) (a : Int × Int × S2) : Prop := Go X 3 206 6 [some (oR 12 0), some (vI y1), none, some (vI y2), some (vI (a.1)), some (vI (a.2.1)), none, none] [] (a.2.2) o
def E206_a (X : X2) (y1 : Int) (y2 : Int) (o : Option (AV R2) × S2) : (S2) → Prop := (fun (r : S2) => Go X 3 206 153 [some (oR 12 0), none, none, none, none, none, none, none] [] r o)
theorem g206_a (X : X2) (y1 : Int) (y2 : Int) (x3 : Int) (x4 : Int) (s5 : S2) (o : Option (AV R2) × S2) : J (f206_a y1 y2 x3 x4 s5) (am_kx (H206_a X y1 y2 o) (E206_a X y1 y2 o)) (Go X 3 206 6 [some (oR 12 0), some (vI y1), none, some (vI y2), some (vI x3), some (vI x4), none, none] [] s5 o) := by
  unfold f206_a
  refine g_p q206 2 9 [some (oR 12 0), some (vI y1), none, some (vI y2), some (vI x3), some (vI x4), none, none] [vI y2, vI x4] rfl ?_
  refine g_i2 q206 rfl rfl ?_ ?_
  ·
    exact g_end (fun h => g_wk [true, false, false, false, false, false, false, false] rfl h)
  ·
    refine g_p q206 1 13 [some (oR 12 0), some (vI y1), none, some (vI y2), some (vI x3), some (vI x4), none, none] [oR 12 0] rfl ?_
    refine g_m (S := [aR 1580 0]) (some (aR 1580 0)) q206 rfl rfl rfl (fun _ => rfl) rfl ?_
    refine g_p q206 5 24 [some (oR 12 0), some (vI y1), none, some (vI y2), some (vI x3), some (vI x4), none, none] [vI (jadd (jmul 300 y1) x4), aR 1580 0] rfl ?_
    refine g_ld q206 rfl rfl rfl rfl rfl rfl (fun v6 => ?_)
    refine g_p q206 2 28 [some (oR 12 0), some (vI y1), none, some (vI y2), some (vI x3), some (vI x4), some (vI v6), none] [oR 12 0] rfl ?_
    refine g_m (S := [aR 1581 0]) (some (aR 1581 0)) q206 rfl rfl rfl (fun _ => rfl) rfl ?_
    refine g_p q206 5 39 [some (oR 12 0), some (vI y1), none, some (vI y2), some (vI x3), some (vI x4), some (vI v6), none] [vI (jadd (jmul 300 y1) x4), aR 1581 0] rfl ?_
    refine g_ld q206 rfl rfl rfl rfl rfl rfl (fun v7 => ?_)
    refine g_p q206 2 44 [some (oR 12 0), some (vI y1), none, some (vI y2), some (vI x3), some (vI x4), some (vI v6), some (vI v7)] [vI v6] rfl ?_
    refine g_jn (fun j53 => ∀ (_ : Unit), J (j53 ()) (am_kx (H206_a X y1 y2 o) (E206_a X y1 y2 o)) (Go X 3 206 53 [some (oR 12 0), some (vI y1), none, some (vI y2), some (vI x3), some (vI x4), some (vI v6), some (vI v7)] [] s5 o)) ?_ (fun j53 hj53 => ?_)
    ·
      intro _
      refine g_p q206 1 54 [some (oR 12 0), some (vI y1), none, some (vI y2), some (vI x3), some (vI x4), some (vI v6), some (vI v7)] [oR 12 0] rfl ?_
      refine g_m (S := [aR 1588 0]) (some (aR 1588 0)) q206 rfl rfl rfl (fun _ => rfl) rfl ?_
      refine g_p q206 2 61 [some (oR 12 0), some (vI y1), none, some (vI y2), some (vI x3), some (vI x4), some (vI v6), some (vI v7)] [vI v6, vI x3, aR 1588 0] rfl ?_
      refine g_jn (fun j77 => ∀ (x8 : Int), J (j77 x8) (am_kx (H206_a X y1 y2 o) (E206_a X y1 y2 o)) (Go X 3 206 77 [some (oR 12 0), some (vI y1), none, some (vI y2), some (vI x3), some (vI x4), none, none] [vL x8, vI x3, aR 1588 0] s5 o)) ?_ (fun j77 hj77 => ?_)
      ·
        intro x8
        refine g_stol q206 rfl rfl rfl rfl (fun s9 => ?_)
        refine g_inc (fun v10 => [some (oR 12 0), some (vI y1), none, some (vI y2), some (vI v10), some (vI x4), none, none]) q206 rfl rfl (fun _ => rfl) (fun v10 => ?_)
        refine g_p q206 1 147 [some (oR 12 0), some (vI y1), none, some (vI y2), some (vI v10), some (vI x4), none, none] [] rfl ?_
        refine g_inc (fun v11 => [some (oR 12 0), some (vI y1), none, some (vI y2), some (vI v10), some (vI v11), none, none]) q206 rfl rfl (fun _ => rfl) (fun v11 => ?_)
        refine g_p q206 1 6 [some (oR 12 0), some (vI y1), none, some (vI y2), some (vI v10), some (vI v11), none, none] [] rfl ?_
        exact g_end (fun h => g_wk [true, true, false, true, true, true, false, false] rfl h)
      ·
        refine g_i1 q206 rfl rfl ?_ ?_
        ·
          refine g_p q206 1 71 [some (oR 12 0), some (vI y1), none, some (vI y2), some (vI x3), some (vI x4), some (vI v6), some (vI v7)] [oR 12 0, vI x3, aR 1588 0] rfl ?_
          refine g_m (S := [aR 1587 0, vI x3, aR 1588 0]) (some (aR 1587 0)) q206 rfl rfl rfl (fun _ => rfl) rfl ?_
          refine g_p q206 1 76 [some (oR 12 0), some (vI y1), none, some (vI y2), some (vI x3), some (vI x4), some (vI v6), some (vI v7)] [vI v7, aR 1587 0, vI x3, aR 1588 0] rfl ?_
          refine g_ldl q206 rfl rfl rfl rfl rfl rfl (fun v12 => ?_)
          exact g_wkJ [true, true, false, true, true, true, false, false] rfl (hj77 v12)
        ·
          refine g_p q206 3 77 [some (oR 12 0), some (vI y1), none, some (vI y2), some (vI x3), some (vI x4), some (vI v6), some (vI v7)] [vL (ji2l v7), vI x3, aR 1588 0] rfl ?_
          exact g_wkJ [true, true, false, true, true, true, false, false] rfl (hj77 (ji2l v7))
    ·
      refine g_i1 q206 rfl rfl ?_ ?_
      ·
        exact g_wkJ [true, true, false, true, true, true, true, true] rfl (hj53 ())
      ·
        refine g_p q206 2 50 [some (oR 12 0), some (vI y1), none, some (vI y2), some (vI x3), some (vI x4), some (vI v6), some (vI v7)] [vI 1, vI v6] rfl ?_
        refine g_i2 q206 rfl rfl ?_ ?_
        ·
          refine g_p q206 2 88 [some (oR 12 0), some (vI y1), none, some (vI y2), some (vI x3), some (vI x4), some (vI v6), some (vI v7)] [vI 9, vI v6] rfl ?_
          refine g_i2 q206 rfl rfl ?_ ?_
          ·
            refine g_inc (fun v13 => [some (oR 12 0), some (vI y1), none, some (vI y2), some (vI v13), some (vI x4), some (vI v6), some (vI v7)]) q206 rfl rfl (fun _ => rfl) (fun v13 => ?_)
            refine g_p q206 1 118 [some (oR 12 0), some (vI y1), none, some (vI y2), some (vI v13), some (vI x4), some (vI v6), some (vI v7)] [oR 12 0] rfl ?_
            refine g_m (S := [aR 1588 0]) (some (aR 1588 0)) q206 rfl rfl rfl (fun _ => rfl) rfl ?_
            refine g_p q206 5 128 [some (oR 12 0), some (vI y1), none, some (vI y2), some (vI v13), some (vI x4), some (vI v6), some (vI v7)] [oR 12 0, vI v6, vI (jsub v13 1), aR 1588 0] rfl ?_
            refine g_m (S := [aR 1588 0, vI v6, vI (jsub v13 1), aR 1588 0]) (some (aR 1588 0)) q206 rfl rfl rfl (fun _ => rfl) rfl ?_
            refine g_p q206 3 135 [some (oR 12 0), some (vI y1), none, some (vI y2), some (vI v13), some (vI x4), some (vI v6), some (vI v7)] [vI (jsub v13 1), aR 1588 0, vI v6, vI (jsub v13 1), aR 1588 0] rfl ?_
            refine g_ldl q206 rfl rfl rfl rfl rfl rfl (fun v14 => ?_)
            refine g_p q206 1 137 [some (oR 12 0), some (vI y1), none, some (vI y2), some (vI v13), some (vI x4), some (vI v6), some (vI v7)] [oR 12 0, vL v14, vI v6, vI (jsub v13 1), aR 1588 0] rfl ?_
            refine g_m (S := [aR 1588 0, vL v14, vI v6, vI (jsub v13 1), aR 1588 0]) (some (aR 1588 0)) q206 rfl rfl rfl (fun _ => rfl) rfl ?_
            refine g_p q206 1 142 [some (oR 12 0), some (vI y1), none, some (vI y2), some (vI v13), some (vI x4), some (vI v6), some (vI v7)] [vI v13, aR 1588 0, vL v14, vI v6, vI (jsub v13 1), aR 1588 0] rfl ?_
            refine g_ldl q206 rfl rfl rfl rfl rfl rfl (fun v15 => ?_)
            refine g_cPL q206 rfl (g207 X v6 v14 v15 s5) rfl rfl rfl rfl rfl (fun r16 => ?_)
            refine g_stol q206 rfl rfl rfl rfl (fun s17 => ?_)
            refine g_inc (fun v18 => [some (oR 12 0), some (vI y1), none, some (vI y2), some (vI v13), some (vI v18), some (vI v6), some (vI v7)]) q206 rfl rfl (fun _ => rfl) (fun v18 => ?_)
            refine g_p q206 1 6 [some (oR 12 0), some (vI y1), none, some (vI y2), some (vI v13), some (vI v18), some (vI v6), some (vI v7)] [] rfl ?_
            exact g_end (fun h => g_wk [true, true, false, true, true, true, false, false] rfl h)
          ·
            refine g_p q206 1 92 [some (oR 12 0), some (vI y1), none, some (vI y2), some (vI x3), some (vI x4), some (vI v6), some (vI v7)] [oR 12 0] rfl ?_
            refine g_m (S := [aR 1588 0]) (some (aR 1588 0)) q206 rfl rfl rfl (fun _ => rfl) rfl ?_
            refine g_p q206 5 101 [some (oR 12 0), some (vI y1), none, some (vI y2), some (vI x3), some (vI x4), some (vI v6), some (vI v7)] [oR 12 0, vL 1, vI (jsub x3 1), aR 1588 0] rfl ?_
            refine g_m (S := [aR 1588 0, vL 1, vI (jsub x3 1), aR 1588 0]) (some (aR 1588 0)) q206 rfl rfl rfl (fun _ => rfl) rfl ?_
            refine g_p q206 3 108 [some (oR 12 0), some (vI y1), none, some (vI y2), some (vI x3), some (vI x4), some (vI v6), some (vI v7)] [vI (jsub x3 1), aR 1588 0, vL 1, vI (jsub x3 1), aR 1588 0] rfl ?_
            refine g_ldl q206 rfl rfl rfl rfl rfl rfl (fun v19 => ?_)
            refine g_p q206 1 110 [some (oR 12 0), some (vI y1), none, some (vI y2), some (vI x3), some (vI x4), some (vI v6), some (vI v7)] [vL (ksub 1 v19), vI (jsub x3 1), aR 1588 0] rfl ?_
            refine g_stol q206 rfl rfl rfl rfl (fun s20 => ?_)
            refine g_p q206 1 147 [some (oR 12 0), some (vI y1), none, some (vI y2), some (vI x3), some (vI x4), some (vI v6), some (vI v7)] [] rfl ?_
            refine g_inc (fun v21 => [some (oR 12 0), some (vI y1), none, some (vI y2), some (vI x3), some (vI v21), some (vI v6), some (vI v7)]) q206 rfl rfl (fun _ => rfl) (fun v21 => ?_)
            refine g_p q206 1 6 [some (oR 12 0), some (vI y1), none, some (vI y2), some (vI x3), some (vI v21), some (vI v6), some (vI v7)] [] rfl ?_
            exact g_end (fun h => g_wk [true, true, false, true, true, true, false, false] rfl h)
        ·
          exact g_wkJ [true, true, false, true, true, true, true, true] rfl (hj53 ())
theorem g206 (X : X2) (a1 : Int) (a2 : Int) (a3 : Int) (s : S2) (o : Option (AV R2) × S2) : J (f206 a1 a2 a3 s) (fun (r : Int × S2) => o = (some (vL r.1), r.2)) (Go X 3 206 0 (am_loc (am_nl 206) [oR 12 0, vI a1, vI a2, vI a3]) [] s o) := by
  show J _ _ (Go X 3 206 0 [some (oR 12 0), some (vI a1), some (vI a2), some (vI a3), none, none, none, none] [] s o)
  unfold f206
  refine g_p q206 4 6 [some (oR 12 0), some (vI a1), some (vI a2), some (vI a3), some (vI 0), some (vI a2), none, none] [] rfl ?_
  refine g_wkJ [true, true, false, true, true, true, false, false] (L0 := [some (oR 12 0), some (vI a1), none, some (vI a3), some (vI 0), some (vI a2), none, none]) rfl ?_
  refine g_itr (H206_a X a1 a3 o) (E206_a X a1 a3 o) (fun | (x3, x4, s5) => g206_a X a1 a3 x3 x4 s5 o) ?_
  intro s22
  show J _ _ (Go X 3 206 153 [some (oR 12 0), none, none, none, none, none, none, none] [] s22 o)
  refine g_p q206 1 154 [some (oR 12 0), none, none, none, none, none, none, none] [oR 12 0] rfl ?_
  refine g_m (S := [aR 1588 0]) (some (aR 1588 0)) q206 rfl rfl rfl (fun _ => rfl) rfl ?_
  refine g_p q206 1 158 [some (oR 12 0), none, none, none, none, none, none, none] [vI 0, aR 1588 0] rfl ?_
  refine g_ldl q206 rfl rfl rfl rfl rfl rfl (fun v23 => ?_)
  exact g_ret q206 rfl rfl rfl
theorem q205 : am_cd 205 = am_c205 := rfl
def H205_a (X : X2) (y3 : Int) (o : Option (AV R2) × S2) (a : Int × S2) : Prop := Go X 4 205 13 [some (oR 12 0), some (vI y3), some (vI (a.1))] [] (a.2) o
def E205_a (X : X2) (y3 : Int) (o : Option (AV R2) × S2) : (Int × S2) ⊕ (S2) → Prop := (am_kx (fun (r : Int × S2) => Go X 4 205 65 [some (oR 12 0), some (vI y3), some (vI (r.1))] [] (r.2) o) (fun (r : S2) => Go X 4 205 89 [none, none, none] [] r o))
theorem g205_a (X : X2) (y3 : Int) (x4 : Int) (s5 : S2) (o : Option (AV R2) × S2) : J (f205_a y3 x4 s5) (am_kx (H205_a X y3 o) (E205_a X y3 o)) (Go X 4 205 13 [some (oR 12 0), some (vI y3), some (vI x4)] [] s5 o) := by
  unfold f205_a
  refine g_p q205 5 19 [some (oR 12 0), some (vI y3), some (vI x4)] [oR 12 0, vI (jmul 12 y3), vI x4] rfl ?_
  refine g_m (S := [aR 1582 0, vI (jmul 12 y3), vI x4]) (some (aR 1582 0)) q205 rfl rfl rfl (fun _ => rfl) rfl ?_
  refine g_p q205 1 23 [some (oR 12 0), some (vI y3), some (vI x4)] [vI y3, aR 1582 0, vI (jmul 12 y3), vI x4] rfl ?_
  refine g_ld q205 rfl rfl rfl rfl rfl rfl (fun v6 => ?_)
  refine g_p q205 1 25 [some (oR 12 0), some (vI y3), some (vI x4)] [vI (jadd (jmul 12 y3) v6), vI x4] rfl ?_
  refine g_i2 q205 rfl rfl ?_ ?_
  ·
    exact g_end (fun h => g_wk [false, false, false] rfl h)
  ·
    refine g_p q205 1 29 [some (oR 12 0), some (vI y3), some (vI x4)] [oR 12 0] rfl ?_
    refine g_m (S := [aR 1584 0]) (some (aR 1584 0)) q205 rfl rfl rfl (fun _ => rfl) rfl ?_
    refine g_p q205 1 33 [some (oR 12 0), some (vI y3), some (vI x4)] [vI x4, aR 1584 0] rfl ?_
    refine g_ld q205 rfl rfl rfl rfl rfl rfl (fun v7 => ?_)
    refine g_p q205 1 35 [some (oR 12 0), some (vI y3), some (vI x4)] [oR 12 0, vI v7] rfl ?_
    refine g_m (S := [aR 1585 0, vI v7]) (some (aR 1585 0)) q205 rfl rfl rfl (fun _ => rfl) rfl ?_
    refine g_p q205 1 39 [some (oR 12 0), some (vI y3), some (vI x4)] [vI x4, aR 1585 0, vI v7] rfl ?_
    refine g_ld q205 rfl rfl rfl rfl rfl rfl (fun v8 => ?_)
    refine g_i2 q205 rfl rfl ?_ ?_
    ·
      exact g_end (fun h => g_wk [true, true, true] rfl h)
    ·
      refine g_p q205 3 46 [some (oR 12 0), some (vI y3), some (vI x4)] [oR 12 0, vI y3, oR 12 0] rfl ?_
      refine g_m (S := [aR 1584 0, vI y3, oR 12 0]) (some (aR 1584 0)) q205 rfl rfl rfl (fun _ => rfl) rfl ?_
      refine g_p q205 1 50 [some (oR 12 0), some (vI y3), some (vI x4)] [vI x4, aR 1584 0, vI y3, oR 12 0] rfl ?_
      refine g_ld q205 rfl rfl rfl rfl rfl rfl (fun v9 => ?_)
      refine g_p q205 1 52 [some (oR 12 0), some (vI y3), some (vI x4)] [oR 12 0, vI v9, vI y3, oR 12 0] rfl ?_
      refine g_m (S := [aR 1585 0, vI v9, vI y3, oR 12 0]) (some (aR 1585 0)) q205 rfl rfl rfl (fun _ => rfl) rfl ?_
      refine g_p q205 1 56 [some (oR 12 0), some (vI y3), some (vI x4)] [vI x4, aR 1585 0, vI v9, vI y3, oR 12 0] rfl ?_
      refine g_ld q205 rfl rfl rfl rfl rfl rfl (fun v10 => ?_)
      refine g_cRL q205 rfl (g206 X y3 v9 v10 s5) rfl rfl rfl rfl rfl (fun r11 s12 => ?_)
      refine g_p q205 2 62 [some (oR 12 0), some (vI y3), some (vI x4)] [vI (jcmp r11 1)] rfl ?_
      refine g_i1 q205 rfl rfl ?_ ?_
      ·
        refine g_inc (fun v13 => [some (oR 12 0), some (vI y3), some (vI v13)]) q205 rfl rfl (fun _ => rfl) (fun v13 => ?_)
        refine g_p q205 1 13 [some (oR 12 0), some (vI y3), some (vI v13)] [] rfl ?_
        exact g_end (fun h => g_wk [true, true, true] rfl h)
      ·
        exact g_end (fun h => g_wk [true, true, true] rfl h)
theorem g205 (X : X2) (s : S2) (o : Option (AV R2) × S2) : J (f205 s) (fun (r : Int × S2) => o = (some (vL r.1), r.2)) (Go X 4 205 0 (am_loc (am_nl 205) [oR 12 0]) [] s o) := by
  show J _ _ (Go X 4 205 0 [some (oR 12 0), none, none] [] s o)
  unfold f205
  refine g_p q205 1 1 [some (oR 12 0), none, none] [oR 12 0] rfl ?_
  refine g_m (S := [aR 1537 0]) (some (aR 1537 0)) q205 rfl rfl rfl (fun _ => rfl) rfl ?_
  refine g_p q205 1 6 [some (oR 12 0), none, none] [vI 10, aR 1537 0] rfl ?_
  refine g_ld q205 rfl rfl rfl rfl rfl rfl (fun v1 => ?_)
  refine g_p q205 4 12 [some (oR 12 0), some (vI v1), none] [vI (jmul 12 v1)] rfl ?_
  refine g_top (fun v2 => ?_)
  refine g_p q205 1 13 [some (oR 12 0), some (vI v1), some (vI v2)] [] rfl ?_
  refine g_wkJ [true, true, true] (L0 := [some (oR 12 0), some (vI v1), some (vI v2)]) rfl ?_
  refine g_itr (H205_a X v1 o) (E205_a X v1 o) (fun | (x4, s5) => g205_a X v1 x4 s5 o) ?_
  refine g_se ?_ ?_
  ·
    rintro ⟨z14, s15⟩
    show J _ _ (Go X 4 205 65 [some (oR 12 0), some (vI v1), some (vI z14)] [] s15 o)
    refine g_p q205 3 68 [some (oR 12 0), some (vI v1), some (vI z14)] [oR 12 0, vI v1, oR 12 0] rfl ?_
    refine g_m (S := [aR 1583 0, vI v1, oR 12 0]) (some (aR 1583 0)) q205 rfl rfl rfl (fun _ => rfl) rfl ?_
    refine g_p q205 1 72 [some (oR 12 0), some (vI v1), some (vI z14)] [vI z14, aR 1583 0, vI v1, oR 12 0] rfl ?_
    refine g_ld q205 rfl rfl rfl rfl rfl rfl (fun v17 => ?_)
    refine g_p q205 1 74 [some (oR 12 0), some (vI v1), some (vI z14)] [oR 12 0, vI v17, vI v1, oR 12 0] rfl ?_
    refine g_m (S := [aR 1584 0, vI v17, vI v1, oR 12 0]) (some (aR 1584 0)) q205 rfl rfl rfl (fun _ => rfl) rfl ?_
    refine g_p q205 1 78 [some (oR 12 0), some (vI v1), some (vI z14)] [vI z14, aR 1584 0, vI v17, vI v1, oR 12 0] rfl ?_
    refine g_ld q205 rfl rfl rfl rfl rfl rfl (fun v18 => ?_)
    refine g_cRL q205 rfl (g206 X v1 v17 v18 s15) rfl rfl rfl rfl rfl (fun r19 s20 => ?_)
    exact g_ret q205 rfl rfl rfl
  ·
    intro s16
    show J _ _ (Go X 4 205 89 [none, none, none] [] s16 o)
    refine g_p q205 1 90 [none, none, none] [vL 0] rfl ?_
    exact g_ret q205 rfl rfl rfl
theorem q200 : am_cd 200 = am_c200 := rfl
def H200_a (X : X2) (y1 : Int) (o : Option (AV R2) × S2) (a : Int × Int × Int × S2) : Prop := Go X 5 200 7 [some (oR 12 0), some (vI y1), some (vI (a.1)), some (vL (a.2.1)), none, some (vI (a.2.2.1)), none, none] [] (a.2.2.2) o
def E200_a (X : X2) (y1 : Int) (o : Option (AV R2) × S2) : (Int × S2) → Prop := (fun (r : Int × S2) => Go X 5 200 90 [none, none, some (vI (r.1)), none, none, none, none, none] [] (r.2) o)
theorem g200_a (X : X2) (y1 : Int) (x2 : Int) (x3 : Int) (x4 : Int) (s5 : S2) (o : Option (AV R2) × S2) : J (f200_a y1 x2 x3 x4 s5) (am_kx (H200_a X y1 o) (E200_a X y1 o)) (Go X 5 200 7 [some (oR 12 0), some (vI y1), some (vI x2), some (vL x3), none, some (vI x4), none, none] [] s5 o) := by
  unfold f200_a
  refine g_p q200 2 10 [some (oR 12 0), some (vI y1), some (vI x2), some (vL x3), none, some (vI x4), none, none] [oR 12 0, vI x4] rfl ?_
  refine g_m (S := [aR 1537 0, vI x4]) (some (aR 1537 0)) q200 rfl rfl rfl (fun _ => rfl) rfl ?_
  refine g_p q200 1 14 [some (oR 12 0), some (vI y1), some (vI x2), some (vL x3), none, some (vI x4), none, none] [vI 2, aR 1537 0, vI x4] rfl ?_
  refine g_ld q200 rfl rfl rfl rfl rfl rfl (fun v6 => ?_)
  refine g_i2 q200 rfl rfl ?_ ?_
  ·
    exact g_end (fun h => g_wk [false, false, true, false, false, false, false, false] rfl h)
  ·
    refine g_p q200 2 20 [some (oR 12 0), some (vI y1), some (vI x2), some (vL x3), none, some (vI x4), none, none] [vI y1, oR 12 0] rfl ?_
    refine g_cPI q200 rfl (g201 X y1 s5) rfl rfl rfl rfl rfl (fun r7 => ?_)
    refine g_i1 q200 rfl rfl ?_ ?_
    ·
      exact g_end (fun h => g_wk [false, false, true, false, false, false, false, false] rfl h)
    ·
      refine g_p q200 3 30 [some (oR 12 0), some (vI y1), some (vI x2), some (vL x3), none, some (vI x4), none, none] [vI y1, vI x4, oR 12 0] rfl ?_
      refine g_cV q200 rfl (g203 X x4 y1 s5) rfl rfl rfl rfl rfl (fun s8 => ?_)
      refine g_p q200 1 34 [some (oR 12 0), some (vI y1), some (vI x2), some (vL x3), none, some (vI x4), none, none] [oR 12 0] rfl ?_
      refine g_m (S := [aR 1537 0]) (some (aR 1537 0)) q200 rfl rfl rfl (fun _ => rfl) rfl ?_
      refine g_p q200 1 39 [some (oR 12 0), some (vI y1), some (vI x2), some (vL x3), none, some (vI x4), none, none] [vI 10, aR 1537 0] rfl ?_
      refine g_ld q200 rfl rfl rfl rfl rfl rfl (fun v9 => ?_)
      refine g_p q200 1 41 [some (oR 12 0), some (vI y1), some (vI x2), some (vL x3), none, some (vI x4), none, none] [vI (-1), vI v9] rfl ?_
      refine g_jn (fun j57 => ∀ (x10 : Int) (s11 : S2), J (j57 x10 s11) (am_kx (H200_a X y1 o) (E200_a X y1 o)) (Go X 5 200 57 [some (oR 12 0), some (vI y1), some (vI x2), some (vL x3), none, some (vI x4), none, none] [vL x10] s11 o)) ?_ (fun j57 hj57 => ?_)
      ·
        intro x10 s11
        refine g_p q200 4 63 [some (oR 12 0), some (vI y1), some (vI x2), some (vL x3), none, some (vI x4), some (vL x10), none] [vI (jcmp x10 x3)] rfl ?_
        refine g_i1 q200 rfl rfl ?_ ?_
        ·
          refine g_p q200 3 79 [some (oR 12 0), some (vI y1), some (vI x2), some (vL x3), none, some (vI x4), some (vL x10), none] [vI (jcmp x10 x3)] rfl ?_
          refine g_i1 q200 rfl rfl ?_ ?_
          ·
            refine g_inc (fun v12 => [some (oR 12 0), some (vI y1), some (vI x2), some (vL x3), none, some (vI v12), some (vL x10), none]) q200 rfl rfl (fun _ => rfl) (fun v12 => ?_)
            refine g_p q200 1 7 [some (oR 12 0), some (vI y1), some (vI x2), some (vL x3), none, some (vI v12), some (vL x10), none] [] rfl ?_
            exact g_end (fun h => g_wk [true, true, true, true, false, true, false, false] rfl h)
          ·
            refine g_p q200 2 84 [some (oR 12 0), some (vI y1), some (vI (-1)), some (vL x3), none, some (vI x4), some (vL x10), none] [] rfl ?_
            refine g_inc (fun v13 => [some (oR 12 0), some (vI y1), some (vI (-1)), some (vL x3), none, some (vI v13), some (vL x10), none]) q200 rfl rfl (fun _ => rfl) (fun v13 => ?_)
            refine g_p q200 1 7 [some (oR 12 0), some (vI y1), some (vI (-1)), some (vL x3), none, some (vI v13), some (vL x10), none] [] rfl ?_
            exact g_end (fun h => g_wk [true, true, true, true, false, true, false, false] rfl h)
        ·
          refine g_p q200 5 84 [some (oR 12 0), some (vI y1), some (vI x4), some (vL x10), none, some (vI x4), some (vL x10), none] [] rfl ?_
          refine g_inc (fun v14 => [some (oR 12 0), some (vI y1), some (vI x4), some (vL x10), none, some (vI v14), some (vL x10), none]) q200 rfl rfl (fun _ => rfl) (fun v14 => ?_)
          refine g_p q200 1 7 [some (oR 12 0), some (vI y1), some (vI x4), some (vL x10), none, some (vI v14), some (vL x10), none] [] rfl ?_
          exact g_end (fun h => g_wk [true, true, true, true, false, true, false, false] rfl h)
      ·
        refine g_i2 q200 rfl rfl ?_ ?_
        ·
          refine g_p q200 1 54 [some (oR 12 0), some (vI y1), some (vI x2), some (vL x3), none, some (vI x4), none, none] [oR 12 0] rfl ?_
          refine g_cRL q200 rfl (g205 X s8) rfl rfl rfl rfl rfl (fun r15 s16 => ?_)
          exact g_wkJ [true, true, true, true, false, true, false, false] rfl (hj57 r15 s16)
        ·
          refine g_p q200 1 45 [some (oR 12 0), some (vI y1), some (vI x2), some (vL x3), none, some (vI x4), none, none] [oR 12 0] rfl ?_
          refine g_m (S := [aR 1587 0]) (some (aR 1587 0)) q200 rfl rfl rfl (fun _ => rfl) rfl ?_
          refine g_p q200 1 49 [some (oR 12 0), some (vI y1), some (vI x2), some (vL x3), none, some (vI x4), none, none] [vI 4, aR 1587 0] rfl ?_
          refine g_ldl q200 rfl rfl rfl rfl rfl rfl (fun v17 => ?_)
          refine g_p q200 1 57 [some (oR 12 0), some (vI y1), some (vI x2), some (vL x3), none, some (vI x4), none, none] [vL v17] rfl ?_
          exact g_wkJ [true, true, true, true, false, true, false, false] rfl (hj57 v17 s8)
theorem g200 (X : X2) (a1 : Int) (s : S2) (o : Option (AV R2) × S2) : J (f200 a1 s) (fun (r : Int × S2) => o = (some (vI r.1), r.2)) (Go X 5 200 0 (am_loc (am_nl 200) [oR 12 0, vI a1]) [] s o) := by
  show J _ _ (Go X 5 200 0 [some (oR 12 0), some (vI a1), none, none, none, none, none, none] [] s o)
  unfold f200
  refine g_p q200 6 7 [some (oR 12 0), some (vI a1), some (vI (-1)), some (vL 0), none, some (vI 0), none, none] [] rfl ?_
  refine g_wkJ [true, true, true, true, false, true, false, false] (L0 := [some (oR 12 0), some (vI a1), some (vI (-1)), some (vL 0), none, some (vI 0), none, none]) rfl ?_
  refine g_itr (H200_a X a1 o) (E200_a X a1 o) (fun | (x2, x3, x4, s5) => g200_a X a1 x2 x3 x4 s5 o) ?_
  rintro ⟨z18, s19⟩
  show J _ _ (Go X 5 200 90 [none, none, some (vI z18), none, none, none, none, none] [] s19 o)
  refine g_p q200 1 91 [none, none, some (vI z18), none, none, none, none, none] [vI z18] rfl ?_
  exact g_ret q200 rfl rfl rfl
theorem q199 : am_cd 199 = am_c199 := rfl
def H199_a (X : X2) (y1 : Int) (o : Option (AV R2) × S2) (a : Int × Int × S2) : Prop := Go X 6 199 4 [some (oR 12 0), some (vI y1), some (vI (a.1)), some (vI (a.2.1))] [] (a.2.2) o
def E199_a (X : X2) (y1 : Int) (o : Option (AV R2) × S2) : (Int × S2) → Prop := (fun (r : Int × S2) => Go X 6 199 39 [none, none, some (vI (r.1)), none] [] (r.2) o)
theorem g199_a (X : X2) (y1 : Int) (x2 : Int) (x3 : Int) (s4 : S2) (o : Option (AV R2) × S2) : J (f199_a y1 x2 x3 s4) (am_kx (H199_a X y1 o) (E199_a X y1 o)) (Go X 6 199 4 [some (oR 12 0), some (vI y1), some (vI x2), some (vI x3)] [] s4 o) := by
  unfold f199_a
  refine g_p q199 2 6 [some (oR 12 0), some (vI y1), some (vI x2), some (vI x3)] [oR 12 0, vI x3] rfl ?_
  refine g_m (S := [aR 1537 0, vI x3]) (some (aR 1537 0)) q199 rfl rfl rfl (fun _ => rfl) rfl ?_
  refine g_p q199 1 10 [some (oR 12 0), some (vI y1), some (vI x2), some (vI x3)] [vI 3, aR 1537 0, vI x3] rfl ?_
  refine g_ld q199 rfl rfl rfl rfl rfl rfl (fun v5 => ?_)
  refine g_i2 q199 rfl rfl ?_ ?_
  ·
    exact g_end (fun h => g_wk [false, false, true, false] rfl h)
  ·
    refine g_p q199 3 17 [some (oR 12 0), some (vI y1), some (vI x2), some (vI x3)] [vI x3, oR 12 0, vI x2] rfl ?_
    refine g_cRI q199 rfl (g200 X x3 s4) rfl rfl rfl rfl rfl (fun r6 s7 => ?_)
    refine g_p q199 1 21 [some (oR 12 0), some (vI y1), some (vI x2), some (vI x3)] [vI y1, vI r6, vI x2] rfl ?_
    refine g_jn (fun j31 => ∀ (x8 : Int), J (j31 x8) (am_kx (H199_a X y1 o) (E199_a X y1 o)) (Go X 6 199 31 [some (oR 12 0), some (vI y1), none, some (vI x3)] [vI x8, vI x2] s7 o)) ?_ (fun j31 hj31 => ?_)
    ·
      intro x8
      refine g_p q199 1 32 [some (oR 12 0), some (vI y1), none, some (vI x3)] [vI (jor x2 x8)] rfl ?_
      refine g_top (fun v9 => ?_)
      refine g_p q199 1 33 [some (oR 12 0), some (vI y1), some (vI v9), some (vI x3)] [] rfl ?_
      refine g_inc (fun v10 => [some (oR 12 0), some (vI y1), some (vI v9), some (vI v10)]) q199 rfl rfl (fun _ => rfl) (fun v10 => ?_)
      refine g_p q199 1 4 [some (oR 12 0), some (vI y1), some (vI v9), some (vI v10)] [] rfl ?_
      exact g_end (fun h => g_wk [true, true, true, true] rfl h)
    ·
      refine g_i2 q199 rfl rfl ?_ ?_
      ·
        refine g_p q199 1 31 [some (oR 12 0), some (vI y1), some (vI x2), some (vI x3)] [vI 0, vI x2] rfl ?_
        exact g_wkJ [true, true, false, true] rfl (hj31 0)
      ·
        refine g_p q199 4 31 [some (oR 12 0), some (vI y1), some (vI x2), some (vI x3)] [vI (jshl 1 x3), vI x2] rfl ?_
        exact g_wkJ [true, true, false, true] rfl (hj31 (jshl 1 x3))
theorem g199 (X : X2) (a1 : Int) (s : S2) (o : Option (AV R2) × S2) : J (f199 a1 s) (fun (r : Int × S2) => o = (some (vI r.1), r.2)) (Go X 6 199 0 (am_loc (am_nl 199) [oR 12 0, vI a1]) [] s o) := by
  show J _ _ (Go X 6 199 0 [some (oR 12 0), some (vI a1), none, none] [] s o)
  unfold f199
  refine g_p q199 4 4 [some (oR 12 0), some (vI a1), some (vI 0), some (vI 0)] [] rfl ?_
  refine g_wkJ [true, true, true, true] (L0 := [some (oR 12 0), some (vI a1), some (vI 0), some (vI 0)]) rfl ?_
  refine g_itr (H199_a X a1 o) (E199_a X a1 o) (fun | (x2, x3, s4) => g199_a X a1 x2 x3 s4 o) ?_
  rintro ⟨z11, s12⟩
  show J _ _ (Go X 6 199 39 [none, none, some (vI z11), none] [] s12 o)
  refine g_p q199 1 40 [none, none, some (vI z11), none] [vI z11] rfl ?_
  exact g_ret q199 rfl rfl rfl
theorem q197 : am_cd 197 = am_c197 := rfl
def H197_a (X : X2) (y6 : Int) (s9 : S2) (o : Option (AV R2) × S2) (a : Int × Int) : Prop := Go X 7 197 65 [some (oR 12 0), some (vI y6), none, some (vI (a.1)), some (vI (a.2))] [] s9 o
def E197_a (X : X2) (y6 : Int) (s9 : S2) (o : Option (AV R2) × S2) : (Int) → Prop := (fun (r : Int) => Go X 7 197 104 [none, none, none, some (vI r), none] [] s9 o)
theorem g197_a (X : X2) (y6 : Int) (x7 : Int) (x8 : Int) (s9 : S2) (o : Option (AV R2) × S2) : J (f197_a y6 x7 x8 s9) (am_kx (H197_a X y6 s9 o) (E197_a X y6 s9 o)) (Go X 7 197 65 [some (oR 12 0), some (vI y6), none, some (vI x7), some (vI x8)] [] s9 o) := by
  unfold f197_a
  refine g_p q197 2 68 [some (oR 12 0), some (vI y6), none, some (vI x7), some (vI x8)] [oR 12 0, vI x8] rfl ?_
  refine g_m (S := [aR 1537 0, vI x8]) (some (aR 1537 0)) q197 rfl rfl rfl (fun _ => rfl) rfl ?_
  refine g_p q197 1 72 [some (oR 12 0), some (vI y6), none, some (vI x7), some (vI x8)] [vI 4, aR 1537 0, vI x8] rfl ?_
  refine g_ld q197 rfl rfl rfl rfl rfl rfl (fun v10 => ?_)
  refine g_i2 q197 rfl rfl ?_ ?_
  ·
    exact g_end (fun h => g_wk [false, false, false, true, false] rfl h)
  ·
    refine g_p q197 2 78 [some (oR 12 0), some (vI y6), none, some (vI x7), some (vI x8)] [oR 12 0, vI x7] rfl ?_
    refine g_m (S := [aR 1545 0, vI x7]) (some (aR 1545 0)) q197 rfl rfl rfl (fun _ => rfl) rfl ?_
    refine g_p q197 1 83 [some (oR 12 0), some (vI y6), none, some (vI x7), some (vI x8)] [vI x8, aR 1545 0, vI x7] rfl ?_
    refine g_ld q197 rfl rfl rfl rfl rfl rfl (fun v11 => ?_)
    refine g_p q197 1 85 [some (oR 12 0), some (vI y6), none, some (vI x7), some (vI x8)] [vI y6, vI v11, vI x7] rfl ?_
    refine g_jn (fun j96 => ∀ (x12 : Int), J (j96 x12) (am_kx (H197_a X y6 s9 o) (E197_a X y6 s9 o)) (Go X 7 197 96 [some (oR 12 0), some (vI y6), none, none, some (vI x8)] [vI x12, vI x7] s9 o)) ?_ (fun j96 hj96 => ?_)
    ·
      intro x12
      refine g_p q197 1 97 [some (oR 12 0), some (vI y6), none, none, some (vI x8)] [vI (jor x7 x12)] rfl ?_
      refine g_top (fun v13 => ?_)
      refine g_p q197 1 98 [some (oR 12 0), some (vI y6), none, some (vI v13), some (vI x8)] [] rfl ?_
      refine g_inc (fun v14 => [some (oR 12 0), some (vI y6), none, some (vI v13), some (vI v14)]) q197 rfl rfl (fun _ => rfl) (fun v14 => ?_)
      refine g_p q197 1 65 [some (oR 12 0), some (vI y6), none, some (vI v13), some (vI v14)] [] rfl ?_
      exact g_end (fun h => g_wk [true, true, false, true, true] rfl h)
    ·
      refine g_i2 q197 rfl rfl ?_ ?_
      ·
        refine g_p q197 1 96 [some (oR 12 0), some (vI y6), none, some (vI x7), some (vI x8)] [vI 0, vI x7] rfl ?_
        exact g_wkJ [true, true, false, false, true] rfl (hj96 0)
      ·
        refine g_p q197 4 96 [some (oR 12 0), some (vI y6), none, some (vI x7), some (vI x8)] [vI (jshl 1 x8), vI x7] rfl ?_
        exact g_wkJ [true, true, false, false, true] rfl (hj96 (jshl 1 x8))
theorem g197 (X : X2) (a1 : Int) (a2 : Int) (s : S2) (o : Option (AV R2) × S2) : J (f197 a1 a2 s) (fun (r : Int × S2) => o = (some (vI r.1), r.2)) (Go X 7 197 0 (am_loc (am_nl 197) [oR 12 0, vI a1, vI a2]) [] s o) := by
  show J _ _ (Go X 7 197 0 [some (oR 12 0), some (vI a1), some (vI a2), none, none] [] s o)
  unfold f197
  refine g_p q197 2 2 [some (oR 12 0), some (vI a1), some (vI a2), none, none] [vI a1, oR 12 0] rfl ?_
  refine g_cPI q197 rfl (g198 X a1 s) rfl rfl rfl rfl rfl (fun r1 => ?_)
  refine g_i1 q197 rfl rfl ?_ ?_
  ·
    refine g_p q197 1 11 [some (oR 12 0), some (vI a1), some (vI a2), none, none] [vI a2] rfl ?_
    refine g_sw q197 rfl ?_
    refine g_swc ?_ ?_
    ·
      refine g_p q197 1 41 [some (oR 12 0), some (vI a1), some (vI a2), none, none] [oR 12 0] rfl ?_
      refine g_m (S := [aR 1538 0]) (some (aR 1538 0)) q197 rfl rfl rfl (fun _ => rfl) rfl ?_
      refine g_p q197 1 45 [some (oR 12 0), some (vI a1), some (vI a2), none, none] [vI a1, aR 1538 0] rfl ?_
      refine g_ld q197 rfl rfl rfl rfl rfl rfl (fun v2 => ?_)
      exact g_ret q197 rfl rfl rfl
    ·
      refine g_swc ?_ ?_
      ·
        refine g_p q197 1 48 [some (oR 12 0), some (vI a1), some (vI a2), none, none] [oR 12 0] rfl ?_
        refine g_m (S := [aR 1539 0]) (some (aR 1539 0)) q197 rfl rfl rfl (fun _ => rfl) rfl ?_
        refine g_p q197 1 52 [some (oR 12 0), some (vI a1), some (vI a2), none, none] [vI a1, aR 1539 0] rfl ?_
        refine g_ld q197 rfl rfl rfl rfl rfl rfl (fun v3 => ?_)
        exact g_ret q197 rfl rfl rfl
      ·
        refine g_swc ?_ ?_
        ·
          refine g_p q197 2 56 [some (oR 12 0), some (vI a1), some (vI a2), none, none] [vI a1, oR 12 0] rfl ?_
          refine g_cRI q197 rfl (g199 X a1 s) rfl rfl rfl rfl rfl (fun r4 s5 => ?_)
          exact g_ret q197 rfl rfl rfl
        ·
          refine g_swc ?_ ?_
          ·
            refine g_p q197 4 65 [some (oR 12 0), some (vI a1), some (vI a2), some (vI 0), some (vI 0)] [] rfl ?_
            refine g_wkJ [true, true, false, true, true] (L0 := [some (oR 12 0), some (vI a1), none, some (vI 0), some (vI 0)]) rfl ?_
            refine g_itr (H197_a X a1 s o) (E197_a X a1 s o) (fun | (x7, x8) => g197_a X a1 x7 x8 s o) ?_
            intro z15
            show J _ _ (Go X 7 197 104 [none, none, none, some (vI z15), none] [] s o)
            refine g_p q197 1 105 [none, none, none, some (vI z15), none] [vI z15] rfl ?_
            exact g_ret q197 rfl rfl rfl
          ·
            refine g_swe ?_
            refine g_p q197 1 107 [some (oR 12 0), some (vI a1), some (vI a2), none, none] [vI (-1)] rfl ?_
            exact g_ret q197 rfl rfl rfl
  ·
    refine g_p q197 1 9 [some (oR 12 0), some (vI a1), some (vI a2), none, none] [vI (-1)] rfl ?_
    exact g_ret q197 rfl rfl rfl
theorem q210 : am_cd 210 = am_c210 := rfl
theorem g210 (X : X2) (a1 : Int) (s : S2) (o : Option (AV R2) × S2) : J (f210 a1 s) (fun (r : Int) => o = (some (vI r), s)) (Go X 2 210 0 (am_loc (am_nl 210) [oR 12 0, vI a1]) [] s o) := by
  show J _ _ (Go X 2 210 0 [some (oR 12 0), some (vI a1)] [] s o)
  unfold f210
  refine g_p q210 4 4 [some (oR 12 0), some (vI a1)] [oR 12 0, vL 0, vL (ji2l a1)] rfl ?_
  refine g_m (S := [aR 1537 0, vL 0, vL (ji2l a1)]) (some (aR 1537 0)) q210 rfl rfl rfl (fun _ => rfl) rfl ?_
  refine g_p q210 1 8 [some (oR 12 0), some (vI a1)] [vI 3, aR 1537 0, vL 0, vL (ji2l a1)] rfl ?_
  refine g_ld q210 rfl rfl rfl rfl rfl rfl (fun v1 => ?_)
  refine g_p q210 3 12 [some (oR 12 0), some (vI a1)] [vL (ji2l (jsub v1 1)), vL 0, vL (ji2l a1)] rfl ?_
  refine g_cPI q210 rfl (g173 X (ji2l a1) 0 (ji2l (jsub v1 1)) s) rfl rfl rfl rfl rfl (fun r2 => ?_)
  exact g_retb q210 rfl rfl
theorem q211 : am_cd 211 = am_c211 := rfl
def H211_a (X : X2) (y2 : Int) (s5 : S2) (o : Option (AV R2) × S2) (a : Int × Int) : Prop := Go X 1 211 9 [some (oR 12 0), some (vI y2), some (vI (a.1)), some (vI (a.2))] [] s5 o
def E211_a (X : X2) (y2 : Int) (s5 : S2) (o : Option (AV R2) × S2) : (Int) → Prop := (fun (r : Int) => Go X 1 211 48 [none, none, some (vI r), none] [] s5 o)
theorem g211_a (X : X2) (y2 : Int) (x3 : Int) (x4 : Int) (s5 : S2) (o : Option (AV R2) × S2) : J (f211_a y2 x3 x4 s5) (am_kx (H211_a X y2 s5 o) (E211_a X y2 s5 o)) (Go X 1 211 9 [some (oR 12 0), some (vI y2), some (vI x3), some (vI x4)] [] s5 o) := by
  unfold f211_a
  refine g_p q211 2 11 [some (oR 12 0), some (vI y2), some (vI x3), some (vI x4)] [oR 12 0, vI x4] rfl ?_
  refine g_m (S := [aR 1537 0, vI x4]) (some (aR 1537 0)) q211 rfl rfl rfl (fun _ => rfl) rfl ?_
  refine g_p q211 1 15 [some (oR 12 0), some (vI y2), some (vI x3), some (vI x4)] [vI 4, aR 1537 0, vI x4] rfl ?_
  refine g_ld q211 rfl rfl rfl rfl rfl rfl (fun v6 => ?_)
  refine g_i2 q211 rfl rfl ?_ ?_
  ·
    exact g_end (fun h => g_wk [false, false, true, false] rfl h)
  ·
    refine g_p q211 2 21 [some (oR 12 0), some (vI y2), some (vI x3), some (vI x4)] [oR 12 0, vI x3] rfl ?_
    refine g_m (S := [aR 1548 0, vI x3]) (some (aR 1548 0)) q211 rfl rfl rfl (fun _ => rfl) rfl ?_
    refine g_p q211 1 25 [some (oR 12 0), some (vI y2), some (vI x3), some (vI x4)] [vI x4, aR 1548 0, vI x3] rfl ?_
    refine g_ld q211 rfl rfl rfl rfl rfl rfl (fun v7 => ?_)
    refine g_p q211 1 27 [some (oR 12 0), some (vI y2), some (vI x3), some (vI x4)] [vI y2, vI v7, vI x3] rfl ?_
    refine g_jn (fun j40 => ∀ (x8 : Int), J (j40 x8) (am_kx (H211_a X y2 s5 o) (E211_a X y2 s5 o)) (Go X 1 211 40 [some (oR 12 0), some (vI y2), none, some (vI x4)] [vI x8, vI x3] s5 o)) ?_ (fun j40 hj40 => ?_)
    ·
      intro x8
      refine g_p q211 1 41 [some (oR 12 0), some (vI y2), none, some (vI x4)] [vI (jsub x3 x8)] rfl ?_
      refine g_top (fun v9 => ?_)
      refine g_p q211 1 42 [some (oR 12 0), some (vI y2), some (vI v9), some (vI x4)] [] rfl ?_
      refine g_inc (fun v10 => [some (oR 12 0), some (vI y2), some (vI v9), some (vI v10)]) q211 rfl rfl (fun _ => rfl) (fun v10 => ?_)
      refine g_p q211 1 9 [some (oR 12 0), some (vI y2), some (vI v9), some (vI v10)] [] rfl ?_
      exact g_end (fun h => g_wk [true, true, true, true] rfl h)
    ·
      refine g_i2 q211 rfl rfl ?_ ?_
      ·
        refine g_p q211 1 40 [some (oR 12 0), some (vI y2), some (vI x3), some (vI x4)] [vI 0, vI x3] rfl ?_
        exact g_wkJ [true, true, false, true] rfl (hj40 0)
      ·
        refine g_p q211 1 31 [some (oR 12 0), some (vI y2), some (vI x3), some (vI x4)] [oR 12 0, vI x3] rfl ?_
        refine g_m (S := [aR 1546 0, vI x3]) (some (aR 1546 0)) q211 rfl rfl rfl (fun _ => rfl) rfl ?_
        refine g_p q211 1 35 [some (oR 12 0), some (vI y2), some (vI x3), some (vI x4)] [vI x4, aR 1546 0, vI x3] rfl ?_
        refine g_ld q211 rfl rfl rfl rfl rfl rfl (fun v11 => ?_)
        refine g_p q211 1 40 [some (oR 12 0), some (vI y2), some (vI x3), some (vI x4)] [vI v11, vI x3] rfl ?_
        exact g_wkJ [true, true, false, true] rfl (hj40 v11)
theorem g211 (X : X2) (a1 : Int) (s : S2) (o : Option (AV R2) × S2) : J (f211 a1 s) (fun (r : Int) => o = (some (vI r), s)) (Go X 1 211 0 (am_loc (am_nl 211) [oR 12 0, vI a1]) [] s o) := by
  show J _ _ (Go X 1 211 0 [some (oR 12 0), some (vI a1), none, none] [] s o)
  unfold f211
  refine g_p q211 1 1 [some (oR 12 0), some (vI a1), none, none] [oR 12 0] rfl ?_
  refine g_m (S := [aR 1542 0]) (some (aR 1542 0)) q211 rfl rfl rfl (fun _ => rfl) rfl ?_
  refine g_p q211 1 5 [some (oR 12 0), some (vI a1), none, none] [vI a1, aR 1542 0] rfl ?_
  refine g_ld q211 rfl rfl rfl rfl rfl rfl (fun v1 => ?_)
  refine g_p q211 3 9 [some (oR 12 0), some (vI a1), some (vI v1), some (vI 0)] [] rfl ?_
  refine g_wkJ [true, true, true, true] (L0 := [some (oR 12 0), some (vI a1), some (vI v1), some (vI 0)]) rfl ?_
  refine g_itr (H211_a X a1 s o) (E211_a X a1 s o) (fun | (x3, x4) => g211_a X a1 x3 x4 s o) ?_
  intro z12
  show J _ _ (Go X 1 211 48 [none, none, some (vI z12), none] [] s o)
  refine g_p q211 1 49 [none, none, some (vI z12), none] [vI z12] rfl ?_
  exact g_ret q211 rfl rfl rfl
theorem q212 : am_cd 212 = am_c212 := rfl
def H212_a (X : X2) (y1 : Int) (s4 : S2) (o : Option (AV R2) × S2) (a : Int × Int) : Prop := Go X 1 212 4 [some (oR 12 0), some (vI y1), some (vI (a.1)), some (vI (a.2))] [] s4 o
def E212_a (X : X2) (y1 : Int) (s4 : S2) (o : Option (AV R2) × S2) : (Int) → Prop := (fun (r : Int) => Go X 1 212 40 [none, none, some (vI r), none] [] s4 o)
theorem g212_a (X : X2) (y1 : Int) (x2 : Int) (x3 : Int) (s4 : S2) (o : Option (AV R2) × S2) : J (f212_a y1 x2 x3 s4) (am_kx (H212_a X y1 s4 o) (E212_a X y1 s4 o)) (Go X 1 212 4 [some (oR 12 0), some (vI y1), some (vI x2), some (vI x3)] [] s4 o) := by
  unfold f212_a
  refine g_p q212 2 6 [some (oR 12 0), some (vI y1), some (vI x2), some (vI x3)] [oR 12 0, vI x3] rfl ?_
  refine g_m (S := [aR 1537 0, vI x3]) (some (aR 1537 0)) q212 rfl rfl rfl (fun _ => rfl) rfl ?_
  refine g_p q212 1 10 [some (oR 12 0), some (vI y1), some (vI x2), some (vI x3)] [vI 4, aR 1537 0, vI x3] rfl ?_
  refine g_ld q212 rfl rfl rfl rfl rfl rfl (fun v5 => ?_)
  refine g_i2 q212 rfl rfl ?_ ?_
  ·
    exact g_end (fun h => g_wk [false, false, true, false] rfl h)
  ·
    refine g_p q212 2 16 [some (oR 12 0), some (vI y1), some (vI x2), some (vI x3)] [oR 12 0, vI x2] rfl ?_
    refine g_m (S := [aR 1548 0, vI x2]) (some (aR 1548 0)) q212 rfl rfl rfl (fun _ => rfl) rfl ?_
    refine g_p q212 1 20 [some (oR 12 0), some (vI y1), some (vI x2), some (vI x3)] [vI x3, aR 1548 0, vI x2] rfl ?_
    refine g_ld q212 rfl rfl rfl rfl rfl rfl (fun v6 => ?_)
    refine g_p q212 1 22 [some (oR 12 0), some (vI y1), some (vI x2), some (vI x3)] [vI y1, vI v6, vI x2] rfl ?_
    refine g_jn (fun j32 => ∀ (x7 : Int), J (j32 x7) (am_kx (H212_a X y1 s4 o) (E212_a X y1 s4 o)) (Go X 1 212 32 [some (oR 12 0), some (vI y1), none, some (vI x3)] [vI x7, vI x2] s4 o)) ?_ (fun j32 hj32 => ?_)
    ·
      intro x7
      refine g_p q212 1 33 [some (oR 12 0), some (vI y1), none, some (vI x3)] [vI (jor x2 x7)] rfl ?_
      refine g_top (fun v8 => ?_)
      refine g_p q212 1 34 [some (oR 12 0), some (vI y1), some (vI v8), some (vI x3)] [] rfl ?_
      refine g_inc (fun v9 => [some (oR 12 0), some (vI y1), some (vI v8), some (vI v9)]) q212 rfl rfl (fun _ => rfl) (fun v9 => ?_)
      refine g_p q212 1 4 [some (oR 12 0), some (vI y1), some (vI v8), some (vI v9)] [] rfl ?_
      exact g_end (fun h => g_wk [true, true, true, true] rfl h)
    ·
      refine g_i2 q212 rfl rfl ?_ ?_
      ·
        refine g_p q212 1 32 [some (oR 12 0), some (vI y1), some (vI x2), some (vI x3)] [vI 0, vI x2] rfl ?_
        exact g_wkJ [true, true, false, true] rfl (hj32 0)
      ·
        refine g_p q212 4 32 [some (oR 12 0), some (vI y1), some (vI x2), some (vI x3)] [vI (jshl 1 x3), vI x2] rfl ?_
        exact g_wkJ [true, true, false, true] rfl (hj32 (jshl 1 x3))
theorem g212 (X : X2) (a1 : Int) (s : S2) (o : Option (AV R2) × S2) : J (f212 a1 s) (fun (r : Int) => o = (some (vI r), s)) (Go X 1 212 0 (am_loc (am_nl 212) [oR 12 0, vI a1]) [] s o) := by
  show J _ _ (Go X 1 212 0 [some (oR 12 0), some (vI a1), none, none] [] s o)
  unfold f212
  refine g_p q212 4 4 [some (oR 12 0), some (vI a1), some (vI 0), some (vI 0)] [] rfl ?_
  refine g_wkJ [true, true, true, true] (L0 := [some (oR 12 0), some (vI a1), some (vI 0), some (vI 0)]) rfl ?_
  refine g_itr (H212_a X a1 s o) (E212_a X a1 s o) (fun | (x2, x3) => g212_a X a1 x2 x3 s o) ?_
  intro z10
  show J _ _ (Go X 1 212 40 [none, none, some (vI z10), none] [] s o)
  refine g_p q212 1 41 [none, none, some (vI z10), none] [vI z10] rfl ?_
  exact g_ret q212 rfl rfl rfl
theorem q209 : am_cd 209 = am_c209 := rfl
theorem g209 (X : X2) (a1 : Int) (a2 : Int) (s : S2) (o : Option (AV R2) × S2) : J (f209 a1 a2 s) (fun (r : Int × S2) => o = (some (vI r.1), r.2)) (Go X 6 209 0 (am_loc (am_nl 209) [oR 12 0, vI a1, vI a2]) [] s o) := by
  show J _ _ (Go X 6 209 0 [some (oR 12 0), some (vI a1), some (vI a2)] [] s o)
  unfold f209
  refine g_p q209 2 2 [some (oR 12 0), some (vI a1), some (vI a2)] [vI a1, oR 12 0] rfl ?_
  refine g_cPI q209 rfl (g210 X a1 s) rfl rfl rfl rfl rfl (fun r1 => ?_)
  refine g_i1 q209 rfl rfl ?_ ?_
  ·
    refine g_p q209 1 12 [some (oR 12 0), some (vI a1), some (vI a2)] [vI a2] rfl ?_
    refine g_sw q209 rfl ?_
    refine g_swc ?_ ?_
    ·
      refine g_p q209 1 65 [some (oR 12 0), some (vI a1), some (vI a2)] [oR 12 0] rfl ?_
      refine g_m (S := [aR 1540 0]) (some (aR 1540 0)) q209 rfl rfl rfl (fun _ => rfl) rfl ?_
      refine g_p q209 1 69 [some (oR 12 0), some (vI a1), some (vI a2)] [vI a1, aR 1540 0] rfl ?_
      refine g_ld q209 rfl rfl rfl rfl rfl rfl (fun v2 => ?_)
      exact g_ret q209 rfl rfl rfl
    ·
      refine g_swc ?_ ?_
      ·
        refine g_p q209 1 72 [some (oR 12 0), some (vI a1), some (vI a2)] [oR 12 0] rfl ?_
        refine g_m (S := [aR 1541 0]) (some (aR 1541 0)) q209 rfl rfl rfl (fun _ => rfl) rfl ?_
        refine g_p q209 1 76 [some (oR 12 0), some (vI a1), some (vI a2)] [vI a1, aR 1541 0] rfl ?_
        refine g_ld q209 rfl rfl rfl rfl rfl rfl (fun v3 => ?_)
        exact g_ret q209 rfl rfl rfl
      ·
        refine g_swc ?_ ?_
        ·
          refine g_p q209 1 79 [some (oR 12 0), some (vI a1), some (vI a2)] [oR 12 0] rfl ?_
          refine g_m (S := [aR 1542 0]) (some (aR 1542 0)) q209 rfl rfl rfl (fun _ => rfl) rfl ?_
          refine g_p q209 1 83 [some (oR 12 0), some (vI a1), some (vI a2)] [vI a1, aR 1542 0] rfl ?_
          refine g_ld q209 rfl rfl rfl rfl rfl rfl (fun v4 => ?_)
          exact g_ret q209 rfl rfl rfl
        ·
          refine g_swc ?_ ?_
          ·
            refine g_p q209 1 86 [some (oR 12 0), some (vI a1), some (vI a2)] [oR 12 0] rfl ?_
            refine g_m (S := [aR 1543 0]) (some (aR 1543 0)) q209 rfl rfl rfl (fun _ => rfl) rfl ?_
            refine g_p q209 1 90 [some (oR 12 0), some (vI a1), some (vI a2)] [vI a1, aR 1543 0] rfl ?_
            refine g_ld q209 rfl rfl rfl rfl rfl rfl (fun v5 => ?_)
            exact g_ret q209 rfl rfl rfl
          ·
            refine g_swc ?_ ?_
            ·
              refine g_p q209 2 94 [some (oR 12 0), some (vI a1), some (vI a2)] [vI a1, oR 12 0] rfl ?_
              refine g_cPI q209 rfl (g211 X a1 s) rfl rfl rfl rfl rfl (fun r6 => ?_)
              exact g_ret q209 rfl rfl rfl
            ·
              refine g_swc ?_ ?_
              ·
                refine g_p q209 2 100 [some (oR 12 0), some (vI a1), some (vI a2)] [vI a1, oR 12 0] rfl ?_
                refine g_cPI q209 rfl (g212 X a1 s) rfl rfl rfl rfl rfl (fun r7 => ?_)
                exact g_ret q209 rfl rfl rfl
              ·
                refine g_swc ?_ ?_
                ·
                  refine g_p q209 2 106 [some (oR 12 0), some (vI a1), some (vI a2)] [vI a1, oR 12 0] rfl ?_
                  refine g_cRI q209 rfl (g200 X a1 s) rfl rfl rfl rfl rfl (fun r8 s9 => ?_)
                  exact g_ret q209 rfl rfl rfl
                ·
                  refine g_swc ?_ ?_
                  ·
                    refine g_p q209 1 111 [some (oR 12 0), some (vI a1), some (vI a2)] [oR 12 0] rfl ?_
                    refine g_m (S := [aR 1544 0]) (some (aR 1544 0)) q209 rfl rfl rfl (fun _ => rfl) rfl ?_
                    refine g_p q209 1 115 [some (oR 12 0), some (vI a1), some (vI a2)] [vI a1, aR 1544 0] rfl ?_
                    refine g_ld q209 rfl rfl rfl rfl rfl rfl (fun v10 => ?_)
                    exact g_ret q209 rfl rfl rfl
                  ·
                    refine g_swc ?_ ?_
                    ·
                      refine g_p q209 2 119 [some (oR 12 0), some (vI a1), some (vI a2)] [vI a1, oR 12 0] rfl ?_
                      refine g_cPI q209 rfl (g201 X a1 s) rfl rfl rfl rfl rfl (fun r11 => ?_)
                      refine g_i1 q209 rfl rfl ?_ ?_
                      ·
                        refine g_p q209 1 130 [some (oR 12 0), some (vI a1), some (vI a2)] [vI 0] rfl ?_
                        exact g_ret q209 rfl rfl rfl
                      ·
                        refine g_p q209 2 130 [some (oR 12 0), some (vI a1), some (vI a2)] [vI 1] rfl ?_
                        exact g_ret q209 rfl rfl rfl
                    ·
                      refine g_swe ?_
                      refine g_p q209 1 133 [some (oR 12 0), some (vI a1), some (vI a2)] [vI (-2)] rfl ?_
                      exact g_ret q209 rfl rfl rfl
  ·
    refine g_p q209 1 10 [some (oR 12 0), some (vI a1), some (vI a2)] [vI (-2)] rfl ?_
    exact g_ret q209 rfl rfl rfl
theorem q214 : am_cd 214 = am_c214 := rfl
theorem g214 (X : X2) (a1 : Int) (s : S2) (o : Option (AV R2) × S2) : J (f214 a1 s) (fun (r : Int) => o = (some (vI r), s)) (Go X 2 214 0 (am_loc (am_nl 214) [oR 12 0, vI a1]) [] s o) := by
  show J _ _ (Go X 2 214 0 [some (oR 12 0), some (vI a1)] [] s o)
  unfold f214
  refine g_p q214 4 4 [some (oR 12 0), some (vI a1)] [oR 12 0, vL 0, vL (ji2l a1)] rfl ?_
  refine g_m (S := [aR 1537 0, vL 0, vL (ji2l a1)]) (some (aR 1537 0)) q214 rfl rfl rfl (fun _ => rfl) rfl ?_
  refine g_p q214 1 8 [some (oR 12 0), some (vI a1)] [vI 4, aR 1537 0, vL 0, vL (ji2l a1)] rfl ?_
  refine g_ld q214 rfl rfl rfl rfl rfl rfl (fun v1 => ?_)
  refine g_p q214 3 12 [some (oR 12 0), some (vI a1)] [vL (ji2l (jsub v1 1)), vL 0, vL (ji2l a1)] rfl ?_
  refine g_cPI q214 rfl (g173 X (ji2l a1) 0 (ji2l (jsub v1 1)) s) rfl rfl rfl rfl rfl (fun r2 => ?_)
  exact g_retb q214 rfl rfl
theorem q213 : am_cd 213 = am_c213 := rfl
theorem g213 (X : X2) (a1 : Int) (a2 : Int) (s : S2) (o : Option (AV R2) × S2) : J (f213 a1 a2 s) (fun (r : Int) => o = (some (vI r), s)) (Go X 3 213 0 (am_loc (am_nl 213) [oR 12 0, vI a1, vI a2]) [] s o) := by
  show J _ _ (Go X 3 213 0 [some (oR 12 0), some (vI a1), some (vI a2)] [] s o)
  unfold f213
  refine g_p q213 2 2 [some (oR 12 0), some (vI a1), some (vI a2)] [vI a1, oR 12 0] rfl ?_
  refine g_cPI q213 rfl (g214 X a1 s) rfl rfl rfl rfl rfl (fun r1 => ?_)
  refine g_i1 q213 rfl rfl ?_ ?_
  ·
    refine g_p q213 1 12 [some (oR 12 0), some (vI a1), some (vI a2)] [vI a2] rfl ?_
    refine g_sw q213 rfl ?_
    refine g_swc ?_ ?_
    ·
      refine g_p q213 1 45 [some (oR 12 0), some (vI a1), some (vI a2)] [oR 12 0] rfl ?_
      refine g_m (S := [aR 1545 0]) (some (aR 1545 0)) q213 rfl rfl rfl (fun _ => rfl) rfl ?_
      refine g_p q213 1 49 [some (oR 12 0), some (vI a1), some (vI a2)] [vI a1, aR 1545 0] rfl ?_
      refine g_ld q213 rfl rfl rfl rfl rfl rfl (fun v2 => ?_)
      exact g_ret q213 rfl rfl rfl
    ·
      refine g_swc ?_ ?_
      ·
        refine g_p q213 1 52 [some (oR 12 0), some (vI a1), some (vI a2)] [oR 12 0] rfl ?_
        refine g_m (S := [aR 1546 0]) (some (aR 1546 0)) q213 rfl rfl rfl (fun _ => rfl) rfl ?_
        refine g_p q213 1 56 [some (oR 12 0), some (vI a1), some (vI a2)] [vI a1, aR 1546 0] rfl ?_
        refine g_ld q213 rfl rfl rfl rfl rfl rfl (fun v3 => ?_)
        exact g_ret q213 rfl rfl rfl
      ·
        refine g_swc ?_ ?_
        ·
          refine g_p q213 1 59 [some (oR 12 0), some (vI a1), some (vI a2)] [oR 12 0] rfl ?_
          refine g_m (S := [aR 1547 0]) (some (aR 1547 0)) q213 rfl rfl rfl (fun _ => rfl) rfl ?_
          refine g_p q213 1 63 [some (oR 12 0), some (vI a1), some (vI a2)] [vI a1, aR 1547 0] rfl ?_
          refine g_ld q213 rfl rfl rfl rfl rfl rfl (fun v4 => ?_)
          exact g_ret q213 rfl rfl rfl
        ·
          refine g_swc ?_ ?_
          ·
            refine g_p q213 1 66 [some (oR 12 0), some (vI a1), some (vI a2)] [oR 12 0] rfl ?_
            refine g_m (S := [aR 1548 0]) (some (aR 1548 0)) q213 rfl rfl rfl (fun _ => rfl) rfl ?_
            refine g_p q213 1 70 [some (oR 12 0), some (vI a1), some (vI a2)] [vI a1, aR 1548 0] rfl ?_
            refine g_ld q213 rfl rfl rfl rfl rfl rfl (fun v5 => ?_)
            exact g_ret q213 rfl rfl rfl
          ·
            refine g_swe ?_
            refine g_p q213 1 74 [some (oR 12 0), some (vI a1), some (vI a2)] [vI (-2)] rfl ?_
            exact g_ret q213 rfl rfl rfl
  ·
    refine g_p q213 1 10 [some (oR 12 0), some (vI a1), some (vI a2)] [vI (-2)] rfl ?_
    exact g_ret q213 rfl rfl rfl
theorem q217 : am_cd 217 = am_c217 := rfl
theorem g217 (X : X2) (a1 : Int) (s : S2) (o : Option (AV R2) × S2) : J (f217 a1 s) (fun (r : Int × S2) => o = (some (vI r.1), r.2)) (Go X 1 217 0 (am_loc (am_nl 217) [oR 12 0, vI a1]) [] s o) := by
  show J _ _ (Go X 1 217 0 [some (oR 12 0), some (vI a1), none] [] s o)
  unfold f217
  refine g_p q217 1 1 [some (oR 12 0), some (vI a1), none] [oR 12 0] rfl ?_
  refine g_get q217 rfl rfl rfl (fun _ => rfl) (fun v1 => ?_)
  refine g_jn (fun j20 => ∀ (x2 : Int), J (j20 x2) (fun (r : Int × S2) => o = (some (vI r.1), r.2)) (Go X 1 217 20 [some (oR 12 0), none, none] [vI x2] s o)) ?_ (fun j20 hj20 => ?_)
  ·
    intro x2
    refine g_p q217 2 22 [some (oR 12 0), none, some (vI x2)] [oR 12 0] rfl ?_
    refine g_m (S := [aR 1591 0]) (some (aR 1591 0)) q217 rfl rfl rfl (fun _ => rfl) rfl ?_
    refine g_p q217 1 26 [some (oR 12 0), none, some (vI x2)] [oR 12 0, aR 1591 0] rfl ?_
    refine g_get q217 rfl rfl rfl (fun _ => rfl) (fun v3 => ?_)
    refine g_p q217 1 30 [some (oR 12 0), none, some (vI x2)] [vI x2, vI v3, aR 1591 0] rfl ?_
    refine g_sto q217 rfl rfl rfl rfl (fun s4 => ?_)
    refine g_p q217 2 33 [some (oR 12 0), none, some (vI x2)] [oR 12 0, oR 12 0] rfl ?_
    refine g_get q217 rfl rfl rfl (fun _ => rfl) (fun v5 => ?_)
    refine g_p q217 2 38 [some (oR 12 0), none, some (vI x2)] [vI (jadd v5 1), oR 12 0] rfl ?_
    refine g_put q217 rfl rfl rfl (fun _ => rfl) (fun s6 => ?_)
    refine g_p q217 1 42 [some (oR 12 0), none, some (vI x2)] [vI x2] rfl ?_
    exact g_ret q217 rfl rfl rfl
  ·
    refine g_i1 q217 rfl rfl ?_ ?_
    ·
      refine g_p q217 1 20 [some (oR 12 0), some (vI a1), none] [vI a1] rfl ?_
      exact g_wkJ [true, false, false] rfl (hj20 a1)
    ·
      refine g_p q217 1 8 [some (oR 12 0), some (vI a1), none] [oR 12 0] rfl ?_
      refine g_m (S := [aR 1591 0]) (some (aR 1591 0)) q217 rfl rfl rfl (fun _ => rfl) rfl ?_
      refine g_p q217 1 12 [some (oR 12 0), some (vI a1), none] [oR 12 0, aR 1591 0] rfl ?_
      refine g_get q217 rfl rfl rfl (fun _ => rfl) (fun v7 => ?_)
      refine g_ld q217 rfl rfl rfl rfl rfl rfl (fun v8 => ?_)
      refine g_p q217 1 20 [some (oR 12 0), some (vI a1), none] [vI v8] rfl ?_
      exact g_wkJ [true, false, false] rfl (hj20 v8)
theorem q218 : am_cd 218 = am_c218 := rfl
def H218_a (X : X2) (y1 : Nat) (o : Option (AV R2) × S2) (a : Int × S2) : Prop := Go X 2 218 2 [some (oR 12 0), some (aR y1 0), some (vI (a.1))] [] (a.2) o
def E218_a (X : X2) (y1 : Nat) (o : Option (AV R2) × S2) : (S2) → Prop := (fun (r : S2) => Go X 2 218 24 [none, none, none] [] r o)
theorem g218_a (X : X2) (y1 : Nat) (x2 : Int) (s3 : S2) (hy1 : am_rw y1) (o : Option (AV R2) × S2) : J (f218_a y1 x2 s3) (am_kx (H218_a X y1 o) (E218_a X y1 o)) (Go X 2 218 2 [some (oR 12 0), some (aR y1 0), some (vI x2)] [] s3 o) := by
  unfold f218_a
  refine g_p q218 2 4 [some (oR 12 0), some (aR y1 0), some (vI x2)] [aR y1 0, vI x2] rfl ?_
  refine g_m (S := [vI ((am_ln y1 : Nat) : Int), vI x2]) (some (vI ((am_ln y1 : Nat) : Int))) q218 rfl rfl rfl (fun _ => m2_lenR hy1) rfl ?_
  refine g_i2 q218 rfl rfl ?_ ?_
  ·
    exact g_end (fun h => g_wk [false, false, false] rfl h)
  ·
    refine g_p q218 5 13 [some (oR 12 0), some (aR y1 0), some (vI x2)] [vI x2, aR y1 0, oR 12 0, vI x2, aR y1 0] rfl ?_
    refine g_ld q218 rfl rfl rfl hy1.1 rfl hy1.2 (fun v4 => ?_)
    refine g_cRI q218 rfl (g217 X v4 s3) rfl rfl rfl rfl rfl (fun r5 s6 => ?_)
    refine g_sto q218 rfl rfl rfl hy1.1 (fun s7 => ?_)
    refine g_inc (fun v8 => [some (oR 12 0), some (aR y1 0), some (vI v8)]) q218 rfl rfl (fun _ => rfl) (fun v8 => ?_)
    refine g_p q218 1 2 [some (oR 12 0), some (aR y1 0), some (vI v8)] [] rfl ?_
    exact g_end (fun h => g_wk [true, true, true] rfl h)
theorem g218 (X : X2) (a1 : Nat) (s : S2) (ha1 : am_rw a1) (o : Option (AV R2) × S2) : J (f218 a1 s) (fun (r : S2) => o = (none, r)) (Go X 2 218 0 (am_loc (am_nl 218) [oR 12 0, aR a1 0]) [] s o) := by
  show J _ _ (Go X 2 218 0 [some (oR 12 0), some (aR a1 0), none] [] s o)
  unfold f218
  refine g_p q218 2 2 [some (oR 12 0), some (aR a1 0), some (vI 0)] [] rfl ?_
  refine g_wkJ [true, true, true] (L0 := [some (oR 12 0), some (aR a1 0), some (vI 0)]) rfl ?_
  refine g_itr (H218_a X a1 o) (E218_a X a1 o) (fun | (x2, s3) => g218_a X a1 x2 s3 ha1 o) ?_
  intro s9
  show J _ _ (Go X 2 218 24 [none, none, none] [] s9 o)
  exact g_retV q218 rfl rfl
theorem q216 : am_cd 216 = am_c216 := rfl
theorem g216 (X : X2) (a1 : Int) (a2 : Int) (s : S2) (o : Option (AV R2) × S2) : J (f216 a1 a2 s) (fun (r : S2) => o = (none, r)) (Go X 3 216 0 (am_loc (am_nl 216) [oR 12 0, vI a1, vI a2]) [] s o) := by
  show J _ _ (Go X 3 216 0 [some (oR 12 0), some (vI a1), some (vI a2)] [] s o)
  unfold f216
  refine g_p q216 4 5 [some (oR 12 0), some (vI a1), some (vI a2)] [vI (jmul 36 a1), oR 12 0] rfl ?_
  refine g_put q216 rfl rfl rfl (fun _ => rfl) (fun s1 => ?_)
  refine g_p q216 2 10 [some (oR 12 0), some (vI a1), some (vI a2)] [vI a2, oR 12 0] rfl ?_
  refine g_putb q216 rfl rfl rfl (fun _ h => if_pos h) (fun s2 => ?_)
  refine g_p q216 1 14 [some (oR 12 0), some (vI a1), some (vI a2)] [oR 12 0] rfl ?_
  refine g_m (S := [aR 1537 0]) (some (aR 1537 0)) q216 rfl rfl rfl (fun _ => rfl) rfl ?_
  refine g_p q216 3 21 [some (oR 12 0), some (vI a1), some (vI a2)] [oR 12 0, oR 12 0, vI 6, aR 1537 0] rfl ?_
  refine g_m (S := [aR 1537 0, oR 12 0, vI 6, aR 1537 0]) (some (aR 1537 0)) q216 rfl rfl rfl (fun _ => rfl) rfl ?_
  refine g_p q216 1 26 [some (oR 12 0), some (vI a1), some (vI a2)] [vI 6, aR 1537 0, oR 12 0, vI 6, aR 1537 0] rfl ?_
  refine g_ld q216 rfl rfl rfl rfl rfl rfl (fun v3 => ?_)
  refine g_cRI q216 rfl (g217 X v3 s2) rfl rfl rfl rfl rfl (fun r4 s5 => ?_)
  refine g_sto q216 rfl rfl rfl rfl (fun s6 => ?_)
  refine g_p q216 1 32 [some (oR 12 0), some (vI a1), some (vI a2)] [oR 12 0] rfl ?_
  refine g_m (S := [aR 1537 0]) (some (aR 1537 0)) q216 rfl rfl rfl (fun _ => rfl) rfl ?_
  refine g_p q216 3 39 [some (oR 12 0), some (vI a1), some (vI a2)] [oR 12 0, oR 12 0, vI 7, aR 1537 0] rfl ?_
  refine g_m (S := [aR 1537 0, oR 12 0, vI 7, aR 1537 0]) (some (aR 1537 0)) q216 rfl rfl rfl (fun _ => rfl) rfl ?_
  refine g_p q216 1 44 [some (oR 12 0), some (vI a1), some (vI a2)] [vI 7, aR 1537 0, oR 12 0, vI 7, aR 1537 0] rfl ?_
  refine g_ld q216 rfl rfl rfl rfl rfl rfl (fun v7 => ?_)
  refine g_cRI q216 rfl (g217 X v7 s6) rfl rfl rfl rfl rfl (fun r8 s9 => ?_)
  refine g_sto q216 rfl rfl rfl rfl (fun s10 => ?_)
  refine g_p q216 2 51 [some (oR 12 0), some (vI a1), some (vI a2)] [oR 12 0, oR 12 0] rfl ?_
  refine g_m (S := [aR 1538 0, oR 12 0]) (some (aR 1538 0)) q216 rfl rfl rfl (fun _ => rfl) rfl ?_
  refine g_cV q216 rfl (g218 X 1538 s10 ⟨rfl, rfl⟩) rfl rfl rfl rfl rfl (fun s11 => ?_)
  refine g_p q216 2 59 [some (oR 12 0), some (vI a1), some (vI a2)] [oR 12 0, oR 12 0] rfl ?_
  refine g_m (S := [aR 1539 0, oR 12 0]) (some (aR 1539 0)) q216 rfl rfl rfl (fun _ => rfl) rfl ?_
  refine g_cV q216 rfl (g218 X 1539 s11 ⟨rfl, rfl⟩) rfl rfl rfl rfl rfl (fun s12 => ?_)
  refine g_p q216 2 67 [some (oR 12 0), some (vI a1), some (vI a2)] [oR 12 0, oR 12 0] rfl ?_
  refine g_m (S := [aR 1544 0, oR 12 0]) (some (aR 1544 0)) q216 rfl rfl rfl (fun _ => rfl) rfl ?_
  refine g_cV q216 rfl (g218 X 1544 s12 ⟨rfl, rfl⟩) rfl rfl rfl rfl rfl (fun s13 => ?_)
  refine g_p q216 2 75 [some (oR 12 0), some (vI a1), some (vI a2)] [oR 12 0, oR 12 0] rfl ?_
  refine g_m (S := [aR 1547 0, oR 12 0]) (some (aR 1547 0)) q216 rfl rfl rfl (fun _ => rfl) rfl ?_
  refine g_cV q216 rfl (g218 X 1547 s13 ⟨rfl, rfl⟩) rfl rfl rfl rfl rfl (fun s14 => ?_)
  refine g_p q216 2 83 [some (oR 12 0), some (vI a1), some (vI a2)] [oR 12 0, oR 12 0] rfl ?_
  refine g_m (S := [aR 1548 0, oR 12 0]) (some (aR 1548 0)) q216 rfl rfl rfl (fun _ => rfl) rfl ?_
  refine g_cV q216 rfl (g218 X 1548 s14 ⟨rfl, rfl⟩) rfl rfl rfl rfl rfl (fun s15 => ?_)
  exact g_retV q216 rfl rfl
theorem q215 : am_cd 215 = am_c215 := rfl
theorem g215 (X : X2) (s : S2) (o : Option (AV R2) × S2) : J (f215 s) (fun (r : Int × S2) => o = (some (vI r.1), r.2)) (Go X 4 215 0 (am_loc (am_nl 215) [oR 12 0]) [] s o) := by
  show J _ _ (Go X 4 215 0 [some (oR 12 0)] [] s o)
  unfold f215
  refine g_p q215 1 1 [some (oR 12 0)] [oR 12 0] rfl ?_
  refine g_get q215 rfl rfl rfl (fun _ => rfl) (fun v1 => ?_)
  refine g_i1 q215 rfl rfl ?_ ?_
  ·
    refine g_p q215 2 12 [some (oR 12 0)] [oR 12 0, oR 12 0] rfl ?_
    refine g_get q215 rfl rfl rfl (fun _ => rfl) (fun v2 => ?_)
    refine g_p q215 2 17 [some (oR 12 0)] [vI (jsub v2 1), oR 12 0] rfl ?_
    refine g_put q215 rfl rfl rfl (fun _ => rfl) (fun s3 => ?_)
    refine g_p q215 2 22 [some (oR 12 0)] [oR 12 0, oR 12 0] rfl ?_
    refine g_get q215 rfl rfl rfl (fun _ => rfl) (fun v4 => ?_)
    refine g_p q215 1 26 [some (oR 12 0)] [vI 1, vI v4, oR 12 0] rfl ?_
    refine g_cV q215 rfl (g216 X v4 1 s3) rfl rfl rfl rfl rfl (fun s5 => ?_)
    refine g_p q215 1 30 [some (oR 12 0)] [oR 12 0] rfl ?_
    refine g_get q215 rfl rfl rfl (fun _ => rfl) (fun v6 => ?_)
    exact g_ret q215 rfl rfl rfl
  ·
    refine g_p q215 1 9 [some (oR 12 0)] [vI (-2)] rfl ?_
    exact g_ret q215 rfl rfl rfl
theorem q220 : am_cd 220 = am_c220 := rfl
theorem g220 (X : X2) (s : S2) (o : Option (AV R2) × S2) : J (f220 s) (fun (r : Int) => o = (some (vI r), s)) (Go X 1 220 0 (am_loc (am_nl 220) [oR 12 0]) [] s o) := by
  show J _ _ (Go X 1 220 0 [some (oR 12 0)] [] s o)
  unfold f220
  refine g_p q220 1 1 [some (oR 12 0)] [oR 12 0] rfl ?_
  refine g_m (S := [aR 1537 0]) (some (aR 1537 0)) q220 rfl rfl rfl (fun _ => rfl) rfl ?_
  refine g_p q220 1 5 [some (oR 12 0)] [vI 0, aR 1537 0] rfl ?_
  refine g_ld q220 rfl rfl rfl rfl rfl rfl (fun v1 => ?_)
  refine g_i1 q220 rfl rfl ?_ ?_
  ·
    refine g_p q220 1 14 [some (oR 12 0)] [vI 0] rfl ?_
    exact g_ret q220 rfl rfl rfl
  ·
    refine g_p q220 2 14 [some (oR 12 0)] [vI 1] rfl ?_
    exact g_ret q220 rfl rfl rfl
theorem q221 : am_cd 221 = am_c221 := rfl
def H221_a (X : X2) (o : Option (AV R2) × S2) (a : Int × S2) : Prop := Go X 4 221 12 [some (oR 12 0), some (vI (a.1))] [] (a.2) o
def E221_a (X : X2) (o : Option (AV R2) × S2) : (S2) → Prop := (fun (r : S2) => Go X 4 221 40 [some (oR 12 0), none] [] r o)
theorem g221_a (X : X2) (x7 : Int) (s8 : S2) (o : Option (AV R2) × S2) : J (f221_a x7 s8) (am_kx (H221_a X o) (E221_a X o)) (Go X 4 221 12 [some (oR 12 0), some (vI x7)] [] s8 o) := by
  unfold f221_a
  refine g_p q221 2 16 [some (oR 12 0), some (vI x7)] [vI 720, vI x7] rfl ?_
  refine g_i2 q221 rfl rfl ?_ ?_
  ·
    exact g_end (fun h => g_wk [true, false] rfl h)
  ·
    refine g_p q221 1 20 [some (oR 12 0), some (vI x7)] [oR 12 0] rfl ?_
    refine g_m (S := [aR 1591 0]) (some (aR 1591 0)) q221 rfl rfl rfl (fun _ => rfl) rfl ?_
    refine g_p q221 4 28 [some (oR 12 0), some (vI x7)] [oR 12 0, vI (jsub x7 36), aR 1591 0] rfl ?_
    refine g_m (S := [aR 1591 0, vI (jsub x7 36), aR 1591 0]) (some (aR 1591 0)) q221 rfl rfl rfl (fun _ => rfl) rfl ?_
    refine g_p q221 1 32 [some (oR 12 0), some (vI x7)] [vI x7, aR 1591 0, vI (jsub x7 36), aR 1591 0] rfl ?_
    refine g_ld q221 rfl rfl rfl rfl rfl rfl (fun v9 => ?_)
    refine g_sto q221 rfl rfl rfl rfl (fun s10 => ?_)
    refine g_inc (fun v11 => [some (oR 12 0), some (vI v11)]) q221 rfl rfl (fun _ => rfl) (fun v11 => ?_)
    refine g_p q221 1 12 [some (oR 12 0), some (vI v11)] [] rfl ?_
    exact g_end (fun h => g_wk [true, true] rfl h)
theorem g221 (X : X2) (s : S2) (o : Option (AV R2) × S2) : J (f221 s) (fun (r : S2) => o = (none, r)) (Go X 4 221 0 (am_loc (am_nl 221) [oR 12 0]) [] s o) := by
  show J _ _ (Go X 4 221 0 [some (oR 12 0), none] [] s o)
  unfold f221
  refine g_p q221 1 1 [some (oR 12 0), none] [oR 12 0] rfl ?_
  refine g_get q221 rfl rfl rfl (fun _ => rfl) (fun v1 => ?_)
  refine g_p q221 1 6 [some (oR 12 0), none] [vI 20, vI v1] rfl ?_
  refine g_jn (fun j50 => ∀ (s2 : S2), J (j50 s2) (fun (r : S2) => o = (none, r)) (Go X 4 221 50 [some (oR 12 0), none] [] s2 o)) ?_ (fun j50 hj50 => ?_)
  ·
    intro s2
    refine g_p q221 2 52 [some (oR 12 0), none] [oR 12 0, oR 12 0] rfl ?_
    refine g_get q221 rfl rfl rfl (fun _ => rfl) (fun v3 => ?_)
    refine g_p q221 1 56 [some (oR 12 0), none] [vI 0, vI v3, oR 12 0] rfl ?_
    refine g_cV q221 rfl (g216 X v3 0 s2) rfl rfl rfl rfl rfl (fun s4 => ?_)
    refine g_p q221 2 61 [some (oR 12 0), none] [oR 12 0, oR 12 0] rfl ?_
    refine g_get q221 rfl rfl rfl (fun _ => rfl) (fun v5 => ?_)
    refine g_p q221 2 66 [some (oR 12 0), none] [vI (jadd v5 1), oR 12 0] rfl ?_
    refine g_put q221 rfl rfl rfl (fun _ => rfl) (fun s6 => ?_)
    exact g_retV q221 rfl rfl
  ·
    refine g_i2 q221 rfl rfl ?_ ?_
    ·
      exact g_wkJ [true, false] rfl (hj50 s)
    ·
      refine g_p q221 2 12 [some (oR 12 0), some (vI 36)] [] rfl ?_
      refine g_wkJ [true, true] (L0 := [some (oR 12 0), some (vI 36)]) rfl ?_
      refine g_itr (H221_a X o) (E221_a X o) (fun | (x7, s8) => g221_a X x7 s8 o) ?_
      intro s12
      show J _ _ (Go X 4 221 40 [some (oR 12 0), none] [] s12 o)
      refine g_p q221 2 42 [some (oR 12 0), none] [oR 12 0, oR 12 0] rfl ?_
      refine g_get q221 rfl rfl rfl (fun _ => rfl) (fun v13 => ?_)
      refine g_p q221 2 47 [some (oR 12 0), none] [vI (jsub v13 1), oR 12 0] rfl ?_
      refine g_put q221 rfl rfl rfl (fun _ => rfl) (fun s14 => ?_)
      exact g_wkJ [true, false] rfl (hj50 s14)
theorem q222 : am_cd 222 = am_c222 := rfl
def H222_a (X : X2) (y1 : Int) (o : Option (AV R2) × S2) (a : Int × S2) : Prop := Go X 6 222 4 [some (oR 12 0), some (vI y1), some (vI (a.1)), none] [] (a.2) o
def E222_a (X : X2) (y1 : Int) (o : Option (AV R2) × S2) : (S2) → Prop := (fun (r : S2) => Go X 6 222 31 [some (oR 12 0), some (vI y1), none, none] [] r o)
set_option maxRecDepth 20000 in
theorem g222_a (X : X2) (y1 : Int) (x2 : Int) (s3 : S2) (o : Option (AV R2) × S2) : J (f222_a x2 s3) (am_kx (H222_a X y1 o) (E222_a X y1 o)) (Go X 6 222 4 [some (oR 12 0), some (vI y1), some (vI x2), none] [] s3 o) := by
  unfold f222_a
  refine g_p q222 2 6 [some (oR 12 0), some (vI y1), some (vI x2), none] [oR 12 0, vI x2] rfl ?_
  refine g_m (S := [aR 1537 0, vI x2]) (some (aR 1537 0)) q222 rfl rfl rfl (fun _ => rfl) rfl ?_
  refine g_p q222 1 10 [some (oR 12 0), some (vI y1), some (vI x2), none] [vI 3, aR 1537 0, vI x2] rfl ?_
  refine g_ld q222 rfl rfl rfl rfl rfl rfl (fun v4 => ?_)
  refine g_i2 q222 rfl rfl ?_ ?_
  ·
    exact g_end (fun h => g_wk [true, true, false, false] rfl h)
  ·
    refine g_p q222 1 15 [some (oR 12 0), some (vI y1), some (vI x2), none] [oR 12 0] rfl ?_
    refine g_m (S := [aR 1590 0]) (some (aR 1590 0)) q222 rfl rfl rfl (fun _ => rfl) rfl ?_
    refine g_p q222 3 21 [some (oR 12 0), some (vI y1), some (vI x2), none] [vI x2, oR 12 0, vI x2, aR 1590 0] rfl ?_
    refine g_cRI q222 rfl (g200 X x2 s3) rfl rfl rfl rfl rfl (fun r5 s6 => ?_)
    refine g_sto q222 rfl rfl rfl rfl (fun s7 => ?_)
    refine g_inc (fun v8 => [some (oR 12 0), some (vI y1), some (vI v8), none]) q222 rfl rfl (fun _ => rfl) (fun v8 => ?_)
    refine g_p q222 1 4 [some (oR 12 0), some (vI y1), some (vI v8), none] [] rfl ?_
    exact g_end (fun h => g_wk [true, true, true, false] rfl h)
def H222_b (X : X2) (o : Option (AV R2) × S2) (a : Int × Int × S2) : Prop := Go X 6 222 33 [some (oR 12 0), some (vI (a.1)), some (vI (a.2.1)), none] [] (a.2.2) o
def E222_b (X : X2) (o : Option (AV R2) × S2) : (Int × S2) → Prop := (fun (r : Int × S2) => Go X 6 222 100 [some (oR 12 0), some (vI (r.1)), none, none] [] (r.2) o)
set_option maxRecDepth 20000 in
theorem g222_b (X : X2) (x10 : Int) (x11 : Int) (s12 : S2) (o : Option (AV R2) × S2) : J (f222_b x10 x11 s12) (am_kx (H222_b X o) (E222_b X o)) (Go X 6 222 33 [some (oR 12 0), some (vI x10), some (vI x11), none] [] s12 o) := by
  unfold f222_b
  refine g_p q222 2 35 [some (oR 12 0), some (vI x10), some (vI x11), none] [oR 12 0, vI x11] rfl ?_
  refine g_m (S := [aR 1537 0, vI x11]) (some (aR 1537 0)) q222 rfl rfl rfl (fun _ => rfl) rfl ?_
  refine g_p q222 1 39 [some (oR 12 0), some (vI x10), some (vI x11), none] [vI 3, aR 1537 0, vI x11] rfl ?_
  refine g_ld q222 rfl rfl rfl rfl rfl rfl (fun v13 => ?_)
  refine g_i2 q222 rfl rfl ?_ ?_
  ·
    exact g_end (fun h => g_wk [true, true, false, false] rfl h)
  ·
    refine g_p q222 1 44 [some (oR 12 0), some (vI x10), some (vI x11), none] [oR 12 0] rfl ?_
    refine g_m (S := [aR 1544 0]) (some (aR 1544 0)) q222 rfl rfl rfl (fun _ => rfl) rfl ?_
    refine g_p q222 2 49 [some (oR 12 0), some (vI x10), some (vI x11), none] [oR 12 0, vI x11, aR 1544 0] rfl ?_
    refine g_m (S := [aR 1590 0, vI x11, aR 1544 0]) (some (aR 1590 0)) q222 rfl rfl rfl (fun _ => rfl) rfl ?_
    refine g_p q222 1 53 [some (oR 12 0), some (vI x10), some (vI x11), none] [vI x11, aR 1590 0, vI x11, aR 1544 0] rfl ?_
    refine g_ld q222 rfl rfl rfl rfl rfl rfl (fun v14 => ?_)
    refine g_sto q222 rfl rfl rfl rfl (fun s15 => ?_)
    refine g_p q222 1 56 [some (oR 12 0), some (vI x10), some (vI x11), none] [oR 12 0] rfl ?_
    refine g_m (S := [aR 1590 0]) (some (aR 1590 0)) q222 rfl rfl rfl (fun _ => rfl) rfl ?_
    refine g_p q222 1 60 [some (oR 12 0), some (vI x10), some (vI x11), none] [vI x11, aR 1590 0] rfl ?_
    refine g_ld q222 rfl rfl rfl rfl rfl rfl (fun v16 => ?_)
    refine g_p q222 1 62 [some (oR 12 0), some (vI x10), some (vI x11), none] [vI (-1), vI v16] rfl ?_
    refine g_i2 q222 rfl rfl ?_ ?_
    ·
      refine g_inc (fun v17 => [some (oR 12 0), some (vI x10), some (vI v17), none]) q222 rfl rfl (fun _ => rfl) (fun v17 => ?_)
      refine g_p q222 1 33 [some (oR 12 0), some (vI x10), some (vI v17), none] [] rfl ?_
      exact g_end (fun h => g_wk [true, true, true, false] rfl h)
    ·
      refine g_p q222 1 66 [some (oR 12 0), some (vI x10), some (vI x11), none] [oR 12 0] rfl ?_
      refine g_m (S := [aR 1539 0]) (some (aR 1539 0)) q222 rfl rfl rfl (fun _ => rfl) rfl ?_
      refine g_p q222 1 70 [some (oR 12 0), some (vI x10), some (vI x11), none] [oR 12 0, aR 1539 0] rfl ?_
      refine g_m (S := [aR 1590 0, aR 1539 0]) (some (aR 1590 0)) q222 rfl rfl rfl (fun _ => rfl) rfl ?_
      refine g_p q222 1 74 [some (oR 12 0), some (vI x10), some (vI x11), none] [vI x11, aR 1590 0, aR 1539 0] rfl ?_
      refine g_ld q222 rfl rfl rfl rfl rfl rfl (fun v18 => ?_)
      refine g_p q222 1 76 [some (oR 12 0), some (vI x10), some (vI x11), none] [vI v18, aR 1539 0, vI v18, aR 1539 0] rfl ?_
      refine g_ld q222 rfl rfl rfl rfl rfl rfl (fun v19 => ?_)
      refine g_p q222 1 78 [some (oR 12 0), some (vI x10), some (vI x11), none] [oR 12 0, vI v19, vI v18, aR 1539 0] rfl ?_
      refine g_m (S := [aR 1542 0, vI v19, vI v18, aR 1539 0]) (some (aR 1542 0)) q222 rfl rfl rfl (fun _ => rfl) rfl ?_
      refine g_p q222 1 82 [some (oR 12 0), some (vI x10), some (vI x11), none] [vI x11, aR 1542 0, vI v19, vI v18, aR 1539 0] rfl ?_
      refine g_ld q222 rfl rfl rfl rfl rfl rfl (fun v20 => ?_)
      refine g_p q222 1 84 [some (oR 12 0), some (vI x10), some (vI x11), none] [vI (jadd v19 v20), vI v18, aR 1539 0] rfl ?_
      refine g_sto q222 rfl rfl rfl rfl (fun s21 => ?_)
      refine g_p q222 2 87 [some (oR 12 0), some (vI x10), some (vI x11), none] [oR 12 0, vI x10] rfl ?_
      refine g_m (S := [aR 1542 0, vI x10]) (some (aR 1542 0)) q222 rfl rfl rfl (fun _ => rfl) rfl ?_
      refine g_p q222 1 91 [some (oR 12 0), some (vI x10), some (vI x11), none] [vI x11, aR 1542 0, vI x10] rfl ?_
      refine g_ld q222 rfl rfl rfl rfl rfl rfl (fun v22 => ?_)
      refine g_p q222 1 93 [some (oR 12 0), some (vI x10), some (vI x11), none] [vI (jadd x10 v22)] rfl ?_
      refine g_top (fun v23 => ?_)
      refine g_p q222 1 94 [some (oR 12 0), some (vI v23), some (vI x11), none] [] rfl ?_
      refine g_inc (fun v24 => [some (oR 12 0), some (vI v23), some (vI v24), none]) q222 rfl rfl (fun _ => rfl) (fun v24 => ?_)
      refine g_p q222 1 33 [some (oR 12 0), some (vI v23), some (vI v24), none] [] rfl ?_
      exact g_end (fun h => g_wk [true, true, true, false] rfl h)
def H222_c (X : X2) (y29 : Int) (y30 : Int) (o : Option (AV R2) × S2) (a : Int × S2) : Prop := Go X 6 222 114 [some (oR 12 0), some (vI y29), some (vI y30), some (vI (a.1))] [] (a.2) o
def E222_c (X : X2) (y29 : Int) (y30 : Int) (o : Option (AV R2) × S2) : (S2) → Prop := (fun (r : S2) => Go X 6 222 231 [some (oR 12 0), some (vI y29), none, none] [] r o)
set_option maxRecDepth 20000 in
theorem g222_c (X : X2) (y29 : Int) (y30 : Int) (x31 : Int) (s32 : S2) (o : Option (AV R2) × S2) : J (f222_c y30 x31 s32) (am_kx (H222_c X y29 y30 o) (E222_c X y29 y30 o)) (Go X 6 222 114 [some (oR 12 0), some (vI y29), some (vI y30), some (vI x31)] [] s32 o) := by
  unfold f222_c
  refine g_p q222 2 116 [some (oR 12 0), some (vI y29), some (vI y30), some (vI x31)] [oR 12 0, vI x31] rfl ?_
  refine g_m (S := [aR 1537 0, vI x31]) (some (aR 1537 0)) q222 rfl rfl rfl (fun _ => rfl) rfl ?_
  refine g_p q222 1 120 [some (oR 12 0), some (vI y29), some (vI y30), some (vI x31)] [vI 4, aR 1537 0, vI x31] rfl ?_
  refine g_ld q222 rfl rfl rfl rfl rfl rfl (fun v33 => ?_)
  refine g_i2 q222 rfl rfl ?_ ?_
  ·
    exact g_end (fun h => g_wk [true, true, false, false] rfl h)
  ·
    refine g_p q222 1 125 [some (oR 12 0), some (vI y29), some (vI y30), some (vI x31)] [oR 12 0] rfl ?_
    refine g_m (S := [aR 1548 0]) (some (aR 1548 0)) q222 rfl rfl rfl (fun _ => rfl) rfl ?_
    refine g_p q222 1 129 [some (oR 12 0), some (vI y29), some (vI y30), some (vI x31)] [vI x31, aR 1548 0] rfl ?_
    refine g_ld q222 rfl rfl rfl rfl rfl rfl (fun v34 => ?_)
    refine g_p q222 1 131 [some (oR 12 0), some (vI y29), some (vI y30), some (vI x31)] [vI (-1), vI v34] rfl ?_
    refine g_jn (fun j177 => ∀ (_ : Unit), J (j177 ()) (am_kx (H222_c X y29 y30 o) (E222_c X y29 y30 o)) (Go X 6 222 177 [some (oR 12 0), some (vI y29), some (vI y30), some (vI x31)] [] s32 o)) ?_ (fun j177 hj177 => ?_)
    ·
      intro _
      refine g_p q222 1 178 [some (oR 12 0), some (vI y29), some (vI y30), some (vI x31)] [oR 12 0] rfl ?_
      refine g_m (S := [aR 1548 0]) (some (aR 1548 0)) q222 rfl rfl rfl (fun _ => rfl) rfl ?_
      refine g_p q222 1 182 [some (oR 12 0), some (vI y29), some (vI y30), some (vI x31)] [vI x31, aR 1548 0] rfl ?_
      refine g_ld q222 rfl rfl rfl rfl rfl rfl (fun v35 => ?_)
      refine g_p q222 1 184 [some (oR 12 0), some (vI y29), some (vI y30), some (vI x31)] [vI (-1), vI v35] rfl ?_
      refine g_i2 q222 rfl rfl ?_ ?_
      ·
        refine g_inc (fun v36 => [some (oR 12 0), some (vI y29), some (vI y30), some (vI v36)]) q222 rfl rfl (fun _ => rfl) (fun v36 => ?_)
        refine g_p q222 1 114 [some (oR 12 0), some (vI y29), some (vI y30), some (vI v36)] [] rfl ?_
        exact g_end (fun h => g_wk [true, true, true, true] rfl h)
      ·
        refine g_p q222 1 188 [some (oR 12 0), some (vI y29), some (vI y30), some (vI x31)] [oR 12 0] rfl ?_
        refine g_m (S := [aR 1547 0]) (some (aR 1547 0)) q222 rfl rfl rfl (fun _ => rfl) rfl ?_
        refine g_p q222 2 193 [some (oR 12 0), some (vI y29), some (vI y30), some (vI x31)] [oR 12 0, vI x31, aR 1547 0] rfl ?_
        refine g_m (S := [aR 1547 0, vI x31, aR 1547 0]) (some (aR 1547 0)) q222 rfl rfl rfl (fun _ => rfl) rfl ?_
        refine g_p q222 1 197 [some (oR 12 0), some (vI y29), some (vI y30), some (vI x31)] [vI x31, aR 1547 0, vI x31, aR 1547 0] rfl ?_
        refine g_ld q222 rfl rfl rfl rfl rfl rfl (fun v37 => ?_)
        refine g_p q222 1 199 [some (oR 12 0), some (vI y29), some (vI y30), some (vI x31)] [oR 12 0, vI v37, vI x31, aR 1547 0] rfl ?_
        refine g_m (S := [aR 1537 0, vI v37, vI x31, aR 1547 0]) (some (aR 1537 0)) q222 rfl rfl rfl (fun _ => rfl) rfl ?_
        refine g_p q222 1 203 [some (oR 12 0), some (vI y29), some (vI y30), some (vI x31)] [vI 0, aR 1537 0, vI v37, vI x31, aR 1547 0] rfl ?_
        refine g_ld q222 rfl rfl rfl rfl rfl rfl (fun v38 => ?_)
        refine g_jn (fun j224 => ∀ (x39 : Int), J (j224 x39) (am_kx (H222_c X y29 y30 o) (E222_c X y29 y30 o)) (Go X 6 222 224 [some (oR 12 0), some (vI y29), some (vI y30), some (vI x31)] [vI x39, vI x31, aR 1547 0] s32 o)) ?_ (fun j224 hj224 => ?_)
        ·
          intro x39
          refine g_sto q222 rfl rfl rfl rfl (fun s40 => ?_)
          refine g_inc (fun v41 => [some (oR 12 0), some (vI y29), some (vI y30), some (vI v41)]) q222 rfl rfl (fun _ => rfl) (fun v41 => ?_)
          refine g_p q222 1 114 [some (oR 12 0), some (vI y29), some (vI y30), some (vI v41)] [] rfl ?_
          exact g_end (fun h => g_wk [true, true, true, true] rfl h)
        ·
          refine g_i2 q222 rfl rfl ?_ ?_
          ·
            refine g_p q222 1 224 [some (oR 12 0), some (vI y29), some (vI y30), some (vI x31)] [vI 0, vI x31, aR 1547 0] rfl ?_
            exact g_wkJ [true, true, true, true] rfl (hj224 0)
          ·
            refine g_p q222 1 208 [some (oR 12 0), some (vI y29), some (vI y30), some (vI x31)] [oR 12 0, vI x31, aR 1547 0] rfl ?_
            refine g_m (S := [aR 1547 0, vI x31, aR 1547 0]) (some (aR 1547 0)) q222 rfl rfl rfl (fun _ => rfl) rfl ?_
            refine g_p q222 1 212 [some (oR 12 0), some (vI y29), some (vI y30), some (vI x31)] [vI x31, aR 1547 0, vI x31, aR 1547 0] rfl ?_
            refine g_ld q222 rfl rfl rfl rfl rfl rfl (fun v42 => ?_)
            refine g_p q222 1 214 [some (oR 12 0), some (vI y29), some (vI y30), some (vI x31)] [oR 12 0, vI v42, vI x31, aR 1547 0] rfl ?_
            refine g_m (S := [aR 1537 0, vI v42, vI x31, aR 1547 0]) (some (aR 1537 0)) q222 rfl rfl rfl (fun _ => rfl) rfl ?_
            refine g_p q222 1 218 [some (oR 12 0), some (vI y29), some (vI y30), some (vI x31)] [vI 0, aR 1537 0, vI v42, vI x31, aR 1547 0] rfl ?_
            refine g_ld q222 rfl rfl rfl rfl rfl rfl (fun v43 => ?_)
            refine g_p q222 2 224 [some (oR 12 0), some (vI y29), some (vI y30), some (vI x31)] [vI (jsub v42 v43), vI x31, aR 1547 0] rfl ?_
            exact g_wkJ [true, true, true, true] rfl (hj224 (jsub v42 v43))
    ·
      refine g_i2 q222 rfl rfl ?_ ?_
      ·
        exact g_wkJ [true, true, true, true] rfl (hj177 ())
      ·
        refine g_p q222 1 135 [some (oR 12 0), some (vI y29), some (vI y30), some (vI x31)] [vI y30] rfl ?_
        refine g_i1 q222 rfl rfl ?_ ?_
        ·
          exact g_wkJ [true, true, true, true] rfl (hj177 ())
        ·
          refine g_p q222 1 139 [some (oR 12 0), some (vI y29), some (vI y30), some (vI x31)] [oR 12 0] rfl ?_
          refine g_m (S := [aR 1547 0]) (some (aR 1547 0)) q222 rfl rfl rfl (fun _ => rfl) rfl ?_
          refine g_p q222 2 144 [some (oR 12 0), some (vI y29), some (vI y30), some (vI x31)] [oR 12 0, vI x31, aR 1547 0] rfl ?_
          refine g_m (S := [aR 1547 0, vI x31, aR 1547 0]) (some (aR 1547 0)) q222 rfl rfl rfl (fun _ => rfl) rfl ?_
          refine g_p q222 1 148 [some (oR 12 0), some (vI y29), some (vI y30), some (vI x31)] [vI x31, aR 1547 0, vI x31, aR 1547 0] rfl ?_
          refine g_ld q222 rfl rfl rfl rfl rfl rfl (fun v44 => ?_)
          refine g_p q222 1 150 [some (oR 12 0), some (vI y29), some (vI y30), some (vI x31)] [oR 12 0, vI v44, vI x31, aR 1547 0] rfl ?_
          refine g_m (S := [aR 1537 0, vI v44, vI x31, aR 1547 0]) (some (aR 1537 0)) q222 rfl rfl rfl (fun _ => rfl) rfl ?_
          refine g_p q222 1 154 [some (oR 12 0), some (vI y29), some (vI y30), some (vI x31)] [vI 1, aR 1537 0, vI v44, vI x31, aR 1547 0] rfl ?_
          refine g_ld q222 rfl rfl rfl rfl rfl rfl (fun v45 => ?_)
          refine g_jn (fun j173 => ∀ (x46 : Int), J (j173 x46) (am_kx (H222_c X y29 y30 o) (E222_c X y29 y30 o)) (Go X 6 222 173 [some (oR 12 0), some (vI y29), some (vI y30), some (vI x31)] [vI x46, vI x31, aR 1547 0] s32 o)) ?_ (fun j173 hj173 => ?_)
          ·
            intro x46
            refine g_sto q222 rfl rfl rfl rfl (fun s47 => ?_)
            refine g_p q222 1 225 [some (oR 12 0), some (vI y29), some (vI y30), some (vI x31)] [] rfl ?_
            refine g_inc (fun v48 => [some (oR 12 0), some (vI y29), some (vI y30), some (vI v48)]) q222 rfl rfl (fun _ => rfl) (fun v48 => ?_)
            refine g_p q222 1 114 [some (oR 12 0), some (vI y29), some (vI y30), some (vI v48)] [] rfl ?_
            exact g_end (fun h => g_wk [true, true, true, true] rfl h)
          ·
            refine g_i2 q222 rfl rfl ?_ ?_
            ·
              refine g_p q222 1 168 [some (oR 12 0), some (vI y29), some (vI y30), some (vI x31)] [oR 12 0, vI x31, aR 1547 0] rfl ?_
              refine g_m (S := [aR 1547 0, vI x31, aR 1547 0]) (some (aR 1547 0)) q222 rfl rfl rfl (fun _ => rfl) rfl ?_
              refine g_p q222 1 172 [some (oR 12 0), some (vI y29), some (vI y30), some (vI x31)] [vI x31, aR 1547 0, vI x31, aR 1547 0] rfl ?_
              refine g_ld q222 rfl rfl rfl rfl rfl rfl (fun v49 => ?_)
              exact g_wkJ [true, true, true, true] rfl (hj173 v49)
            ·
              refine g_p q222 1 159 [some (oR 12 0), some (vI y29), some (vI y30), some (vI x31)] [oR 12 0, vI x31, aR 1547 0] rfl ?_
              refine g_m (S := [aR 1537 0, vI x31, aR 1547 0]) (some (aR 1537 0)) q222 rfl rfl rfl (fun _ => rfl) rfl ?_
              refine g_p q222 1 163 [some (oR 12 0), some (vI y29), some (vI y30), some (vI x31)] [vI 1, aR 1537 0, vI x31, aR 1547 0] rfl ?_
              refine g_ld q222 rfl rfl rfl rfl rfl rfl (fun v50 => ?_)
              refine g_p q222 1 173 [some (oR 12 0), some (vI y29), some (vI y30), some (vI x31)] [vI v50, vI x31, aR 1547 0] rfl ?_
              exact g_wkJ [true, true, true, true] rfl (hj173 v50)
set_option maxRecDepth 20000 in
theorem g222 (X : X2) (s : S2) (o : Option (AV R2) × S2) : J (f222 s) (fun (r : Int × S2) => o = (some (vI r.1), r.2)) (Go X 6 222 0 (am_loc (am_nl 222) [oR 12 0]) [] s o) := by
  show J _ _ (Go X 6 222 0 [some (oR 12 0), none, none, none] [] s o)
  unfold f222
  refine g_p q222 4 4 [some (oR 12 0), some (vI 0), some (vI 0), none] [] rfl ?_
  refine g_wkJ [true, true, true, false] (L0 := [some (oR 12 0), some (vI 0), some (vI 0), none]) rfl ?_
  refine g_itr (H222_a X 0 o) (E222_a X 0 o) (fun | (x2, s3) => g222_a X 0 x2 s3 o) ?_
  intro s9
  show J _ _ (Go X 6 222 31 [some (oR 12 0), some (vI 0), none, none] [] s9 o)
  refine g_p q222 2 33 [some (oR 12 0), some (vI 0), some (vI 0), none] [] rfl ?_
  refine g_wkJ [true, true, true, false] (L0 := [some (oR 12 0), some (vI 0), some (vI 0), none]) rfl ?_
  refine g_itr (H222_b X o) (E222_b X o) (fun | (x10, x11, s12) => g222_b X x10 x11 s12 o) ?_
  rintro ⟨z25, s26⟩
  show J _ _ (Go X 6 222 100 [some (oR 12 0), some (vI z25), none, none] [] s26 o)
  refine g_p q222 2 102 [some (oR 12 0), some (vI z25), none, none] [oR 12 0, oR 12 0] rfl ?_
  refine g_m (S := [aR 1537 0, oR 12 0]) (some (aR 1537 0)) q222 rfl rfl rfl (fun _ => rfl) rfl ?_
  refine g_p q222 1 107 [some (oR 12 0), some (vI z25), none, none] [vI 7, aR 1537 0, oR 12 0] rfl ?_
  refine g_ld q222 rfl rfl rfl rfl rfl rfl (fun v27 => ?_)
  refine g_cPI q222 rfl (g204 X v27 s26) rfl rfl rfl rfl rfl (fun r28 => ?_)
  refine g_p q222 3 114 [some (oR 12 0), some (vI z25), some (vI r28), some (vI 0)] [] rfl ?_
  refine g_wkJ [true, true, true, true] (L0 := [some (oR 12 0), some (vI z25), some (vI r28), some (vI 0)]) rfl ?_
  refine g_itr (H222_c X z25 r28 o) (E222_c X z25 r28 o) (fun | (x31, s32) => g222_c X z25 r28 x31 s32 o) ?_
  intro s51
  show J _ _ (Go X 6 222 231 [some (oR 12 0), some (vI z25), none, none] [] s51 o)
  refine g_p q222 1 232 [some (oR 12 0), some (vI z25), none, none] [oR 12 0] rfl ?_
  refine g_m (S := [aR 1537 0]) (some (aR 1537 0)) q222 rfl rfl rfl (fun _ => rfl) rfl ?_
  refine g_p q222 2 238 [some (oR 12 0), some (vI z25), none, none] [vI 7, aR 1537 0, vI 7, aR 1537 0] rfl ?_
  refine g_ld q222 rfl rfl rfl rfl rfl rfl (fun v52 => ?_)
  refine g_p q222 2 241 [some (oR 12 0), some (vI z25), none, none] [vI (jadd v52 1), vI 7, aR 1537 0] rfl ?_
  refine g_sto q222 rfl rfl rfl rfl (fun s53 => ?_)
  refine g_p q222 1 243 [some (oR 12 0), some (vI z25), none, none] [vI z25] rfl ?_
  exact g_ret q222 rfl rfl rfl
theorem q219 : am_cd 219 = am_c219 := rfl
theorem g219 (X : X2) (s : S2) (o : Option (AV R2) × S2) : J (f219 s) (fun (r : Int × S2) => o = (some (vI r.1), r.2)) (Go X 7 219 0 (am_loc (am_nl 219) [oR 12 0]) [] s o) := by
  show J _ _ (Go X 7 219 0 [some (oR 12 0)] [] s o)
  unfold f219
  refine g_p q219 1 1 [some (oR 12 0)] [oR 12 0] rfl ?_
  refine g_cPI q219 rfl (g220 X s) rfl rfl rfl rfl rfl (fun r1 => ?_)
  refine g_i1 q219 rfl rfl ?_ ?_
  ·
    refine g_p q219 1 21 [some (oR 12 0)] [vI (-1)] rfl ?_
    exact g_ret q219 rfl rfl rfl
  ·
    refine g_p q219 1 8 [some (oR 12 0)] [oR 12 0] rfl ?_
    refine g_m (S := [aR 1537 0]) (some (aR 1537 0)) q219 rfl rfl rfl (fun _ => rfl) rfl ?_
    refine g_p q219 1 13 [some (oR 12 0)] [vI 7, aR 1537 0] rfl ?_
    refine g_ld q219 rfl rfl rfl rfl rfl rfl (fun v2 => ?_)
    refine g_p q219 1 17 [some (oR 12 0)] [vI 999, vI v2] rfl ?_
    refine g_i2 q219 rfl rfl ?_ ?_
    ·
      refine g_p q219 1 23 [some (oR 12 0)] [oR 12 0] rfl ?_
      refine g_cV q219 rfl (g221 X s) rfl rfl rfl rfl rfl (fun s3 => ?_)
      refine g_p q219 1 27 [some (oR 12 0)] [oR 12 0] rfl ?_
      refine g_cRI q219 rfl (g222 X s3) rfl rfl rfl rfl rfl (fun r4 s5 => ?_)
      exact g_ret q219 rfl rfl rfl
    ·
      refine g_p q219 1 21 [some (oR 12 0)] [vI (-1)] rfl ?_
      exact g_ret q219 rfl rfl rfl
theorem q224 : am_cd 224 = am_c224 := rfl
theorem g224 (X : X2) (a1 : Int) (a2 : Int) (s : S2) (o : Option (AV R2) × S2) : J (f224 a1 a2 s) (fun (r : Int) => o = (some (vI r), s)) (Go X 3 224 0 (am_loc (am_nl 224) [oR 12 0, vI a1, vI a2]) [] s o) := by
  show J _ _ (Go X 3 224 0 [some (oR 12 0), some (vI a1), some (vI a2)] [] s o)
  unfold f224
  refine g_p q224 1 1 [some (oR 12 0), some (vI a1), some (vI a2)] [oR 12 0] rfl ?_
  refine g_m (S := [aR 1548 0]) (some (aR 1548 0)) q224 rfl rfl rfl (fun _ => rfl) rfl ?_
  refine g_p q224 1 5 [some (oR 12 0), some (vI a1), some (vI a2)] [vI a1, aR 1548 0] rfl ?_
  refine g_ld q224 rfl rfl rfl rfl rfl rfl (fun v1 => ?_)
  refine g_p q224 1 7 [some (oR 12 0), some (vI a1), some (vI a2)] [vI (-1), vI v1] rfl ?_
  refine g_i2 q224 rfl rfl ?_ ?_
  ·
    refine g_p q224 1 52 [some (oR 12 0), some (vI a1), some (vI a2)] [vI 0] rfl ?_
    exact g_ret q224 rfl rfl rfl
  ·
    refine g_p q224 2 12 [some (oR 12 0), some (vI a1), some (vI a2)] [vI a2, oR 12 0] rfl ?_
    refine g_cPI q224 rfl (g201 X a2 s) rfl rfl rfl rfl rfl (fun r2 => ?_)
    refine g_i1 q224 rfl rfl ?_ ?_
    ·
      refine g_p q224 1 52 [some (oR 12 0), some (vI a1), some (vI a2)] [vI 0] rfl ?_
      exact g_ret q224 rfl rfl rfl
    ·
      refine g_p q224 2 20 [some (oR 12 0), some (vI a1), some (vI a2)] [vI a2, oR 12 0] rfl ?_
      refine g_cPI q224 rfl (g211 X a2 s) rfl rfl rfl rfl rfl (fun r3 => ?_)
      refine g_p q224 1 24 [some (oR 12 0), some (vI a1), some (vI a2)] [oR 12 0, vI r3] rfl ?_
      refine g_m (S := [aR 1546 0, vI r3]) (some (aR 1546 0)) q224 rfl rfl rfl (fun _ => rfl) rfl ?_
      refine g_p q224 1 28 [some (oR 12 0), some (vI a1), some (vI a2)] [vI a1, aR 1546 0, vI r3] rfl ?_
      refine g_ld q224 rfl rfl rfl rfl rfl rfl (fun v4 => ?_)
      refine g_i2 q224 rfl rfl ?_ ?_
      ·
        refine g_p q224 1 52 [some (oR 12 0), some (vI a1), some (vI a2)] [vI 0] rfl ?_
        exact g_ret q224 rfl rfl rfl
      ·
        refine g_p q224 1 33 [some (oR 12 0), some (vI a1), some (vI a2)] [oR 12 0] rfl ?_
        refine g_m (S := [aR 1538 0]) (some (aR 1538 0)) q224 rfl rfl rfl (fun _ => rfl) rfl ?_
        refine g_p q224 1 37 [some (oR 12 0), some (vI a1), some (vI a2)] [oR 12 0, aR 1538 0] rfl ?_
        refine g_m (S := [aR 1545 0, aR 1538 0]) (some (aR 1545 0)) q224 rfl rfl rfl (fun _ => rfl) rfl ?_
        refine g_p q224 1 41 [some (oR 12 0), some (vI a1), some (vI a2)] [vI a1, aR 1545 0, aR 1538 0] rfl ?_
        refine g_ld q224 rfl rfl rfl rfl rfl rfl (fun v5 => ?_)
        refine g_ld q224 rfl rfl rfl rfl rfl rfl (fun v6 => ?_)
        refine g_p q224 1 44 [some (oR 12 0), some (vI a1), some (vI a2)] [vI 2, vI v6] rfl ?_
        refine g_i2 q224 rfl rfl ?_ ?_
        ·
          refine g_p q224 1 52 [some (oR 12 0), some (vI a1), some (vI a2)] [vI 0] rfl ?_
          exact g_ret q224 rfl rfl rfl
        ·
          refine g_p q224 2 52 [some (oR 12 0), some (vI a1), some (vI a2)] [vI 1] rfl ?_
          exact g_ret q224 rfl rfl rfl
theorem q225 : am_cd 225 = am_c225 := rfl
theorem g225 (X : X2) (a1 : Int) (a2 : Int) (s : S2) (o : Option (AV R2) × S2) : J (f225 a1 a2 s) (fun (r : S2) => o = (none, r)) (Go X 1 225 0 (am_loc (am_nl 225) [oR 12 0, vI a1, vI a2]) [] s o) := by
  show J _ _ (Go X 1 225 0 [some (oR 12 0), some (vI a1), some (vI a2)] [] s o)
  unfold f225
  refine g_p q225 1 1 [some (oR 12 0), some (vI a1), some (vI a2)] [oR 12 0] rfl ?_
  refine g_m (S := [aR 1548 0]) (some (aR 1548 0)) q225 rfl rfl rfl (fun _ => rfl) rfl ?_
  refine g_p q225 2 6 [some (oR 12 0), some (vI a1), some (vI a2)] [vI a2, vI a1, aR 1548 0] rfl ?_
  refine g_sto q225 rfl rfl rfl rfl (fun s1 => ?_)
  refine g_p q225 1 8 [some (oR 12 0), some (vI a1), some (vI a2)] [oR 12 0] rfl ?_
  refine g_m (S := [aR 1538 0]) (some (aR 1538 0)) q225 rfl rfl rfl (fun _ => rfl) rfl ?_
  refine g_p q225 1 12 [some (oR 12 0), some (vI a1), some (vI a2)] [oR 12 0, aR 1538 0] rfl ?_
  refine g_m (S := [aR 1545 0, aR 1538 0]) (some (aR 1545 0)) q225 rfl rfl rfl (fun _ => rfl) rfl ?_
  refine g_p q225 1 16 [some (oR 12 0), some (vI a1), some (vI a2)] [vI a1, aR 1545 0, aR 1538 0] rfl ?_
  refine g_ld q225 rfl rfl rfl rfl rfl rfl (fun v2 => ?_)
  refine g_p q225 1 18 [some (oR 12 0), some (vI a1), some (vI a2)] [vI v2, aR 1538 0, vI v2, aR 1538 0] rfl ?_
  refine g_ld q225 rfl rfl rfl rfl rfl rfl (fun v3 => ?_)
  refine g_p q225 2 21 [some (oR 12 0), some (vI a1), some (vI a2)] [vI (jsub v3 2), vI v2, aR 1538 0] rfl ?_
  refine g_sto q225 rfl rfl rfl rfl (fun s4 => ?_)
  exact g_retV q225 rfl rfl
