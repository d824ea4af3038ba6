/-! THE SMALL MACHINE FOLLOWS THE FUNCTIONS, written by a program (gen_fn.py) -/
theorem q223 : am_cd 223 = am_c223 := rfl
theorem g223 (X : X2) (a1 : Int) (a2 : Int) (s : S2) (o : Option (AV R2) × S2) : J (f223 a1 a2 s) (fun (r : Int × S2) => o = (some (vI r.1), r.2)) (Go X 5 223 0 (am_loc (am_nl 223) [oR 12 0, vI a1, vI a2]) [] s o) := by
  show J _ _ (Go X 5 223 0 [some (oR 12 0), some (vI a1), some (vI a2)] [] s o)
  unfold f223
  refine g_p q223 2 2 [some (oR 12 0), some (vI a1), some (vI a2)] [vI a1, oR 12 0] rfl ?_
  refine g_cPI q223 rfl (g214 X a1 s) rfl rfl rfl rfl rfl (fun r1 => ?_)
  refine g_i1 q223 rfl rfl ?_ ?_
  ·
    refine g_p q223 1 26 [some (oR 12 0), some (vI a1), some (vI a2)] [vI (-1)] rfl ?_
    exact g_ret q223 rfl rfl rfl
  ·
    refine g_p q223 2 10 [some (oR 12 0), some (vI a1), some (vI a2)] [vI a2, oR 12 0] rfl ?_
    refine g_cPI q223 rfl (g210 X a2 s) rfl rfl rfl rfl rfl (fun r2 => ?_)
    refine g_i1 q223 rfl rfl ?_ ?_
    ·
      refine g_p q223 1 26 [some (oR 12 0), some (vI a1), some (vI a2)] [vI (-1)] rfl ?_
      exact g_ret q223 rfl rfl rfl
    ·
      refine g_p q223 3 19 [some (oR 12 0), some (vI a1), some (vI a2)] [vI a2, vI a1, oR 12 0] rfl ?_
      refine g_cPI q223 rfl (g224 X a1 a2 s) rfl rfl rfl rfl rfl (fun r3 => ?_)
      refine g_i1 q223 rfl rfl ?_ ?_
      ·
        refine g_p q223 1 28 [some (oR 12 0), some (vI a1), some (vI a2)] [oR 12 0] rfl ?_
        refine g_cV q223 rfl (g221 X s) rfl rfl rfl rfl rfl (fun s4 => ?_)
        refine g_p q223 3 34 [some (oR 12 0), some (vI a1), some (vI a2)] [vI a2, vI a1, oR 12 0] rfl ?_
        refine g_cV q223 rfl (g225 X a1 a2 s4) rfl rfl rfl rfl rfl (fun s5 => ?_)
        refine g_p q223 2 39 [some (oR 12 0), some (vI a1), some (vI a2)] [vI a2, oR 12 0] rfl ?_
        refine g_cPI q223 rfl (g211 X a2 s5) rfl rfl rfl rfl rfl (fun r6 => ?_)
        exact g_ret q223 rfl rfl rfl
      ·
        refine g_p q223 1 26 [some (oR 12 0), some (vI a1), some (vI a2)] [vI (-1)] rfl ?_
        exact g_ret q223 rfl rfl rfl
theorem q227 : am_cd 227 = am_c227 := rfl
theorem g227 (X : X2) (a1 : Int) (s : S2) (o : Option (AV R2) × S2) : J (f227 a1 s) (fun (r : S2) => o = (none, r)) (Go X 1 227 0 (am_loc (am_nl 227) [oR 12 0, vI a1]) [] s o) := by
  show J _ _ (Go X 1 227 0 [some (oR 12 0), some (vI a1)] [] s o)
  unfold f227
  refine g_p q227 1 1 [some (oR 12 0), some (vI a1)] [oR 12 0] rfl ?_
  refine g_m (S := [aR 1548 0]) (some (aR 1548 0)) q227 rfl rfl rfl (fun _ => rfl) rfl ?_
  refine g_p q227 2 6 [some (oR 12 0), some (vI a1)] [vI (-1), vI a1, aR 1548 0] rfl ?_
  refine g_sto q227 rfl rfl rfl rfl (fun s1 => ?_)
  refine g_p q227 1 8 [some (oR 12 0), some (vI a1)] [oR 12 0] rfl ?_
  refine g_m (S := [aR 1538 0]) (some (aR 1538 0)) q227 rfl rfl rfl (fun _ => rfl) rfl ?_
  refine g_p q227 1 12 [some (oR 12 0), some (vI a1)] [oR 12 0, aR 1538 0] rfl ?_
  refine g_m (S := [aR 1545 0, aR 1538 0]) (some (aR 1545 0)) q227 rfl rfl rfl (fun _ => rfl) rfl ?_
  refine g_p q227 1 16 [some (oR 12 0), some (vI a1)] [vI a1, aR 1545 0, aR 1538 0] rfl ?_
  refine g_ld q227 rfl rfl rfl rfl rfl rfl (fun v2 => ?_)
  refine g_p q227 1 18 [some (oR 12 0), some (vI a1)] [vI v2, aR 1538 0, vI v2, aR 1538 0] rfl ?_
  refine g_ld q227 rfl rfl rfl rfl rfl rfl (fun v3 => ?_)
  refine g_p q227 2 21 [some (oR 12 0), some (vI a1)] [vI (jadd v3 2), vI v2, aR 1538 0] rfl ?_
  refine g_sto q227 rfl rfl rfl rfl (fun s4 => ?_)
  exact g_retV q227 rfl rfl
theorem q226 : am_cd 226 = am_c226 := rfl
theorem g226 (X : X2) (a1 : Int) (s : S2) (o : Option (AV R2) × S2) : J (f226 a1 s) (fun (r : Int × S2) => o = (some (vI r.1), r.2)) (Go X 5 226 0 (am_loc (am_nl 226) [oR 12 0, vI a1]) [] s o) := by
  show J _ _ (Go X 5 226 0 [some (oR 12 0), some (vI a1), none] [] s o)
  unfold f226
  refine g_p q226 2 2 [some (oR 12 0), some (vI a1), none] [vI a1, oR 12 0] rfl ?_
  refine g_cPI q226 rfl (g214 X a1 s) rfl rfl rfl rfl rfl (fun r1 => ?_)
  refine g_i1 q226 rfl rfl ?_ ?_
  ·
    refine g_p q226 1 19 [some (oR 12 0), some (vI a1), none] [vI (-1)] rfl ?_
    exact g_ret q226 rfl rfl rfl
  ·
    refine g_p q226 1 9 [some (oR 12 0), some (vI a1), none] [oR 12 0] rfl ?_
    refine g_m (S := [aR 1548 0]) (some (aR 1548 0)) q226 rfl rfl rfl (fun _ => rfl) rfl ?_
    refine g_p q226 1 13 [some (oR 12 0), some (vI a1), none] [vI a1, aR 1548 0] rfl ?_
    refine g_ld q226 rfl rfl rfl rfl rfl rfl (fun v2 => ?_)
    refine g_p q226 1 15 [some (oR 12 0), some (vI a1), none] [vI (-1), vI v2] rfl ?_
    refine g_i2 q226 rfl rfl ?_ ?_
    ·
      refine g_p q226 1 21 [some (oR 12 0), some (vI a1), none] [oR 12 0] rfl ?_
      refine g_cV q226 rfl (g221 X s) rfl rfl rfl rfl rfl (fun s3 => ?_)
      refine g_p q226 1 25 [some (oR 12 0), some (vI a1), none] [oR 12 0] rfl ?_
      refine g_m (S := [aR 1548 0]) (some (aR 1548 0)) q226 rfl rfl rfl (fun _ => rfl) rfl ?_
      refine g_p q226 1 29 [some (oR 12 0), some (vI a1), none] [vI a1, aR 1548 0] rfl ?_
      refine g_ld q226 rfl rfl rfl rfl rfl rfl (fun v4 => ?_)
      refine g_p q226 3 33 [some (oR 12 0), some (vI a1), some (vI v4)] [vI a1, oR 12 0] rfl ?_
      refine g_cV q226 rfl (g227 X a1 s3) rfl rfl rfl rfl rfl (fun s5 => ?_)
      refine g_p q226 1 37 [some (oR 12 0), some (vI a1), some (vI v4)] [vI v4] rfl ?_
      exact g_ret q226 rfl rfl rfl
    ·
      refine g_p q226 1 19 [some (oR 12 0), some (vI a1), none] [vI (-1)] rfl ?_
      exact g_ret q226 rfl rfl rfl
theorem q228 : am_cd 228 = am_c228 := rfl
theorem g228 (X : X2) (a1 : Int) (s : S2) (o : Option (AV R2) × S2) : J (f228 a1 s) (fun (r : Int × S2) => o = (some (vI r.1), r.2)) (Go X 5 228 0 (am_loc (am_nl 228) [oR 12 0, vI a1]) [] s o) := by
  show J _ _ (Go X 5 228 0 [some (oR 12 0), some (vI a1)] [] s o)
  unfold f228
  refine g_p q228 2 2 [some (oR 12 0), some (vI a1)] [vI a1, oR 12 0] rfl ?_
  refine g_cPI q228 rfl (g214 X a1 s) rfl rfl rfl rfl rfl (fun r1 => ?_)
  refine g_i1 q228 rfl rfl ?_ ?_
  ·
    refine g_p q228 1 34 [some (oR 12 0), some (vI a1)] [vI (-1)] rfl ?_
    exact g_ret q228 rfl rfl rfl
  ·
    refine g_p q228 1 9 [some (oR 12 0), some (vI a1)] [oR 12 0] rfl ?_
    refine g_m (S := [aR 1548 0]) (some (aR 1548 0)) q228 rfl rfl rfl (fun _ => rfl) rfl ?_
    refine g_p q228 1 13 [some (oR 12 0), some (vI a1)] [vI a1, aR 1548 0] rfl ?_
    refine g_ld q228 rfl rfl rfl rfl rfl rfl (fun v2 => ?_)
    refine g_p q228 1 15 [some (oR 12 0), some (vI a1)] [vI (-1), vI v2] rfl ?_
    refine g_i2 q228 rfl rfl ?_ ?_
    ·
      refine g_p q228 1 34 [some (oR 12 0), some (vI a1)] [vI (-1)] rfl ?_
      exact g_ret q228 rfl rfl rfl
    ·
      refine g_p q228 1 19 [some (oR 12 0), some (vI a1)] [oR 12 0] rfl ?_
      refine g_m (S := [aR 1547 0]) (some (aR 1547 0)) q228 rfl rfl rfl (fun _ => rfl) rfl ?_
      refine g_p q228 1 23 [some (oR 12 0), some (vI a1)] [vI a1, aR 1547 0] rfl ?_
      refine g_ld q228 rfl rfl rfl rfl rfl rfl (fun v3 => ?_)
      refine g_p q228 1 25 [some (oR 12 0), some (vI a1)] [oR 12 0, vI v3] rfl ?_
      refine g_m (S := [aR 1555 0, vI v3]) (some (aR 1555 0)) q228 rfl rfl rfl (fun _ => rfl) rfl ?_
      refine g_p q228 1 29 [some (oR 12 0), some (vI a1)] [vI a1, aR 1555 0, vI v3] rfl ?_
      refine g_ld q228 rfl rfl rfl rfl rfl rfl (fun v4 => ?_)
      refine g_i2 q228 rfl rfl ?_ ?_
      ·
        refine g_p q228 1 36 [some (oR 12 0), some (vI a1)] [oR 12 0] rfl ?_
        refine g_cV q228 rfl (g221 X s) rfl rfl rfl rfl rfl (fun s5 => ?_)
        refine g_p q228 1 40 [some (oR 12 0), some (vI a1)] [oR 12 0] rfl ?_
        refine g_m (S := [aR 1547 0]) (some (aR 1547 0)) q228 rfl rfl rfl (fun _ => rfl) rfl ?_
        refine g_p q228 2 45 [some (oR 12 0), some (vI a1)] [oR 12 0, vI a1, aR 1547 0] rfl ?_
        refine g_m (S := [aR 1555 0, vI a1, aR 1547 0]) (some (aR 1555 0)) q228 rfl rfl rfl (fun _ => rfl) rfl ?_
        refine g_p q228 1 49 [some (oR 12 0), some (vI a1)] [vI a1, aR 1555 0, vI a1, aR 1547 0] rfl ?_
        refine g_ld q228 rfl rfl rfl rfl rfl rfl (fun v6 => ?_)
        refine g_sto q228 rfl rfl rfl rfl (fun s7 => ?_)
        refine g_p q228 1 52 [some (oR 12 0), some (vI a1)] [oR 12 0] rfl ?_
        refine g_m (S := [aR 1547 0]) (some (aR 1547 0)) q228 rfl rfl rfl (fun _ => rfl) rfl ?_
        refine g_p q228 1 56 [some (oR 12 0), some (vI a1)] [vI a1, aR 1547 0] rfl ?_
        refine g_ld q228 rfl rfl rfl rfl rfl rfl (fun v8 => ?_)
        exact g_ret q228 rfl rfl rfl
      ·
        refine g_p q228 1 34 [some (oR 12 0), some (vI a1)] [vI (-1)] rfl ?_
        exact g_ret q228 rfl rfl rfl
theorem q229 : am_cd 229 = am_c229 := rfl
def H229_a (X : X2) (y4 : Int) (o : Option (AV R2) × S2) (a : Int × Int × S2) : Prop := Go X 5 229 26 [some (oR 12 0), some (vI y4), some (vI (a.1)), some (vI (a.2.1))] [] (a.2.2) o
def E229_a (X : X2) (y4 : Int) (o : Option (AV R2) × S2) : (Int × S2) → Prop := (fun (r : Int × S2) => Go X 5 229 60 [some (oR 12 0), some (vI y4), some (vI (r.1)), none] [] (r.2) o)
theorem g229_a (X : X2) (y4 : Int) (x5 : Int) (x6 : Int) (s7 : S2) (o : Option (AV R2) × S2) : J (f229_a y4 x5 x6 s7) (am_kx (H229_a X y4 o) (E229_a X y4 o)) (Go X 5 229 26 [some (oR 12 0), some (vI y4), some (vI x5), some (vI x6)] [] s7 o) := by
  unfold f229_a
  refine g_p q229 2 28 [some (oR 12 0), some (vI y4), some (vI x5), some (vI x6)] [oR 12 0, vI x6] rfl ?_
  refine g_m (S := [aR 1537 0, vI x6]) (some (aR 1537 0)) q229 rfl rfl rfl (fun _ => rfl) rfl ?_
  refine g_p q229 1 32 [some (oR 12 0), some (vI y4), some (vI x5), some (vI x6)] [vI 4, aR 1537 0, vI x6] rfl ?_
  refine g_ld q229 rfl rfl rfl rfl rfl rfl (fun v8 => ?_)
  refine g_i2 q229 rfl rfl ?_ ?_
  ·
    exact g_end (fun h => g_wk [true, true, true, false] rfl h)
  ·
    refine g_p q229 1 37 [some (oR 12 0), some (vI y4), some (vI x5), some (vI x6)] [oR 12 0] rfl ?_
    refine g_m (S := [aR 1548 0]) (some (aR 1548 0)) q229 rfl rfl rfl (fun _ => rfl) rfl ?_
    refine g_p q229 1 41 [some (oR 12 0), some (vI y4), some (vI x5), some (vI x6)] [vI x6, aR 1548 0] rfl ?_
    refine g_ld q229 rfl rfl rfl rfl rfl rfl (fun v9 => ?_)
    refine g_p q229 1 43 [some (oR 12 0), some (vI y4), some (vI x5), some (vI x6)] [vI y4, vI v9] rfl ?_
    refine g_i2 q229 rfl rfl ?_ ?_
    ·
      refine g_inc (fun v10 => [some (oR 12 0), some (vI y4), some (vI x5), some (vI v10)]) q229 rfl rfl (fun _ => rfl) (fun v10 => ?_)
      refine g_p q229 1 26 [some (oR 12 0), some (vI y4), some (vI x5), some (vI v10)] [] rfl ?_
      exact g_end (fun h => g_wk [true, true, true, true] rfl h)
    ·
      refine g_p q229 2 48 [some (oR 12 0), some (vI y4), some (vI x5), some (vI x6)] [vI x6, oR 12 0] rfl ?_
      refine g_cV q229 rfl (g227 X x6 s7) rfl rfl rfl rfl rfl (fun s11 => ?_)
      refine g_inc (fun v12 => [some (oR 12 0), some (vI y4), some (vI v12), some (vI x6)]) q229 rfl rfl (fun _ => rfl) (fun v12 => ?_)
      refine g_inc (fun v13 => [some (oR 12 0), some (vI y4), some (vI v12), some (vI v13)]) q229 rfl rfl (fun _ => rfl) (fun v13 => ?_)
      refine g_p q229 1 26 [some (oR 12 0), some (vI y4), some (vI v12), some (vI v13)] [] rfl ?_
      exact g_end (fun h => g_wk [true, true, true, true] rfl h)
theorem g229 (X : X2) (a1 : Int) (s : S2) (o : Option (AV R2) × S2) : J (f229 a1 s) (fun (r : Int × S2) => o = (some (vI r.1), r.2)) (Go X 5 229 0 (am_loc (am_nl 229) [oR 12 0, vI a1]) [] s o) := by
  show J _ _ (Go X 5 229 0 [some (oR 12 0), some (vI a1), none, none] [] s o)
  unfold f229
  refine g_p q229 2 2 [some (oR 12 0), some (vI a1), none, none] [vI a1, oR 12 0] rfl ?_
  refine g_cPI q229 rfl (g210 X a1 s) rfl rfl rfl rfl rfl (fun r1 => ?_)
  refine g_i1 q229 rfl rfl ?_ ?_
  ·
    refine g_p q229 1 17 [some (oR 12 0), some (vI a1), none, none] [vI (-1)] rfl ?_
    exact g_ret q229 rfl rfl rfl
  ·
    refine g_p q229 2 10 [some (oR 12 0), some (vI a1), none, none] [vI a1, oR 12 0] rfl ?_
    refine g_cPI q229 rfl (g201 X a1 s) rfl rfl rfl rfl rfl (fun r2 => ?_)
    refine g_i1 q229 rfl rfl ?_ ?_
    ·
      refine g_p q229 1 19 [some (oR 12 0), some (vI a1), none, none] [oR 12 0] rfl ?_
      refine g_cV q229 rfl (g221 X s) rfl rfl rfl rfl rfl (fun s3 => ?_)
      refine g_p q229 4 26 [some (oR 12 0), some (vI a1), some (vI 0), some (vI 0)] [] rfl ?_
      refine g_wkJ [true, true, true, true] (L0 := [some (oR 12 0), some (vI a1), some (vI 0), some (vI 0)]) rfl ?_
      refine g_itr (H229_a X a1 o) (E229_a X a1 o) (fun | (x5, x6, s7) => g229_a X a1 x5 x6 s7 o) ?_
      rintro ⟨z14, s15⟩
      show J _ _ (Go X 5 229 60 [some (oR 12 0), some (vI a1), some (vI z14), none] [] s15 o)
      refine g_p q229 1 61 [some (oR 12 0), some (vI a1), some (vI z14), none] [oR 12 0] rfl ?_
      refine g_m (S := [aR 1544 0]) (some (aR 1544 0)) q229 rfl rfl rfl (fun _ => rfl) rfl ?_
      refine g_p q229 2 66 [some (oR 12 0), some (vI a1), some (vI z14), none] [vI (-1), vI a1, aR 1544 0] rfl ?_
      refine g_sto q229 rfl rfl rfl rfl (fun s16 => ?_)
      refine g_p q229 1 68 [some (oR 12 0), some (vI a1), some (vI z14), none] [oR 12 0] rfl ?_
      refine g_m (S := [aR 1537 0]) (some (aR 1537 0)) q229 rfl rfl rfl (fun _ => rfl) rfl ?_
      refine g_p q229 2 74 [some (oR 12 0), some (vI a1), some (vI z14), none] [vI 6, aR 1537 0, vI 6, aR 1537 0] rfl ?_
      refine g_ld q229 rfl rfl rfl rfl rfl rfl (fun v17 => ?_)
      refine g_p q229 4 79 [some (oR 12 0), some (vI a1), some (vI z14), none] [vI (jor v17 (jshl 1 a1)), vI 6, aR 1537 0] rfl ?_
      refine g_sto q229 rfl rfl rfl rfl (fun s18 => ?_)
      refine g_p q229 1 81 [some (oR 12 0), some (vI a1), some (vI z14), none] [vI z14] rfl ?_
      exact g_ret q229 rfl rfl rfl
    ·
      refine g_p q229 1 17 [some (oR 12 0), some (vI a1), none, none] [vI (-1)] rfl ?_
      exact g_ret q229 rfl rfl rfl
theorem q230 : am_cd 230 = am_c230 := rfl
theorem g230 (X : X2) (a1 : Int) (s : S2) (o : Option (AV R2) × S2) : J (f230 a1 s) (fun (r : Int × S2) => o = (some (vI r.1), r.2)) (Go X 5 230 0 (am_loc (am_nl 230) [oR 12 0, vI a1]) [] s o) := by
  show J _ _ (Go X 5 230 0 [some (oR 12 0), some (vI a1)] [] s o)
  unfold f230
  refine g_p q230 2 2 [some (oR 12 0), some (vI a1)] [vI a1, oR 12 0] rfl ?_
  refine g_cPI q230 rfl (g210 X a1 s) rfl rfl rfl rfl rfl (fun r1 => ?_)
  refine g_i1 q230 rfl rfl ?_ ?_
  ·
    refine g_p q230 1 17 [some (oR 12 0), some (vI a1)] [vI 0] rfl ?_
    exact g_ret q230 rfl rfl rfl
  ·
    refine g_p q230 2 10 [some (oR 12 0), some (vI a1)] [vI a1, oR 12 0] rfl ?_
    refine g_cPI q230 rfl (g201 X a1 s) rfl rfl rfl rfl rfl (fun r2 => ?_)
    refine g_i1 q230 rfl rfl ?_ ?_
    ·
      refine g_p q230 1 19 [some (oR 12 0), some (vI a1)] [oR 12 0] rfl ?_
      refine g_cV q230 rfl (g221 X s) rfl rfl rfl rfl rfl (fun s3 => ?_)
      refine g_p q230 1 23 [some (oR 12 0), some (vI a1)] [oR 12 0] rfl ?_
      refine g_m (S := [aR 1537 0]) (some (aR 1537 0)) q230 rfl rfl rfl (fun _ => rfl) rfl ?_
      refine g_p q230 2 29 [some (oR 12 0), some (vI a1)] [vI 6, aR 1537 0, vI 6, aR 1537 0] rfl ?_
      refine g_ld q230 rfl rfl rfl rfl rfl rfl (fun v4 => ?_)
      refine g_p q230 4 34 [some (oR 12 0), some (vI a1)] [vI (jxor v4 (jshl 1 a1)), vI 6, aR 1537 0] rfl ?_
      refine g_sto q230 rfl rfl rfl rfl (fun s5 => ?_)
      refine g_p q230 1 36 [some (oR 12 0), some (vI a1)] [vI 1] rfl ?_
      exact g_ret q230 rfl rfl rfl
    ·
      refine g_p q230 1 17 [some (oR 12 0), some (vI a1)] [vI 0] rfl ?_
      exact g_ret q230 rfl rfl rfl
theorem q232 : am_cd 232 = am_c232 := rfl
theorem g232 (X : X2) (a1 : Int) (a2 : Int) (s : S2) (o : Option (AV R2) × S2) : J (f232 a1 a2 s) (fun (r : Int) => o = (some (vI r), s)) (Go X 3 232 0 (am_loc (am_nl 232) [oR 12 0, vI a1, vI a2]) [] s o) := by
  show J _ _ (Go X 3 232 0 [some (oR 12 0), some (vI a1), some (vI a2)] [] s o)
  unfold f232
  refine g_p q232 1 1 [some (oR 12 0), some (vI a1), some (vI a2)] [vI a2] rfl ?_
  refine g_i1 q232 rfl rfl ?_ ?_
  ·
    refine g_p q232 2 14 [some (oR 12 0), some (vI a1), some (vI a2)] [vI 1, vI a2] rfl ?_
    refine g_i2 q232 rfl rfl ?_ ?_
    ·
      refine g_p q232 2 27 [some (oR 12 0), some (vI a1), some (vI a2)] [vI a1, oR 12 0] rfl ?_
      refine g_cPI q232 rfl (g198 X a1 s) rfl rfl rfl rfl rfl (fun r1 => ?_)
      exact g_retb q232 rfl rfl
    ·
      refine g_p q232 2 19 [some (oR 12 0), some (vI a1), some (vI a2)] [vI a1, oR 12 0] rfl ?_
      refine g_cPI q232 rfl (g214 X a1 s) rfl rfl rfl rfl rfl (fun r2 => ?_)
      refine g_p q232 1 30 [some (oR 12 0), some (vI a1), some (vI a2)] [vI r2] rfl ?_
      exact g_retb q232 rfl rfl
  ·
    refine g_p q232 2 6 [some (oR 12 0), some (vI a1), some (vI a2)] [vI a1, oR 12 0] rfl ?_
    refine g_cPI q232 rfl (g210 X a1 s) rfl rfl rfl rfl rfl (fun r3 => ?_)
    refine g_p q232 1 30 [some (oR 12 0), some (vI a1), some (vI a2)] [vI r3] rfl ?_
    exact g_retb q232 rfl rfl
theorem q235 : am_cd 235 = am_c235 := rfl
def H235_a (X : X2) (y1 : Nat) (o : Option (AV R2) × S2) (a : Int × S2) : Prop := Go X 1 235 2 [some (oR 12 0), some (aR y1 0), some (vI (a.1))] [] (a.2) o
def E235_a (X : X2) (y1 : Nat) (o : Option (AV R2) × S2) : (S2) → Prop := (fun (r : S2) => Go X 1 235 58 [none, none, none] [] r o)
theorem g235_a (X : X2) (y1 : Nat) (x2 : Int) (s3 : S2) (hy1 : am_rw y1) (o : Option (AV R2) × S2) : J (f235_a y1 x2 s3) (am_kx (H235_a X y1 o) (E235_a X y1 o)) (Go X 1 235 2 [some (oR 12 0), some (aR y1 0), some (vI x2)] [] s3 o) := by
  unfold f235_a
  refine g_p q235 2 4 [some (oR 12 0), some (aR y1 0), some (vI x2)] [aR y1 0, vI x2] rfl ?_
  refine g_m (S := [vI ((am_ln y1 : Nat) : Int), vI x2]) (some (vI ((am_ln y1 : Nat) : Int))) q235 rfl rfl rfl (fun _ => m2_lenR hy1) rfl ?_
  refine g_i2 q235 rfl rfl ?_ ?_
  ·
    exact g_end (fun h => g_wk [false, false, false] rfl h)
  ·
    refine g_p q235 1 9 [some (oR 12 0), some (aR y1 0), some (vI x2)] [oR 12 0] rfl ?_
    refine g_get q235 rfl rfl rfl (fun _ => rfl) (fun v4 => ?_)
    refine g_jn (fun j42 => ∀ (s5 : S2), J (j42 s5) (am_kx (H235_a X y1 o) (E235_a X y1 o)) (Go X 1 235 42 [some (oR 12 0), some (aR y1 0), some (vI x2)] [] s5 o)) ?_ (fun j42 hj42 => ?_)
    ·
      intro s5
      refine g_p q235 2 44 [some (oR 12 0), some (aR y1 0), some (vI x2)] [oR 12 0, oR 12 0] rfl ?_
      refine g_get q235 rfl rfl rfl (fun _ => rfl) (fun v6 => ?_)
      refine g_p q235 2 49 [some (oR 12 0), some (aR y1 0), some (vI x2)] [vI (jadd v6 1), oR 12 0] rfl ?_
      refine g_put q235 rfl rfl rfl (fun _ => rfl) (fun s7 => ?_)
      refine g_inc (fun v8 => [some (oR 12 0), some (aR y1 0), some (vI v8)]) q235 rfl rfl (fun _ => rfl) (fun v8 => ?_)
      refine g_p q235 1 2 [some (oR 12 0), some (aR y1 0), some (vI v8)] [] rfl ?_
      exact g_end (fun h => g_wk [true, true, true] rfl h)
    ·
      refine g_i1 q235 rfl rfl ?_ ?_
      ·
        refine g_p q235 1 31 [some (oR 12 0), some (aR y1 0), some (vI x2)] [oR 12 0] rfl ?_
        refine g_m (S := [aR 1606 0]) (some (aR 1606 0)) q235 rfl rfl rfl (fun _ => rfl) rfl ?_
        refine g_p q235 1 35 [some (oR 12 0), some (aR y1 0), some (vI x2)] [oR 12 0, aR 1606 0] rfl ?_
        refine g_get q235 rfl rfl rfl (fun _ => rfl) (fun v9 => ?_)
        refine g_p q235 2 40 [some (oR 12 0), some (aR y1 0), some (vI x2)] [vI x2, aR y1 0, vI v9, aR 1606 0] rfl ?_
        refine g_ld q235 rfl rfl rfl hy1.1 rfl hy1.2 (fun v10 => ?_)
        refine g_sto q235 rfl rfl rfl rfl (fun s11 => ?_)
        exact g_wkJ [true, true, true] rfl (hj42 s11)
      ·
        refine g_p q235 3 18 [some (oR 12 0), some (aR y1 0), some (vI x2)] [oR 12 0, vI x2, aR y1 0] rfl ?_
        refine g_m (S := [aR 1606 0, vI x2, aR y1 0]) (some (aR 1606 0)) q235 rfl rfl rfl (fun _ => rfl) rfl ?_
        refine g_p q235 1 22 [some (oR 12 0), some (aR y1 0), some (vI x2)] [oR 12 0, aR 1606 0, vI x2, aR y1 0] rfl ?_
        refine g_get q235 rfl rfl rfl (fun _ => rfl) (fun v12 => ?_)
        refine g_ld q235 rfl rfl rfl rfl rfl rfl (fun v13 => ?_)
        refine g_sto q235 rfl rfl rfl hy1.1 (fun s14 => ?_)
        refine g_p q235 1 42 [some (oR 12 0), some (aR y1 0), some (vI x2)] [] rfl ?_
        exact g_wkJ [true, true, true] rfl (hj42 s14)
theorem g235 (X : X2) (a1 : Nat) (s : S2) (ha1 : am_rw a1) (o : Option (AV R2) × S2) : J (f235 a1 s) (fun (r : S2) => o = (none, r)) (Go X 1 235 0 (am_loc (am_nl 235) [oR 12 0, aR a1 0]) [] s o) := by
  show J _ _ (Go X 1 235 0 [some (oR 12 0), some (aR a1 0), none] [] s o)
  unfold f235
  refine g_p q235 2 2 [some (oR 12 0), some (aR a1 0), some (vI 0)] [] rfl ?_
  refine g_wkJ [true, true, true] (L0 := [some (oR 12 0), some (aR a1 0), some (vI 0)]) rfl ?_
  refine g_itr (H235_a X a1 o) (E235_a X a1 o) (fun | (x2, s3) => g235_a X a1 x2 s3 ha1 o) ?_
  intro s15
  show J _ _ (Go X 1 235 58 [none, none, none] [] s15 o)
  exact g_retV q235 rfl rfl
theorem q234 : am_cd 234 = am_c234 := rfl
set_option maxRecDepth 20000 in
theorem g234 (X : X2) (a1 : Int) (a2 : Int) (s : S2) (o : Option (AV R2) × S2) : J (f234 a1 a2 s) (fun (r : S2) => o = (none, r)) (Go X 2 234 0 (am_loc (am_nl 234) [oR 12 0, vI a1, vI a2]) [] s o) := by
  show J _ _ (Go X 2 234 0 [some (oR 12 0), some (vI a1), some (vI a2)] [] s o)
  unfold f234
  refine g_p q234 4 6 [some (oR 12 0), some (vI a1), some (vI a2)] [vI (jmul 1100 a1), oR 12 0] rfl ?_
  refine g_put q234 rfl rfl rfl (fun _ => rfl) (fun s1 => ?_)
  refine g_p q234 2 11 [some (oR 12 0), some (vI a1), some (vI a2)] [vI a2, oR 12 0] rfl ?_
  refine g_putb q234 rfl rfl rfl (fun _ h => if_pos h) (fun s2 => ?_)
  refine g_p q234 2 16 [some (oR 12 0), some (vI a1), some (vI a2)] [oR 12 0, oR 12 0] rfl ?_
  refine g_m (S := [aR 1537 0, oR 12 0]) (some (aR 1537 0)) q234 rfl rfl rfl (fun _ => rfl) rfl ?_
  refine g_cV q234 rfl (g235 X 1537 s2 ⟨rfl, rfl⟩) rfl rfl rfl rfl rfl (fun s3 => ?_)
  refine g_p q234 2 24 [some (oR 12 0), some (vI a1), some (vI a2)] [oR 12 0, oR 12 0] rfl ?_
  refine g_m (S := [aR 1538 0, oR 12 0]) (some (aR 1538 0)) q234 rfl rfl rfl (fun _ => rfl) rfl ?_
  refine g_cV q234 rfl (g235 X 1538 s3 ⟨rfl, rfl⟩) rfl rfl rfl rfl rfl (fun s4 => ?_)
  refine g_p q234 2 32 [some (oR 12 0), some (vI a1), some (vI a2)] [oR 12 0, oR 12 0] rfl ?_
  refine g_m (S := [aR 1539 0, oR 12 0]) (some (aR 1539 0)) q234 rfl rfl rfl (fun _ => rfl) rfl ?_
  refine g_cV q234 rfl (g235 X 1539 s4 ⟨rfl, rfl⟩) rfl rfl rfl rfl rfl (fun s5 => ?_)
  refine g_p q234 2 40 [some (oR 12 0), some (vI a1), some (vI a2)] [oR 12 0, oR 12 0] rfl ?_
  refine g_m (S := [aR 1544 0, oR 12 0]) (some (aR 1544 0)) q234 rfl rfl rfl (fun _ => rfl) rfl ?_
  refine g_cV q234 rfl (g235 X 1544 s5 ⟨rfl, rfl⟩) rfl rfl rfl rfl rfl (fun s6 => ?_)
  refine g_p q234 2 48 [some (oR 12 0), some (vI a1), some (vI a2)] [oR 12 0, oR 12 0] rfl ?_
  refine g_m (S := [aR 1547 0, oR 12 0]) (some (aR 1547 0)) q234 rfl rfl rfl (fun _ => rfl) rfl ?_
  refine g_cV q234 rfl (g235 X 1547 s6 ⟨rfl, rfl⟩) rfl rfl rfl rfl rfl (fun s7 => ?_)
  refine g_p q234 2 56 [some (oR 12 0), some (vI a1), some (vI a2)] [oR 12 0, oR 12 0] rfl ?_
  refine g_m (S := [aR 1548 0, oR 12 0]) (some (aR 1548 0)) q234 rfl rfl rfl (fun _ => rfl) rfl ?_
  refine g_cV q234 rfl (g235 X 1548 s7 ⟨rfl, rfl⟩) rfl rfl rfl rfl rfl (fun s8 => ?_)
  refine g_p q234 2 64 [some (oR 12 0), some (vI a1), some (vI a2)] [vI 4, vI a1] rfl ?_
  refine g_i2 q234 rfl rfl ?_ ?_
  ·
    refine g_p q234 1 69 [some (oR 12 0), some (vI a1), some (vI a2)] [oR 12 0] rfl ?_
    refine g_m (S := [aR 1592 0]) (some (aR 1592 0)) q234 rfl rfl rfl (fun _ => rfl) rfl ?_
    refine g_p q234 2 74 [some (oR 12 0), some (vI a1), some (vI a2)] [oR 12 0, vI 0, aR 1592 0] rfl ?_
    refine g_get q234 rfl rfl rfl (fun _ => rfl) (fun v9 => ?_)
    refine g_sto q234 rfl rfl rfl rfl (fun s10 => ?_)
    refine g_p q234 2 80 [some (oR 12 0), some (vI a1), some (vI a2)] [oR 12 0, oR 12 0] rfl ?_
    refine g_m (S := [aR 1592 0, oR 12 0]) (some (aR 1592 0)) q234 rfl rfl rfl (fun _ => rfl) rfl ?_
    refine g_cV q234 rfl (g235 X 1592 s10 ⟨rfl, rfl⟩) rfl rfl rfl rfl rfl (fun s11 => ?_)
    refine g_p q234 2 88 [some (oR 12 0), some (vI a1), some (vI a2)] [oR 12 0, oR 12 0] rfl ?_
    refine g_m (S := [aR 1592 0, oR 12 0]) (some (aR 1592 0)) q234 rfl rfl rfl (fun _ => rfl) rfl ?_
    refine g_p q234 1 92 [some (oR 12 0), some (vI a1), some (vI a2)] [vI 0, aR 1592 0, oR 12 0] rfl ?_
    refine g_ld q234 rfl rfl rfl rfl rfl rfl (fun v12 => ?_)
    refine g_put q234 rfl rfl rfl (fun _ => rfl) (fun s13 => ?_)
    refine g_p q234 2 98 [some (oR 12 0), some (vI a1), some (vI a2)] [oR 12 0, oR 12 0] rfl ?_
    refine g_m (S := [aR 1540 0, oR 12 0]) (some (aR 1540 0)) q234 rfl rfl rfl (fun _ => rfl) rfl ?_
    refine g_cV q234 rfl (g235 X 1540 s13 ⟨rfl, rfl⟩) rfl rfl rfl rfl rfl (fun s14 => ?_)
    refine g_p q234 2 106 [some (oR 12 0), some (vI a1), some (vI a2)] [oR 12 0, oR 12 0] rfl ?_
    refine g_m (S := [aR 1541 0, oR 12 0]) (some (aR 1541 0)) q234 rfl rfl rfl (fun _ => rfl) rfl ?_
    refine g_cV q234 rfl (g235 X 1541 s14 ⟨rfl, rfl⟩) rfl rfl rfl rfl rfl (fun s15 => ?_)
    refine g_p q234 2 114 [some (oR 12 0), some (vI a1), some (vI a2)] [oR 12 0, oR 12 0] rfl ?_
    refine g_m (S := [aR 1542 0, oR 12 0]) (some (aR 1542 0)) q234 rfl rfl rfl (fun _ => rfl) rfl ?_
    refine g_cV q234 rfl (g235 X 1542 s15 ⟨rfl, rfl⟩) rfl rfl rfl rfl rfl (fun s16 => ?_)
    refine g_p q234 2 122 [some (oR 12 0), some (vI a1), some (vI a2)] [oR 12 0, oR 12 0] rfl ?_
    refine g_m (S := [aR 1543 0, oR 12 0]) (some (aR 1543 0)) q234 rfl rfl rfl (fun _ => rfl) rfl ?_
    refine g_cV q234 rfl (g235 X 1543 s16 ⟨rfl, rfl⟩) rfl rfl rfl rfl rfl (fun s17 => ?_)
    refine g_p q234 2 130 [some (oR 12 0), some (vI a1), some (vI a2)] [oR 12 0, oR 12 0] rfl ?_
    refine g_m (S := [aR 1545 0, oR 12 0]) (some (aR 1545 0)) q234 rfl rfl rfl (fun _ => rfl) rfl ?_
    refine g_cV q234 rfl (g235 X 1545 s17 ⟨rfl, rfl⟩) rfl rfl rfl rfl rfl (fun s18 => ?_)
    refine g_p q234 2 138 [some (oR 12 0), some (vI a1), some (vI a2)] [oR 12 0, oR 12 0] rfl ?_
    refine g_m (S := [aR 1546 0, oR 12 0]) (some (aR 1546 0)) q234 rfl rfl rfl (fun _ => rfl) rfl ?_
    refine g_cV q234 rfl (g235 X 1546 s18 ⟨rfl, rfl⟩) rfl rfl rfl rfl rfl (fun s19 => ?_)
    refine g_p q234 2 146 [some (oR 12 0), some (vI a1), some (vI a2)] [oR 12 0, oR 12 0] rfl ?_
    refine g_m (S := [aR 1549 0, oR 12 0]) (some (aR 1549 0)) q234 rfl rfl rfl (fun _ => rfl) rfl ?_
    refine g_cV q234 rfl (g235 X 1549 s19 ⟨rfl, rfl⟩) rfl rfl rfl rfl rfl (fun s20 => ?_)
    refine g_p q234 2 154 [some (oR 12 0), some (vI a1), some (vI a2)] [oR 12 0, oR 12 0] rfl ?_
    refine g_m (S := [aR 1550 0, oR 12 0]) (some (aR 1550 0)) q234 rfl rfl rfl (fun _ => rfl) rfl ?_
    refine g_cV q234 rfl (g235 X 1550 s20 ⟨rfl, rfl⟩) rfl rfl rfl rfl rfl (fun s21 => ?_)
    refine g_p q234 2 162 [some (oR 12 0), some (vI a1), some (vI a2)] [oR 12 0, oR 12 0] rfl ?_
    refine g_m (S := [aR 1551 0, oR 12 0]) (some (aR 1551 0)) q234 rfl rfl rfl (fun _ => rfl) rfl ?_
    refine g_cV q234 rfl (g235 X 1551 s21 ⟨rfl, rfl⟩) rfl rfl rfl rfl rfl (fun s22 => ?_)
    refine g_p q234 2 170 [some (oR 12 0), some (vI a1), some (vI a2)] [oR 12 0, oR 12 0] rfl ?_
    refine g_m (S := [aR 1552 0, oR 12 0]) (some (aR 1552 0)) q234 rfl rfl rfl (fun _ => rfl) rfl ?_
    refine g_cV q234 rfl (g235 X 1552 s22 ⟨rfl, rfl⟩) rfl rfl rfl rfl rfl (fun s23 => ?_)
    refine g_p q234 2 178 [some (oR 12 0), some (vI a1), some (vI a2)] [oR 12 0, oR 12 0] rfl ?_
    refine g_m (S := [aR 1553 0, oR 12 0]) (some (aR 1553 0)) q234 rfl rfl rfl (fun _ => rfl) rfl ?_
    refine g_cV q234 rfl (g235 X 1553 s23 ⟨rfl, rfl⟩) rfl rfl rfl rfl rfl (fun s24 => ?_)
    refine g_p q234 2 186 [some (oR 12 0), some (vI a1), some (vI a2)] [oR 12 0, oR 12 0] rfl ?_
    refine g_m (S := [aR 1554 0, oR 12 0]) (some (aR 1554 0)) q234 rfl rfl rfl (fun _ => rfl) rfl ?_
    refine g_cV q234 rfl (g235 X 1554 s24 ⟨rfl, rfl⟩) rfl rfl rfl rfl rfl (fun s25 => ?_)
    refine g_p q234 2 194 [some (oR 12 0), some (vI a1), some (vI a2)] [oR 12 0, oR 12 0] rfl ?_
    refine g_m (S := [aR 1555 0, oR 12 0]) (some (aR 1555 0)) q234 rfl rfl rfl (fun _ => rfl) rfl ?_
    refine g_cV q234 rfl (g235 X 1555 s25 ⟨rfl, rfl⟩) rfl rfl rfl rfl rfl (fun s26 => ?_)
    refine g_p q234 2 202 [some (oR 12 0), some (vI a1), some (vI a2)] [oR 12 0, oR 12 0] rfl ?_
    refine g_m (S := [aR 1556 0, oR 12 0]) (some (aR 1556 0)) q234 rfl rfl rfl (fun _ => rfl) rfl ?_
    refine g_cV q234 rfl (g235 X 1556 s26 ⟨rfl, rfl⟩) rfl rfl rfl rfl rfl (fun s27 => ?_)
    refine g_p q234 2 210 [some (oR 12 0), some (vI a1), some (vI a2)] [oR 12 0, oR 12 0] rfl ?_
    refine g_m (S := [aR 1591 0, oR 12 0]) (some (aR 1591 0)) q234 rfl rfl rfl (fun _ => rfl) rfl ?_
    refine g_cV q234 rfl (g235 X 1591 s27 ⟨rfl, rfl⟩) rfl rfl rfl rfl rfl (fun s28 => ?_)
    exact g_retV q234 rfl rfl
  ·
    exact g_retV q234 rfl rfl
theorem q233 : am_cd 233 = am_c233 := rfl
theorem g233 (X : X2) (s : S2) (o : Option (AV R2) × S2) : J (f233 s) (fun (r : S2) => o = (none, r)) (Go X 3 233 0 (am_loc (am_nl 233) [oR 12 0]) [] s o) := by
  show J _ _ (Go X 3 233 0 [some (oR 12 0)] [] s o)
  unfold f233
  refine g_p q233 3 3 [some (oR 12 0)] [vI 0, vI 4, oR 12 0] rfl ?_
  refine g_cV q233 rfl (g234 X 4 0 s) rfl rfl rfl rfl rfl (fun s1 => ?_)
  exact g_retV q233 rfl rfl
theorem q236 : am_cd 236 = am_c236 := rfl
def H236_a (X : X2) (y1 : Int) (o : Option (AV R2) × S2) (a : Int × S2) : Prop := Go X 7 236 2 [some (oR 12 0), some (vI y1), some (vI (a.1))] [] (a.2) o
def E236_a (X : X2) (y1 : Int) (o : Option (AV R2) × S2) : (S2) → Prop := (fun (r : S2) => Go X 7 236 18 [none, none, none] [] r o)
theorem g236_a (X : X2) (y1 : Int) (x2 : Int) (s3 : S2) (o : Option (AV R2) × S2) : J (f236_a y1 x2 s3) (am_kx (H236_a X y1 o) (E236_a X y1 o)) (Go X 7 236 2 [some (oR 12 0), some (vI y1), some (vI x2)] [] s3 o) := by
  unfold f236_a
  refine g_p q236 2 4 [some (oR 12 0), some (vI y1), some (vI x2)] [vI y1, vI x2] rfl ?_
  refine g_i2 q236 rfl rfl ?_ ?_
  ·
    exact g_end (fun h => g_wk [false, false, false] rfl h)
  ·
    refine g_p q236 1 8 [some (oR 12 0), some (vI y1), some (vI x2)] [oR 12 0] rfl ?_
    refine g_cRI q236 rfl (g222 X s3) rfl rfl rfl rfl rfl (fun r4 s5 => ?_)
    refine g_p q236 1 12 [some (oR 12 0), some (vI y1), some (vI x2)] [] rfl ?_
    refine g_inc (fun v6 => [some (oR 12 0), some (vI y1), some (vI v6)]) q236 rfl rfl (fun _ => rfl) (fun v6 => ?_)
    refine g_p q236 1 2 [some (oR 12 0), some (vI y1), some (vI v6)] [] rfl ?_
    exact g_end (fun h => g_wk [true, true, true] rfl h)
theorem g236 (X : X2) (a1 : Int) (s : S2) (o : Option (AV R2) × S2) : J (f236 a1 s) (fun (r : S2) => o = (none, r)) (Go X 7 236 0 (am_loc (am_nl 236) [oR 12 0, vI a1]) [] s o) := by
  show J _ _ (Go X 7 236 0 [some (oR 12 0), some (vI a1), none] [] s o)
  unfold f236
  refine g_p q236 2 2 [some (oR 12 0), some (vI a1), some (vI 0)] [] rfl ?_
  refine g_wkJ [true, true, true] (L0 := [some (oR 12 0), some (vI a1), some (vI 0)]) rfl ?_
  refine g_itr (H236_a X a1 o) (E236_a X a1 o) (fun | (x2, s3) => g236_a X a1 x2 s3 o) ?_
  intro s7
  show J _ _ (Go X 7 236 18 [none, none, none] [] s7 o)
  exact g_retV q236 rfl rfl
theorem q237 : am_cd 237 = am_c237 := rfl
theorem g237 (X : X2) (s : S2) (o : Option (AV R2) × S2) : J (f237 s) (fun (r : S2) => o = (none, r)) (Go X 3 237 0 (am_loc (am_nl 237) [oR 12 0]) [] s o) := by
  show J _ _ (Go X 3 237 0 [some (oR 12 0)] [] s o)
  unfold f237
  refine g_p q237 3 3 [some (oR 12 0)] [vI 1, vI 4, oR 12 0] rfl ?_
  refine g_cV q237 rfl (g234 X 4 1 s) rfl rfl rfl rfl rfl (fun s1 => ?_)
  exact g_retV q237 rfl rfl
theorem q231 : am_cd 231 = am_c231 := rfl
theorem g231 (X : X2) (a1 : Int) (a2 : Int) (a3 : Int) (s : S2) (o : Option (AV R2) × S2) : J (f231 a1 a2 a3 s) (fun (r : Int × S2) => o = (some (vI r.1), r.2)) (Go X 8 231 0 (am_loc (am_nl 231) [oR 12 0, vI a1, vI a2, vI a3]) [] s o) := by
  show J _ _ (Go X 8 231 0 [some (oR 12 0), some (vI a1), some (vI a2), some (vI a3), none] [] s o)
  unfold f231
  refine g_p q231 4 6 [some (oR 12 0), some (vI a1), some (vI a2), some (vI a3), none] [vL 2, vL 0, vL (ji2l a3)] rfl ?_
  refine g_cPI q231 rfl (g173 X (ji2l a3) 0 2 s) rfl rfl rfl rfl rfl (fun r1 => ?_)
  refine g_i1 q231 rfl rfl ?_ ?_
  ·
    refine g_p q231 1 35 [some (oR 12 0), some (vI a1), some (vI a2), some (vI a3), none] [vI (-2)] rfl ?_
    exact g_ret q231 rfl rfl rfl
  ·
    refine g_p q231 3 15 [some (oR 12 0), some (vI a1), some (vI a2), some (vI a3), none] [vI a3, vI a1, oR 12 0] rfl ?_
    refine g_cPI q231 rfl (g232 X a1 a3 s) rfl rfl rfl rfl rfl (fun r2 => ?_)
    refine g_i1 q231 rfl rfl ?_ ?_
    ·
      refine g_p q231 1 35 [some (oR 12 0), some (vI a1), some (vI a2), some (vI a3), none] [vI (-2)] rfl ?_
      exact g_ret q231 rfl rfl rfl
    ·
      refine g_p q231 4 27 [some (oR 12 0), some (vI a1), some (vI a2), some (vI a3), none] [vL 100, vL 0, vL (ji2l a2)] rfl ?_
      refine g_cPI q231 rfl (g173 X (ji2l a2) 0 100 s) rfl rfl rfl rfl rfl (fun r3 => ?_)
      refine g_i1 q231 rfl rfl ?_ ?_
      ·
        refine g_p q231 1 37 [some (oR 12 0), some (vI a1), some (vI a2), some (vI a3), none] [oR 12 0] rfl ?_
        refine g_cV q231 rfl (g233 X s) rfl rfl rfl rfl rfl (fun s4 => ?_)
        refine g_p q231 2 42 [some (oR 12 0), some (vI a1), some (vI a2), some (vI a3), none] [vI a2, oR 12 0] rfl ?_
        refine g_cV q231 rfl (g236 X a2 s4) rfl rfl rfl rfl rfl (fun s5 => ?_)
        refine g_p q231 1 46 [some (oR 12 0), some (vI a1), some (vI a2), some (vI a3), none] [vI a3] rfl ?_
        refine g_jn (fun j78 => ∀ (x6 : Int), J (j78 x6) (fun (r : Int × S2) => o = (some (vI r.1), r.2)) (Go X 8 231 78 [some (oR 12 0), none, none, none, none] [vI x6] s5 o)) ?_ (fun j78 hj78 => ?_)
        ·
          intro x6
          refine g_p q231 2 81 [some (oR 12 0), none, none, none, some (vI x6)] [oR 12 0] rfl ?_
          refine g_cV q231 rfl (g237 X s5) rfl rfl rfl rfl rfl (fun s7 => ?_)
          refine g_p q231 1 86 [some (oR 12 0), none, none, none, some (vI x6)] [vI x6] rfl ?_
          exact g_ret q231 rfl rfl rfl
        ·
          refine g_i1 q231 rfl rfl ?_ ?_
          ·
            refine g_p q231 2 60 [some (oR 12 0), some (vI a1), some (vI a2), some (vI a3), none] [vI 1, vI a3] rfl ?_
            refine g_i2 q231 rfl rfl ?_ ?_
            ·
              refine g_p q231 1 73 [some (oR 12 0), some (vI a1), some (vI a2), some (vI a3), none] [oR 12 0] rfl ?_
              refine g_m (S := [aR 1539 0]) (some (aR 1539 0)) q231 rfl rfl rfl (fun _ => rfl) rfl ?_
              refine g_p q231 1 77 [some (oR 12 0), some (vI a1), some (vI a2), some (vI a3), none] [vI a1, aR 1539 0] rfl ?_
              refine g_ld q231 rfl rfl rfl rfl rfl rfl (fun v8 => ?_)
              exact g_wkJ [true, false, false, false, false] rfl (hj78 v8)
            ·
              refine g_p q231 1 64 [some (oR 12 0), some (vI a1), some (vI a2), some (vI a3), none] [oR 12 0] rfl ?_
              refine g_m (S := [aR 1547 0]) (some (aR 1547 0)) q231 rfl rfl rfl (fun _ => rfl) rfl ?_
              refine g_p q231 1 68 [some (oR 12 0), some (vI a1), some (vI a2), some (vI a3), none] [vI a1, aR 1547 0] rfl ?_
              refine g_ld q231 rfl rfl rfl rfl rfl rfl (fun v9 => ?_)
              refine g_p q231 1 78 [some (oR 12 0), some (vI a1), some (vI a2), some (vI a3), none] [vI v9] rfl ?_
              exact g_wkJ [true, false, false, false, false] rfl (hj78 v9)
          ·
            refine g_p q231 1 50 [some (oR 12 0), some (vI a1), some (vI a2), some (vI a3), none] [oR 12 0] rfl ?_
            refine g_m (S := [aR 1544 0]) (some (aR 1544 0)) q231 rfl rfl rfl (fun _ => rfl) rfl ?_
            refine g_p q231 1 54 [some (oR 12 0), some (vI a1), some (vI a2), some (vI a3), none] [vI a1, aR 1544 0] rfl ?_
            refine g_ld q231 rfl rfl rfl rfl rfl rfl (fun v10 => ?_)
            refine g_p q231 1 78 [some (oR 12 0), some (vI a1), some (vI a2), some (vI a3), none] [vI v10] rfl ?_
            exact g_wkJ [true, false, false, false, false] rfl (hj78 v10)
      ·
        refine g_p q231 1 35 [some (oR 12 0), some (vI a1), some (vI a2), some (vI a3), none] [vI (-2)] rfl ?_
        exact g_ret q231 rfl rfl rfl
theorem q238 : am_cd 238 = am_c238 := rfl
def H238_a (X : X2) (y4 : Int) (o : Option (AV R2) × S2) (a : Int × Int × S2) : Prop := Go X 7 238 32 [some (oR 12 0), some (vI y4), some (vI (a.1)), some (vI (a.2.1))] [] (a.2.2) o
def E238_a (X : X2) (y4 : Int) (o : Option (AV R2) × S2) : (Int × S2) → Prop := (fun (r : Int × S2) => Go X 7 238 78 [some (oR 12 0), none, some (vI (r.1)), none] [] (r.2) o)
theorem g238_a (X : X2) (y4 : Int) (x5 : Int) (x6 : Int) (s7 : S2) (o : Option (AV R2) × S2) : J (f238_a y4 x5 x6 s7) (am_kx (H238_a X y4 o) (E238_a X y4 o)) (Go X 7 238 32 [some (oR 12 0), some (vI y4), some (vI x5), some (vI x6)] [] s7 o) := by
  unfold f238_a
  refine g_p q238 2 36 [some (oR 12 0), some (vI y4), some (vI x5), some (vI x6)] [vI 200, vI x6] rfl ?_
  refine g_i2 q238 rfl rfl ?_ ?_
  ·
    exact g_end (fun h => g_wk [true, false, true, false] rfl h)
  ·
    refine g_p q238 2 42 [some (oR 12 0), some (vI y4), some (vI x5), some (vI x6)] [vI (-2), vI x5] rfl ?_
    refine g_i2 q238 rfl rfl ?_ ?_
    ·
      exact g_end (fun h => g_wk [true, false, true, false] rfl h)
    ·
      refine g_p q238 1 46 [some (oR 12 0), some (vI y4), some (vI x5), some (vI x6)] [oR 12 0] rfl ?_
      refine g_m (S := [aR 1547 0]) (some (aR 1547 0)) q238 rfl rfl rfl (fun _ => rfl) rfl ?_
      refine g_p q238 1 50 [some (oR 12 0), some (vI y4), some (vI x5), some (vI x6)] [vI y4, aR 1547 0] rfl ?_
      refine g_ld q238 rfl rfl rfl rfl rfl rfl (fun v8 => ?_)
      refine g_jn (fun j66 => ∀ (x9 : Int), J (j66 x9) (am_kx (H238_a X y4 o) (E238_a X y4 o)) (Go X 7 238 66 [some (oR 12 0), some (vI y4), none, some (vI x6)] [vI x9] s7 o)) ?_ (fun j66 hj66 => ?_)
      ·
        intro x9
        refine g_p q238 2 68 [some (oR 12 0), some (vI y4), some (vI x9), some (vI x6)] [oR 12 0] rfl ?_
        refine g_cRI q238 rfl (g222 X s7) rfl rfl rfl rfl rfl (fun r10 s11 => ?_)
        refine g_p q238 1 72 [some (oR 12 0), some (vI y4), some (vI x9), some (vI x6)] [] rfl ?_
        refine g_inc (fun v12 => [some (oR 12 0), some (vI y4), some (vI x9), some (vI v12)]) q238 rfl rfl (fun _ => rfl) (fun v12 => ?_)
        refine g_p q238 1 32 [some (oR 12 0), some (vI y4), some (vI x9), some (vI v12)] [] rfl ?_
        exact g_end (fun h => g_wk [true, true, true, true] rfl h)
      ·
        refine g_i1 q238 rfl rfl ?_ ?_
        ·
          refine g_p q238 1 66 [some (oR 12 0), some (vI y4), some (vI x5), some (vI x6)] [vI (-2)] rfl ?_
          exact g_wkJ [true, true, false, true] rfl (hj66 (-2))
        ·
          refine g_p q238 1 55 [some (oR 12 0), some (vI y4), some (vI x5), some (vI x6)] [oR 12 0] rfl ?_
          refine g_m (S := [aR 1537 0]) (some (aR 1537 0)) q238 rfl rfl rfl (fun _ => rfl) rfl ?_
          refine g_p q238 1 60 [some (oR 12 0), some (vI y4), some (vI x5), some (vI x6)] [vI 7, aR 1537 0] rfl ?_
          refine g_ld q238 rfl rfl rfl rfl rfl rfl (fun v13 => ?_)
          refine g_p q238 1 66 [some (oR 12 0), some (vI y4), some (vI x5), some (vI x6)] [vI v13] rfl ?_
          exact g_wkJ [true, true, false, true] rfl (hj66 v13)
theorem g238 (X : X2) (a1 : Int) (s : S2) (o : Option (AV R2) × S2) : J (f238 a1 s) (fun (r : Int × S2) => o = (some (vI r.1), r.2)) (Go X 7 238 0 (am_loc (am_nl 238) [oR 12 0, vI a1]) [] s o) := by
  show J _ _ (Go X 7 238 0 [some (oR 12 0), some (vI a1), none, none] [] s o)
  unfold f238
  refine g_p q238 2 2 [some (oR 12 0), some (vI a1), none, none] [vI a1, oR 12 0] rfl ?_
  refine g_cPI q238 rfl (g214 X a1 s) rfl rfl rfl rfl rfl (fun r1 => ?_)
  refine g_i1 q238 rfl rfl ?_ ?_
  ·
    refine g_p q238 1 11 [some (oR 12 0), some (vI a1), none, none] [oR 12 0] rfl ?_
    refine g_m (S := [aR 1548 0]) (some (aR 1548 0)) q238 rfl rfl rfl (fun _ => rfl) rfl ?_
    refine g_p q238 1 15 [some (oR 12 0), some (vI a1), none, none] [vI a1, aR 1548 0] rfl ?_
    refine g_ld q238 rfl rfl rfl rfl rfl rfl (fun v2 => ?_)
    refine g_p q238 1 17 [some (oR 12 0), some (vI a1), none, none] [vI (-1), vI v2] rfl ?_
    refine g_i2 q238 rfl rfl ?_ ?_
    ·
      refine g_p q238 1 24 [some (oR 12 0), some (vI a1), none, none] [oR 12 0] rfl ?_
      refine g_cV q238 rfl (g233 X s) rfl rfl rfl rfl rfl (fun s3 => ?_)
      refine g_p q238 4 32 [some (oR 12 0), some (vI a1), some (vI (-2)), some (vI 0)] [] rfl ?_
      refine g_wkJ [true, true, true, true] (L0 := [some (oR 12 0), some (vI a1), some (vI (-2)), some (vI 0)]) rfl ?_
      refine g_itr (H238_a X a1 o) (E238_a X a1 o) (fun | (x5, x6, s7) => g238_a X a1 x5 x6 s7 o) ?_
      rintro ⟨z14, s15⟩
      show J _ _ (Go X 7 238 78 [some (oR 12 0), none, some (vI z14), none] [] s15 o)
      refine g_p q238 1 79 [some (oR 12 0), none, some (vI z14), none] [oR 12 0] rfl ?_
      refine g_cV q238 rfl (g237 X s15) rfl rfl rfl rfl rfl (fun s16 => ?_)
      refine g_p q238 1 83 [some (oR 12 0), none, some (vI z14), none] [vI z14] rfl ?_
      exact g_ret q238 rfl rfl rfl
    ·
      refine g_p q238 1 22 [some (oR 12 0), some (vI a1), none, none] [vI (-2)] rfl ?_
      exact g_ret q238 rfl rfl rfl
  ·
    refine g_p q238 1 9 [some (oR 12 0), some (vI a1), none, none] [vI (-1)] rfl ?_
    exact g_ret q238 rfl rfl rfl
theorem q240 : am_cd 240 = am_c240 := rfl
def H240_a (X : X2) (y2 : Int) (o : Option (AV R2) × S2) (a : Int × S2) : Prop := Go X 1 240 7 [some (oR 12 0), some (vI y2), some (vI (a.1))] [] (a.2) o
def E240_a (X : X2) (y2 : Int) (o : Option (AV R2) × S2) : (S2) → Prop := (fun (r : S2) => Go X 1 240 71 [none, none, none] [] r o)
theorem g240_a (X : X2) (y2 : Int) (x3 : Int) (s4 : S2) (o : Option (AV R2) × S2) : J (f240_a y2 x3 s4) (am_kx (H240_a X y2 o) (E240_a X y2 o)) (Go X 1 240 7 [some (oR 12 0), some (vI y2), some (vI x3)] [] s4 o) := by
  unfold f240_a
  refine g_p q240 2 9 [some (oR 12 0), some (vI y2), some (vI x3)] [oR 12 0, vI x3] rfl ?_
  refine g_m (S := [aR 1537 0, vI x3]) (some (aR 1537 0)) q240 rfl rfl rfl (fun _ => rfl) rfl ?_
  refine g_p q240 1 13 [some (oR 12 0), some (vI y2), some (vI x3)] [vI 4, aR 1537 0, vI x3] rfl ?_
  refine g_ld q240 rfl rfl rfl rfl rfl rfl (fun v5 => ?_)
  refine g_i2 q240 rfl rfl ?_ ?_
  ·
    exact g_end (fun h => g_wk [false, false, false] rfl h)
  ·
    refine g_p q240 1 18 [some (oR 12 0), some (vI y2), some (vI x3)] [oR 12 0] rfl ?_
    refine g_get q240 rfl rfl rfl (fun _ => rfl) (fun v6 => ?_)
    refine g_p q240 1 22 [some (oR 12 0), some (vI y2), some (vI x3)] [vI 4, vI v6] rfl ?_
    refine g_i2 q240 rfl rfl ?_ ?_
    ·
      exact g_end (fun h => g_wk [false, false, false] rfl h)
    ·
      refine g_p q240 1 26 [some (oR 12 0), some (vI y2), some (vI x3)] [oR 12 0] rfl ?_
      refine g_m (S := [aR 1545 0]) (some (aR 1545 0)) q240 rfl rfl rfl (fun _ => rfl) rfl ?_
      refine g_p q240 1 30 [some (oR 12 0), some (vI y2), some (vI x3)] [vI x3, aR 1545 0] rfl ?_
      refine g_ld q240 rfl rfl rfl rfl rfl rfl (fun v7 => ?_)
      refine g_p q240 1 32 [some (oR 12 0), some (vI y2), some (vI x3)] [vI y2, vI v7] rfl ?_
      refine g_i2 q240 rfl rfl ?_ ?_
      ·
        refine g_inc (fun v8 => [some (oR 12 0), some (vI y2), some (vI v8)]) q240 rfl rfl (fun _ => rfl) (fun v8 => ?_)
        refine g_p q240 1 7 [some (oR 12 0), some (vI y2), some (vI v8)] [] rfl ?_
        exact g_end (fun h => g_wk [true, true, true] rfl h)
      ·
        refine g_p q240 1 36 [some (oR 12 0), some (vI y2), some (vI x3)] [oR 12 0] rfl ?_
        refine g_m (S := [aR 1548 0]) (some (aR 1548 0)) q240 rfl rfl rfl (fun _ => rfl) rfl ?_
        refine g_p q240 1 40 [some (oR 12 0), some (vI y2), some (vI x3)] [vI x3, aR 1548 0] rfl ?_
        refine g_ld q240 rfl rfl rfl rfl rfl rfl (fun v9 => ?_)
        refine g_p q240 1 42 [some (oR 12 0), some (vI y2), some (vI x3)] [vI (-1), vI v9] rfl ?_
        refine g_i2 q240 rfl rfl ?_ ?_
        ·
          refine g_inc (fun v10 => [some (oR 12 0), some (vI y2), some (vI v10)]) q240 rfl rfl (fun _ => rfl) (fun v10 => ?_)
          refine g_p q240 1 7 [some (oR 12 0), some (vI y2), some (vI v10)] [] rfl ?_
          exact g_end (fun h => g_wk [true, true, true] rfl h)
        ·
          refine g_p q240 1 46 [some (oR 12 0), some (vI y2), some (vI x3)] [oR 12 0] rfl ?_
          refine g_m (S := [aR 1596 0]) (some (aR 1596 0)) q240 rfl rfl rfl (fun _ => rfl) rfl ?_
          refine g_p q240 1 50 [some (oR 12 0), some (vI y2), some (vI x3)] [oR 12 0, aR 1596 0] rfl ?_
          refine g_get q240 rfl rfl rfl (fun _ => rfl) (fun v11 => ?_)
          refine g_p q240 1 54 [some (oR 12 0), some (vI y2), some (vI x3)] [vI x3, vI v11, aR 1596 0] rfl ?_
          refine g_sto q240 rfl rfl rfl rfl (fun s12 => ?_)
          refine g_p q240 2 57 [some (oR 12 0), some (vI y2), some (vI x3)] [oR 12 0, oR 12 0] rfl ?_
          refine g_get q240 rfl rfl rfl (fun _ => rfl) (fun v13 => ?_)
          refine g_p q240 2 62 [some (oR 12 0), some (vI y2), some (vI x3)] [vI (jadd v13 1), oR 12 0] rfl ?_
          refine g_put q240 rfl rfl rfl (fun _ => rfl) (fun s14 => ?_)
          refine g_inc (fun v15 => [some (oR 12 0), some (vI y2), some (vI v15)]) q240 rfl rfl (fun _ => rfl) (fun v15 => ?_)
          refine g_p q240 1 7 [some (oR 12 0), some (vI y2), some (vI v15)] [] rfl ?_
          exact g_end (fun h => g_wk [true, true, true] rfl h)
theorem g240 (X : X2) (a1 : Int) (s : S2) (o : Option (AV R2) × S2) : J (f240 a1 s) (fun (r : S2) => o = (none, r)) (Go X 1 240 0 (am_loc (am_nl 240) [oR 12 0, vI a1]) [] s o) := by
  show J _ _ (Go X 1 240 0 [some (oR 12 0), some (vI a1), none] [] s o)
  unfold f240
  refine g_p q240 2 2 [some (oR 12 0), some (vI a1), none] [vI 0, oR 12 0] rfl ?_
  refine g_put q240 rfl rfl rfl (fun _ => rfl) (fun s1 => ?_)
  refine g_p q240 2 7 [some (oR 12 0), some (vI a1), some (vI 0)] [] rfl ?_
  refine g_wkJ [true, true, true] (L0 := [some (oR 12 0), some (vI a1), some (vI 0)]) rfl ?_
  refine g_itr (H240_a X a1 o) (E240_a X a1 o) (fun | (x3, s4) => g240_a X a1 x3 s4 o) ?_
  intro s16
  show J _ _ (Go X 1 240 71 [none, none, none] [] s16 o)
  exact g_retV q240 rfl rfl
theorem q241 : am_cd 241 = am_c241 := rfl
def H241_a (X : X2) (o : Option (AV R2) × S2) (a : Int × Int × S2) : Prop := Go X 4 241 9 [some (oR 12 0), none, some (vI (a.1)), some (vI (a.2.1))] [] (a.2.2) o
def E241_a (X : X2) (o : Option (AV R2) × S2) : (S2) → Prop := (fun (r : S2) => Go X 4 241 48 [some (oR 12 0), none, none, none] [] r o)
theorem g241_a (X : X2) (x3 : Int) (x4 : Int) (s5 : S2) (o : Option (AV R2) × S2) : J (f241_a x3 x4 s5) (am_kx (H241_a X o) (E241_a X o)) (Go X 4 241 9 [some (oR 12 0), none, some (vI x3), some (vI x4)] [] s5 o) := by
  unfold f241_a
  refine g_p q241 1 10 [some (oR 12 0), none, some (vI x3), some (vI x4)] [vI x4] rfl ?_
  refine g_i1 q241 rfl rfl ?_ ?_
  ·
    exact g_end (fun h => g_wk [true, false, false, false] rfl h)
  ·
    refine g_p q241 1 14 [some (oR 12 0), none, some (vI x3), some (vI x4)] [oR 12 0] rfl ?_
    refine g_m (S := [aR 1597 0]) (some (aR 1597 0)) q241 rfl rfl rfl (fun _ => rfl) rfl ?_
    refine g_p q241 3 20 [some (oR 12 0), none, some (vI x3), some (vI x4)] [oR 12 0, vI x3, vI x4, aR 1597 0] rfl ?_
    refine g_m (S := [aR 1537 0, vI x3, vI x4, aR 1597 0]) (some (aR 1537 0)) q241 rfl rfl rfl (fun _ => rfl) rfl ?_
    refine g_p q241 1 24 [some (oR 12 0), none, some (vI x3), some (vI x4)] [vI 3, aR 1537 0, vI x3, vI x4, aR 1597 0] rfl ?_
    refine g_ld q241 rfl rfl rfl rfl rfl rfl (fun v6 => ?_)
    refine g_p q241 2 27 [some (oR 12 0), none, some (vI x3), some (vI x4)] [vI (jadd v6 1), vI x3, vI x4, aR 1597 0] rfl ?_
    refine g_irem q241 rfl ?_
    refine g_p q241 2 30 [some (oR 12 0), none, some (vI x3), some (vI x4)] [vI (jsub (jrem x3 (jadd v6 1)) 1), vI x4, aR 1597 0] rfl ?_
    refine g_sto q241 rfl rfl rfl rfl (fun s7 => ?_)
    refine g_p q241 2 33 [some (oR 12 0), none, some (vI x3), some (vI x4)] [oR 12 0, vI x3] rfl ?_
    refine g_m (S := [aR 1537 0, vI x3]) (some (aR 1537 0)) q241 rfl rfl rfl (fun _ => rfl) rfl ?_
    refine g_p q241 1 37 [some (oR 12 0), none, some (vI x3), some (vI x4)] [vI 3, aR 1537 0, vI x3] rfl ?_
    refine g_ld q241 rfl rfl rfl rfl rfl rfl (fun v8 => ?_)
    refine g_p q241 2 40 [some (oR 12 0), none, some (vI x3), some (vI x4)] [vI (jadd v8 1), vI x3] rfl ?_
    refine g_idiv q241 rfl ?_
    refine g_top (fun v9 => ?_)
    refine g_p q241 1 42 [some (oR 12 0), none, some (vI v9), some (vI x4)] [] rfl ?_
    refine g_inc (fun v10 => [some (oR 12 0), none, some (vI v9), some (vI v10)]) q241 rfl rfl (fun _ => rfl) (fun v10 => ?_)
    refine g_p q241 1 9 [some (oR 12 0), none, some (vI v9), some (vI v10)] [] rfl ?_
    exact g_end (fun h => g_wk [true, false, true, true] rfl h)
def H241_b (X : X2) (o : Option (AV R2) × S2) (a : Int × S2) : Prop := Go X 4 241 50 [some (oR 12 0), none, none, some (vI (a.1))] [] (a.2) o
def E241_b (X : X2) (o : Option (AV R2) × S2) : (S2) ⊕ (S2) → Prop := (am_kx (fun (r : S2) => Go X 4 241 87 [none, none, none, none] [] r o) (fun (r : S2) => Go X 4 241 121 [none, none, none, none] [] r o))
theorem g241_b (X : X2) (x12 : Int) (s13 : S2) (o : Option (AV R2) × S2) : J (f241_b x12 s13) (am_kx (H241_b X o) (E241_b X o)) (Go X 4 241 50 [some (oR 12 0), none, none, some (vI x12)] [] s13 o) := by
  unfold f241_b
  refine g_p q241 2 52 [some (oR 12 0), none, none, some (vI x12)] [oR 12 0, vI x12] rfl ?_
  refine g_get q241 rfl rfl rfl (fun _ => rfl) (fun v14 => ?_)
  refine g_i2 q241 rfl rfl ?_ ?_
  ·
    exact g_end (fun h => g_wk [false, false, false, false] rfl h)
  ·
    refine g_p q241 1 59 [some (oR 12 0), none, none, some (vI x12)] [oR 12 0] rfl ?_
    refine g_m (S := [aR 1597 0]) (some (aR 1597 0)) q241 rfl rfl rfl (fun _ => rfl) rfl ?_
    refine g_p q241 1 63 [some (oR 12 0), none, none, some (vI x12)] [vI x12, aR 1597 0] rfl ?_
    refine g_ld q241 rfl rfl rfl rfl rfl rfl (fun v15 => ?_)
    refine g_p q241 1 65 [some (oR 12 0), none, none, some (vI x12)] [vI (-1), vI v15] rfl ?_
    refine g_jn (fun j89 => ∀ (_ : Unit), J (j89 ()) (am_kx (H241_b X o) (E241_b X o)) (Go X 4 241 89 [some (oR 12 0), none, none, some (vI x12)] [] s13 o)) ?_ (fun j89 hj89 => ?_)
    ·
      intro _
      refine g_p q241 1 90 [some (oR 12 0), none, none, some (vI x12)] [oR 12 0] rfl ?_
      refine g_m (S := [aR 1597 0]) (some (aR 1597 0)) q241 rfl rfl rfl (fun _ => rfl) rfl ?_
      refine g_p q241 1 94 [some (oR 12 0), none, none, some (vI x12)] [vI x12, aR 1597 0] rfl ?_
      refine g_ld q241 rfl rfl rfl rfl rfl rfl (fun v16 => ?_)
      refine g_p q241 1 96 [some (oR 12 0), none, none, some (vI x12)] [vI (-1), vI v16] rfl ?_
      refine g_i2 q241 rfl rfl ?_ ?_
      ·
        refine g_inc (fun v17 => [some (oR 12 0), none, none, some (vI v17)]) q241 rfl rfl (fun _ => rfl) (fun v17 => ?_)
        refine g_p q241 1 50 [some (oR 12 0), none, none, some (vI v17)] [] rfl ?_
        exact g_end (fun h => g_wk [true, false, false, true] rfl h)
      ·
        refine g_p q241 2 101 [some (oR 12 0), none, none, some (vI x12)] [oR 12 0, oR 12 0] rfl ?_
        refine g_m (S := [aR 1596 0, oR 12 0]) (some (aR 1596 0)) q241 rfl rfl rfl (fun _ => rfl) rfl ?_
        refine g_p q241 1 105 [some (oR 12 0), none, none, some (vI x12)] [vI x12, aR 1596 0, oR 12 0] rfl ?_
        refine g_ld q241 rfl rfl rfl rfl rfl rfl (fun v18 => ?_)
        refine g_p q241 1 107 [some (oR 12 0), none, none, some (vI x12)] [oR 12 0, vI v18, oR 12 0] rfl ?_
        refine g_m (S := [aR 1597 0, vI v18, oR 12 0]) (some (aR 1597 0)) q241 rfl rfl rfl (fun _ => rfl) rfl ?_
        refine g_p q241 1 111 [some (oR 12 0), none, none, some (vI x12)] [vI x12, aR 1597 0, vI v18, oR 12 0] rfl ?_
        refine g_ld q241 rfl rfl rfl rfl rfl rfl (fun v19 => ?_)
        refine g_cV q241 rfl (g225 X v18 v19 s13) rfl rfl rfl rfl rfl (fun s20 => ?_)
        refine g_inc (fun v21 => [some (oR 12 0), none, none, some (vI v21)]) q241 rfl rfl (fun _ => rfl) (fun v21 => ?_)
        refine g_p q241 1 50 [some (oR 12 0), none, none, some (vI v21)] [] rfl ?_
        exact g_end (fun h => g_wk [true, false, false, true] rfl h)
    ·
      refine g_i2 q241 rfl rfl ?_ ?_
      ·
        exact g_wkJ [true, false, false, true] rfl (hj89 ())
      ·
        refine g_p q241 2 70 [some (oR 12 0), none, none, some (vI x12)] [oR 12 0, oR 12 0] rfl ?_
        refine g_m (S := [aR 1596 0, oR 12 0]) (some (aR 1596 0)) q241 rfl rfl rfl (fun _ => rfl) rfl ?_
        refine g_p q241 1 74 [some (oR 12 0), none, none, some (vI x12)] [vI x12, aR 1596 0, oR 12 0] rfl ?_
        refine g_ld q241 rfl rfl rfl rfl rfl rfl (fun v22 => ?_)
        refine g_p q241 1 76 [some (oR 12 0), none, none, some (vI x12)] [oR 12 0, vI v22, oR 12 0] rfl ?_
        refine g_m (S := [aR 1597 0, vI v22, oR 12 0]) (some (aR 1597 0)) q241 rfl rfl rfl (fun _ => rfl) rfl ?_
        refine g_p q241 1 80 [some (oR 12 0), none, none, some (vI x12)] [vI x12, aR 1597 0, vI v22, oR 12 0] rfl ?_
        refine g_ld q241 rfl rfl rfl rfl rfl rfl (fun v23 => ?_)
        refine g_cPI q241 rfl (g224 X v22 v23 s13) rfl rfl rfl rfl rfl (fun r24 => ?_)
        refine g_i1 q241 rfl rfl ?_ ?_
        ·
          exact g_wkJ [true, false, false, true] rfl (hj89 ())
        ·
          exact g_end (fun h => g_wk [false, false, false, false] rfl h)
theorem g241 (X : X2) (a1 : Int) (s : S2) (o : Option (AV R2) × S2) : J (f241 a1 s) (fun (r : Int × S2) => o = (some (vI r.1), r.2)) (Go X 4 241 0 (am_loc (am_nl 241) [oR 12 0, vI a1]) [] s o) := by
  show J _ _ (Go X 4 241 0 [some (oR 12 0), some (vI a1), none, none] [] s o)
  unfold f241
  refine g_p q241 3 3 [some (oR 12 0), some (vI a1), some (vI a1), none] [oR 12 0] rfl ?_
  refine g_get q241 rfl rfl rfl (fun _ => rfl) (fun v1 => ?_)
  refine g_p q241 2 8 [some (oR 12 0), some (vI a1), some (vI a1), none] [vI (jsub v1 1)] rfl ?_
  refine g_top (fun v2 => ?_)
  refine g_p q241 1 9 [some (oR 12 0), some (vI a1), some (vI a1), some (vI v2)] [] rfl ?_
  refine g_wkJ [true, false, true, true] (L0 := [some (oR 12 0), none, some (vI a1), some (vI v2)]) rfl ?_
  refine g_itr (H241_a X o) (E241_a X o) (fun | (x3, x4, s5) => g241_a X x3 x4 s5 o) ?_
  intro s11
  show J _ _ (Go X 4 241 48 [some (oR 12 0), none, none, none] [] s11 o)
  refine g_p q241 2 50 [some (oR 12 0), none, none, some (vI 0)] [] rfl ?_
  refine g_wkJ [true, false, false, true] (L0 := [some (oR 12 0), none, none, some (vI 0)]) rfl ?_
  refine g_itr (H241_b X o) (E241_b X o) (fun | (x12, s13) => g241_b X x12 s13 o) ?_
  refine g_se ?_ ?_
  ·
    intro s25
    show J _ _ (Go X 4 241 87 [none, none, none, none] [] s25 o)
    refine g_p q241 1 88 [none, none, none, none] [vI 0] rfl ?_
    exact g_ret q241 rfl rfl rfl
  ·
    intro s26
    show J _ _ (Go X 4 241 121 [none, none, none, none] [] s26 o)
    refine g_p q241 1 122 [none, none, none, none] [vI 1] rfl ?_
    exact g_ret q241 rfl rfl rfl
theorem q239 : am_cd 239 = am_c239 := rfl
def H239_a (X : X2) (y5 : Int) (y6 : Int) (y7 : Int) (s10 : S2) (o : Option (AV R2) × S2) (a : Int × Int) : Prop := Go X 8 239 46 [some (oR 12 0), some (vI y5), some (vI y6), some (vI y7), some (vI (a.1)), some (vI (a.2)), none] [] s10 o
def E239_a (X : X2) (y5 : Int) (y6 : Int) (y7 : Int) (s10 : S2) (o : Option (AV R2) × S2) : (Int) → Prop := (fun (r : Int) => Go X 8 239 74 [some (oR 12 0), some (vI y5), some (vI y6), some (vI y7), some (vI r), none, none] [] s10 o)
theorem g239_a (X : X2) (y5 : Int) (y6 : Int) (y7 : Int) (x8 : Int) (x9 : Int) (s10 : S2) (o : Option (AV R2) × S2) : J (f239_a x8 x9 s10) (am_kx (H239_a X y5 y6 y7 s10 o) (E239_a X y5 y6 y7 s10 o)) (Go X 8 239 46 [some (oR 12 0), some (vI y5), some (vI y6), some (vI y7), some (vI x8), some (vI x9), none] [] s10 o) := by
  unfold f239_a
  refine g_p q239 2 49 [some (oR 12 0), some (vI y5), some (vI y6), some (vI y7), some (vI x8), some (vI x9), none] [oR 12 0, vI x9] rfl ?_
  refine g_get q239 rfl rfl rfl (fun _ => rfl) (fun v11 => ?_)
  refine g_i2 q239 rfl rfl ?_ ?_
  ·
    exact g_end (fun h => g_wk [true, true, true, true, true, false, false] rfl h)
  ·
    refine g_p q239 2 58 [some (oR 12 0), some (vI y5), some (vI y6), some (vI y7), some (vI x8), some (vI x9), none] [oR 12 0, vI x8] rfl ?_
    refine g_m (S := [aR 1537 0, vI x8]) (some (aR 1537 0)) q239 rfl rfl rfl (fun _ => rfl) rfl ?_
    refine g_p q239 1 62 [some (oR 12 0), some (vI y5), some (vI y6), some (vI y7), some (vI x8), some (vI x9), none] [vI 3, aR 1537 0, vI x8] rfl ?_
    refine g_ld q239 rfl rfl rfl rfl rfl rfl (fun v12 => ?_)
    refine g_p q239 3 66 [some (oR 12 0), some (vI y5), some (vI y6), some (vI y7), some (vI x8), some (vI x9), none] [vI (jmul x8 (jadd v12 1))] rfl ?_
    refine g_top (fun v13 => ?_)
    refine g_p q239 1 68 [some (oR 12 0), some (vI y5), some (vI y6), some (vI y7), some (vI v13), some (vI x9), none] [] rfl ?_
    refine g_inc (fun v14 => [some (oR 12 0), some (vI y5), some (vI y6), some (vI y7), some (vI v13), some (vI v14), none]) q239 rfl rfl (fun _ => rfl) (fun v14 => ?_)
    refine g_p q239 1 46 [some (oR 12 0), some (vI y5), some (vI y6), some (vI y7), some (vI v13), some (vI v14), none] [] rfl ?_
    exact g_end (fun h => g_wk [true, true, true, true, true, true, false] rfl h)
def H239_b (X : X2) (y17 : Int) (y18 : Int) (y19 : Int) (y20 : Int) (o : Option (AV R2) × S2) (a : Int × Int × S2) : Prop := Go X 8 239 84 [some (oR 12 0), some (vI y17), some (vI y18), some (vI y19), some (vI y20), some (vI (a.1)), some (vI (a.2.1))] [] (a.2.2) o
def E239_b (X : X2) (y17 : Int) (y18 : Int) (y19 : Int) (y20 : Int) (o : Option (AV R2) × S2) : (Int × S2) → Prop := (fun (r : Int × S2) => Go X 8 239 145 [some (oR 12 0), none, none, some (vI y19), none, some (vI (r.1)), none] [] (r.2) o)
theorem g239_b (X : X2) (y17 : Int) (y18 : Int) (y19 : Int) (y20 : Int) (x21 : Int) (x22 : Int) (s23 : S2) (o : Option (AV R2) × S2) : J (f239_b y17 y18 y20 x21 x22 s23) (am_kx (H239_b X y17 y18 y19 y20 o) (E239_b X y17 y18 y19 y20 o)) (Go X 8 239 84 [some (oR 12 0), some (vI y17), some (vI y18), some (vI y19), some (vI y20), some (vI x21), some (vI x22)] [] s23 o) := by
  unfold f239_b
  refine g_p q239 2 88 [some (oR 12 0), some (vI y17), some (vI y18), some (vI y19), some (vI y20), some (vI x21), some (vI x22)] [vI y20, vI x22] rfl ?_
  refine g_i2 q239 rfl rfl ?_ ?_
  ·
    exact g_end (fun h => g_wk [true, false, false, true, false, true, false] rfl h)
  ·
    refine g_p q239 2 94 [some (oR 12 0), some (vI y17), some (vI y18), some (vI y19), some (vI y20), some (vI x21), some (vI x22)] [vI x22, oR 12 0] rfl ?_
    refine g_cRI q239 rfl (g241 X x22 s23) rfl rfl rfl rfl rfl (fun r24 s25 => ?_)
    refine g_jn (fun j135 => ∀ (x26 : Int) (s27 : S2), J (j135 x26 s27) (am_kx (H239_b X y17 y18 y19 y20 o) (E239_b X y17 y18 y19 y20 o)) (Go X 8 239 135 [some (oR 12 0), some (vI y17), some (vI y18), some (vI y19), some (vI y20), some (vI x26), some (vI x22)] [] s27 o)) ?_ (fun j135 hj135 => ?_)
    ·
      intro x26 s27
      refine g_p q239 1 136 [some (oR 12 0), some (vI y17), some (vI y18), some (vI y19), some (vI y20), some (vI x26), some (vI x22)] [oR 12 0] rfl ?_
      refine g_cV q239 rfl (g237 X s27) rfl rfl rfl rfl rfl (fun s28 => ?_)
      refine g_inc (fun v29 => [some (oR 12 0), some (vI y17), some (vI y18), some (vI y19), some (vI y20), some (vI x26), some (vI v29)]) q239 rfl rfl (fun _ => rfl) (fun v29 => ?_)
      refine g_p q239 1 84 [some (oR 12 0), some (vI y17), some (vI y18), some (vI y19), some (vI y20), some (vI x26), some (vI v29)] [] rfl ?_
      exact g_end (fun h => g_wk [true, true, true, true, true, true, true] rfl h)
    ·
      refine g_i1 q239 rfl rfl ?_ ?_
      ·
        exact g_wkJ [true, true, true, true, true, true, true] rfl (hj135 x21 s25)
      ·
        refine g_p q239 2 102 [some (oR 12 0), some (vI y17), some (vI y18), some (vI y19), some (vI y20), some (vI x21), some (vI x22)] [vI y18, oR 12 0] rfl ?_
        refine g_cV q239 rfl (g236 X y18 s25) rfl rfl rfl rfl rfl (fun s30 => ?_)
        refine g_p q239 1 106 [some (oR 12 0), some (vI y17), some (vI y18), some (vI y19), some (vI y20), some (vI x21), some (vI x22)] [oR 12 0] rfl ?_
        refine g_m (S := [aR 1539 0]) (some (aR 1539 0)) q239 rfl rfl rfl (fun _ => rfl) rfl ?_
        refine g_p q239 1 110 [some (oR 12 0), some (vI y17), some (vI y18), some (vI y19), some (vI y20), some (vI x21), some (vI x22)] [vI y17, aR 1539 0] rfl ?_
        refine g_ld q239 rfl rfl rfl rfl rfl rfl (fun v31 => ?_)
        refine g_p q239 1 113 [some (oR 12 0), some (vI y17), some (vI y18), some (vI y19), some (vI y20), some (vI x21), some (vI x22)] [vI x21, vI v31] rfl ?_
        refine g_i2 q239 rfl rfl ?_ ?_
        ·
          exact g_wkJ [true, true, true, true, true, true, true] rfl (hj135 x21 s30)
        ·
          refine g_p q239 1 117 [some (oR 12 0), some (vI y17), some (vI y18), some (vI y19), some (vI y20), some (vI x21), some (vI x22)] [oR 12 0] rfl ?_
          refine g_m (S := [aR 1539 0]) (some (aR 1539 0)) q239 rfl rfl rfl (fun _ => rfl) rfl ?_
          refine g_p q239 1 121 [some (oR 12 0), some (vI y17), some (vI y18), some (vI y19), some (vI y20), some (vI x21), some (vI x22)] [vI y17, aR 1539 0] rfl ?_
          refine g_ld q239 rfl rfl rfl rfl rfl rfl (fun v32 => ?_)
          refine g_p q239 2 125 [some (oR 12 0), some (vI y17), some (vI y18), some (vI y19), some (vI y20), some (vI v32), some (vI x22)] [oR 12 0] rfl ?_
          refine g_m (S := [aR 1597 0]) (some (aR 1597 0)) q239 rfl rfl rfl (fun _ => rfl) rfl ?_
          refine g_p q239 1 129 [some (oR 12 0), some (vI y17), some (vI y18), some (vI y19), some (vI y20), some (vI v32), some (vI x22)] [oR 12 0, aR 1597 0] rfl ?_
          refine g_m (S := [aR 1598 0, aR 1597 0]) (some (aR 1598 0)) q239 rfl rfl rfl (fun _ => rfl) rfl ?_
          refine g_cV q239 rfl (g179 X 1597 1598 s30 ⟨rfl, rfl⟩ ⟨rfl, rfl⟩) rfl rfl rfl rfl rfl (fun s33 => ?_)
          exact g_wkJ [true, true, true, true, true, true, true] rfl (hj135 v32 s33)
theorem g239 (X : X2) (a1 : Int) (a2 : Int) (a3 : Int) (s : S2) (o : Option (AV R2) × S2) : J (f239 a1 a2 a3 s) (fun (r : Int × S2) => o = (some (vI r.1), r.2)) (Go X 8 239 0 (am_loc (am_nl 239) [oR 12 0, vI a1, vI a2, vI a3]) [] s o) := by
  show J _ _ (Go X 8 239 0 [some (oR 12 0), some (vI a1), some (vI a2), some (vI a3), none, none, none] [] s o)
  unfold f239
  refine g_p q239 2 2 [some (oR 12 0), some (vI a1), some (vI a2), some (vI a3), none, none, none] [vI a1, oR 12 0] rfl ?_
  refine g_cPI q239 rfl (g198 X a1 s) rfl rfl rfl rfl rfl (fun r1 => ?_)
  refine g_i1 q239 rfl rfl ?_ ?_
  ·
    refine g_p q239 1 34 [some (oR 12 0), some (vI a1), some (vI a2), some (vI a3), none, none, none] [vI (-3)] rfl ?_
    exact g_ret q239 rfl rfl rfl
  ·
    refine g_p q239 4 14 [some (oR 12 0), some (vI a1), some (vI a2), some (vI a3), none, none, none] [vL 12, vL 1, vL (ji2l a2)] rfl ?_
    refine g_cPI q239 rfl (g173 X (ji2l a2) 1 12 s) rfl rfl rfl rfl rfl (fun r2 => ?_)
    refine g_i1 q239 rfl rfl ?_ ?_
    ·
      refine g_p q239 1 34 [some (oR 12 0), some (vI a1), some (vI a2), some (vI a3), none, none, none] [vI (-3)] rfl ?_
      exact g_ret q239 rfl rfl rfl
    ·
      refine g_p q239 4 26 [some (oR 12 0), some (vI a1), some (vI a2), some (vI a3), none, none, none] [vL 4, vL 0, vL (ji2l a3)] rfl ?_
      refine g_cPI q239 rfl (g173 X (ji2l a3) 0 4 s) rfl rfl rfl rfl rfl (fun r3 => ?_)
      refine g_i1 q239 rfl rfl ?_ ?_
      ·
        refine g_p q239 2 37 [some (oR 12 0), some (vI a1), some (vI a2), some (vI a3), none, none, none] [vI a1, oR 12 0] rfl ?_
        refine g_cV q239 rfl (g240 X a1 s) rfl rfl rfl rfl rfl (fun s4 => ?_)
        refine g_p q239 4 46 [some (oR 12 0), some (vI a1), some (vI a2), some (vI a3), some (vI 1), some (vI 0), none] [] rfl ?_
        refine g_wkJ [true, true, true, true, true, true, false] (L0 := [some (oR 12 0), some (vI a1), some (vI a2), some (vI a3), some (vI 1), some (vI 0), none]) rfl ?_
        refine g_itr (H239_a X a1 a2 a3 s4 o) (E239_a X a1 a2 a3 s4 o) (fun | (x8, x9) => g239_a X a1 a2 a3 x8 x9 s4 o) ?_
        intro z15
        show J _ _ (Go X 8 239 74 [some (oR 12 0), some (vI a1), some (vI a2), some (vI a3), some (vI z15), none, none] [] s4 o)
        refine g_p q239 3 78 [some (oR 12 0), some (vI a1), some (vI a2), some (vI a3), some (vI z15), some (vI (-1)), none] [oR 12 0] rfl ?_
        refine g_cV q239 rfl (g233 X s4) rfl rfl rfl rfl rfl (fun s16 => ?_)
        refine g_p q239 2 84 [some (oR 12 0), some (vI a1), some (vI a2), some (vI a3), some (vI z15), some (vI (-1)), some (vI 0)] [] rfl ?_
        refine g_wkJ [true, true, true, true, true, true, true] (L0 := [some (oR 12 0), some (vI a1), some (vI a2), some (vI a3), some (vI z15), some (vI (-1)), some (vI 0)]) rfl ?_
        refine g_itr (H239_b X a1 a2 a3 z15 o) (E239_b X a1 a2 a3 z15 o) (fun | (x21, x22, s23) => g239_b X a1 a2 a3 z15 x21 x22 s23 o) ?_
        rintro ⟨z34, s35⟩
        show J _ _ (Go X 8 239 145 [some (oR 12 0), none, none, some (vI a3), none, some (vI z34), none] [] s35 o)
        refine g_p q239 1 146 [some (oR 12 0), none, none, some (vI a3), none, some (vI z34), none] [vI a3] rfl ?_
        refine g_i1 q239 rfl rfl ?_ ?_
        ·
          refine g_p q239 2 156 [some (oR 12 0), none, none, some (vI a3), none, some (vI z34), none] [oR 12 0, vI a3] rfl ?_
          refine g_get q239 rfl rfl rfl (fun _ => rfl) (fun v36 => ?_)
          refine g_i2 q239 rfl rfl ?_ ?_
          ·
            refine g_p q239 1 175 [some (oR 12 0), none, none, some (vI a3), none, some (vI z34), none] [vI (-2)] rfl ?_
            exact g_ret q239 rfl rfl rfl
          ·
            refine g_p q239 1 163 [some (oR 12 0), none, none, some (vI a3), none, some (vI z34), none] [oR 12 0] rfl ?_
            refine g_m (S := [aR 1598 0]) (some (aR 1598 0)) q239 rfl rfl rfl (fun _ => rfl) rfl ?_
            refine g_p q239 3 169 [some (oR 12 0), none, none, some (vI a3), none, some (vI z34), none] [vI (jsub a3 1), aR 1598 0] rfl ?_
            refine g_ld q239 rfl rfl rfl rfl rfl rfl (fun v37 => ?_)
            refine g_p q239 1 175 [some (oR 12 0), none, none, some (vI a3), none, some (vI z34), none] [vI v37] rfl ?_
            exact g_ret q239 rfl rfl rfl
        ·
          refine g_p q239 2 175 [some (oR 12 0), none, none, some (vI a3), none, some (vI z34), none] [vI z34] rfl ?_
          exact g_ret q239 rfl rfl rfl
      ·
        refine g_p q239 1 34 [some (oR 12 0), some (vI a1), some (vI a2), some (vI a3), none, none, none] [vI (-3)] rfl ?_
        exact g_ret q239 rfl rfl rfl
theorem q244 : am_cd 244 = am_c244 := rfl
theorem g244 (X : X2) (a1 : Int) (a2 : Int) (s : S2) (o : Option (AV R2) × S2) : J (f244 a1 a2 s) (fun (r : S2) => o = (none, r)) (Go X 1 244 0 (am_loc (am_nl 244) [oR 12 0, vI a1, vI a2]) [] s o) := by
  show J _ _ (Go X 1 244 0 [some (oR 12 0), some (vI a1), some (vI a2), none] [] s o)
  unfold f244
  refine g_p q244 1 1 [some (oR 12 0), some (vI a1), some (vI a2), none] [oR 12 0] rfl ?_
  refine g_m (S := [aR 1601 0]) (some (aR 1601 0)) q244 rfl rfl rfl (fun _ => rfl) rfl ?_
  refine g_p q244 1 5 [some (oR 12 0), some (vI a1), some (vI a2), none] [vI a1, aR 1601 0] rfl ?_
  refine g_ld q244 rfl rfl rfl rfl rfl rfl (fun v1 => ?_)
  refine g_p q244 1 9 [some (oR 12 0), some (vI a1), some (vI a2), none] [vI 1000000, vI v1] rfl ?_
  refine g_jn (fun j46 => ∀ (x2 : Int), J (j46 x2) (fun (r : S2) => o = (none, r)) (Go X 1 244 46 [some (oR 12 0), some (vI a1), some (vI a2), none] [vI x2] s o)) ?_ (fun j46 hj46 => ?_)
  ·
    intro x2
    refine g_p q244 2 48 [some (oR 12 0), some (vI a1), some (vI a2), some (vI x2)] [vI x2] rfl ?_
    refine g_i1 q244 rfl rfl ?_ ?_
    ·
      exact g_retV q244 rfl rfl
    ·
      refine g_p q244 1 52 [some (oR 12 0), some (vI a1), some (vI a2), some (vI x2)] [oR 12 0] rfl ?_
      refine g_m (S := [aR 1601 0]) (some (aR 1601 0)) q244 rfl rfl rfl (fun _ => rfl) rfl ?_
      refine g_p q244 2 57 [some (oR 12 0), some (vI a1), some (vI a2), some (vI x2)] [vI a2, vI a1, aR 1601 0] rfl ?_
      refine g_sto q244 rfl rfl rfl rfl (fun s3 => ?_)
      refine g_p q244 2 60 [some (oR 12 0), some (vI a1), some (vI a2), some (vI x2)] [vI a1, oR 12 0] rfl ?_
      refine g_jn (fun j76 => ∀ (x4 : Int), J (j76 x4) (fun (r : S2) => o = (none, r)) (Go X 1 244 76 [none, none, none, none] [vI x4, oR 12 0] s3 o)) ?_ (fun j76 hj76 => ?_)
      ·
        intro x4
        refine g_put q244 rfl rfl rfl (fun _ => rfl) (fun s5 => ?_)
        exact g_retV q244 rfl rfl
      ·
        refine g_i1 q244 rfl rfl ?_ ?_
        ·
          refine g_p q244 1 73 [some (oR 12 0), some (vI a1), some (vI a2), some (vI x2)] [oR 12 0, oR 12 0] rfl ?_
          refine g_get q244 rfl rfl rfl (fun _ => rfl) (fun v6 => ?_)
          exact g_wkJ [false, false, false, false] rfl (hj76 v6)
        ·
          refine g_p q244 1 64 [some (oR 12 0), some (vI a1), some (vI a2), some (vI x2)] [oR 12 0, oR 12 0] rfl ?_
          refine g_m (S := [aR 1600 0, oR 12 0]) (some (aR 1600 0)) q244 rfl rfl rfl (fun _ => rfl) rfl ?_
          refine g_p q244 1 68 [some (oR 12 0), some (vI a1), some (vI a2), some (vI x2)] [vI 0, aR 1600 0, oR 12 0] rfl ?_
          refine g_ld q244 rfl rfl rfl rfl rfl rfl (fun v7 => ?_)
          refine g_p q244 1 76 [some (oR 12 0), some (vI a1), some (vI a2), some (vI x2)] [vI v7, oR 12 0] rfl ?_
          exact g_wkJ [false, false, false, false] rfl (hj76 v7)
  ·
    refine g_jn (fun j41 => ∀ (_ : Unit), J (j41 ()) (fun (r : S2) => o = (none, r)) (Go X 1 244 41 [some (oR 12 0), some (vI a1), some (vI a2), none] [] s o)) ?_ (fun j41 hj41 => ?_)
    ·
      intro _
      refine g_p q244 2 46 [some (oR 12 0), some (vI a1), some (vI a2), none] [vI 1] rfl ?_
      exact g_wkJ [true, true, true, false] rfl (hj46 1)
    ·
      refine g_i2 q244 rfl rfl ?_ ?_
      ·
        exact g_wkJ [true, true, true, false] rfl (hj41 ())
      ·
        refine g_p q244 3 15 [some (oR 12 0), some (vI a1), some (vI a2), none] [vI (jrem a1 2)] rfl ?_
        refine g_jn (fun j45 => ∀ (_ : Unit), J (j45 ()) (fun (r : S2) => o = (none, r)) (Go X 1 244 45 [some (oR 12 0), some (vI a1), some (vI a2), none] [] s o)) ?_ (fun j45 hj45 => ?_)
        ·
          intro _
          refine g_p q244 1 46 [some (oR 12 0), some (vI a1), some (vI a2), none] [vI 0] rfl ?_
          exact g_wkJ [true, true, true, false] rfl (hj46 0)
        ·
          refine g_i1 q244 rfl rfl ?_ ?_
          ·
            refine g_p q244 2 33 [some (oR 12 0), some (vI a1), some (vI a2), none] [oR 12 0, vI a2] rfl ?_
            refine g_m (S := [aR 1601 0, vI a2]) (some (aR 1601 0)) q244 rfl rfl rfl (fun _ => rfl) rfl ?_
            refine g_p q244 1 37 [some (oR 12 0), some (vI a1), some (vI a2), none] [vI a1, aR 1601 0, vI a2] rfl ?_
            refine g_ld q244 rfl rfl rfl rfl rfl rfl (fun v8 => ?_)
            refine g_i2 q244 rfl rfl ?_ ?_
            ·
              exact g_wkJ [true, true, true, false] rfl (hj45 ())
            ·
              exact g_wkJ [true, true, true, false] rfl (hj41 ())
          ·
            refine g_p q244 2 20 [some (oR 12 0), some (vI a1), some (vI a2), none] [oR 12 0, vI a2] rfl ?_
            refine g_m (S := [aR 1601 0, vI a2]) (some (aR 1601 0)) q244 rfl rfl rfl (fun _ => rfl) rfl ?_
            refine g_p q244 1 24 [some (oR 12 0), some (vI a1), some (vI a2), none] [vI a1, aR 1601 0, vI a2] rfl ?_
            refine g_ld q244 rfl rfl rfl rfl rfl rfl (fun v9 => ?_)
            refine g_i2 q244 rfl rfl ?_ ?_
            ·
              exact g_wkJ [true, true, true, false] rfl (hj45 ())
            ·
              refine g_p q244 1 41 [some (oR 12 0), some (vI a1), some (vI a2), none] [] rfl ?_
              exact g_wkJ [true, true, true, false] rfl (hj41 ())
theorem q246 : am_cd 246 = am_c246 := rfl
theorem g246 (X : X2) (a1 : Int) (a2 : Int) (s : S2) (o : Option (AV R2) × S2) : J (f246 a1 a2 s) (fun (r : Int × S2) => o = (some (vI r.1), r.2)) (Go X 4 246 0 (am_loc (am_nl 246) [oR 12 0, vI a1, vI a2]) [] s o) := by
  show J _ _ (Go X 4 246 0 [some (oR 12 0), some (vI a1), some (vI a2), none, none] [] s o)
  unfold f246
  refine g_p q246 3 4 [some (oR 12 0), some (vI a1), some (vI a2), none, none] [vI (jrem a2 10)] rfl ?_
  refine g_top (fun v1 => ?_)
  refine g_p q246 4 9 [some (oR 12 0), some (vI a1), some (vI a2), some (vI v1), none] [vI (jdiv a2 10)] rfl ?_
  refine g_top (fun v2 => ?_)
  refine g_p q246 3 13 [some (oR 12 0), some (vI a1), some (vI a2), some (vI v1), some (vI v2)] [vI (-1), vI a2] rfl ?_
  refine g_i2 q246 rfl rfl ?_ ?_
  ·
    refine g_p q246 2 20 [some (oR 12 0), some (vI a1), some (vI a2), some (vI v1), some (vI v2)] [vI v1, oR 12 0] rfl ?_
    refine g_cPI q246 rfl (g214 X v1 s) rfl rfl rfl rfl rfl (fun r3 => ?_)
    refine g_i1 q246 rfl rfl ?_ ?_
    ·
      refine g_p q246 1 47 [some (oR 12 0), some (vI a1), some (vI a2), some (vI v1), some (vI v2)] [vI 0] rfl ?_
      exact g_ret q246 rfl rfl rfl
    ·
      refine g_p q246 1 27 [some (oR 12 0), some (vI a1), some (vI a2), some (vI v1), some (vI v2)] [oR 12 0] rfl ?_
      refine g_m (S := [aR 1545 0]) (some (aR 1545 0)) q246 rfl rfl rfl (fun _ => rfl) rfl ?_
      refine g_p q246 1 31 [some (oR 12 0), some (vI a1), some (vI a2), some (vI v1), some (vI v2)] [vI v1, aR 1545 0] rfl ?_
      refine g_ld q246 rfl rfl rfl rfl rfl rfl (fun v4 => ?_)
      refine g_p q246 1 33 [some (oR 12 0), some (vI a1), some (vI a2), some (vI v1), some (vI v2)] [vI a1, vI v4] rfl ?_
      refine g_i2 q246 rfl rfl ?_ ?_
      ·
        refine g_p q246 1 47 [some (oR 12 0), some (vI a1), some (vI a2), some (vI v1), some (vI v2)] [vI 0] rfl ?_
        exact g_ret q246 rfl rfl rfl
      ·
        refine g_p q246 3 40 [some (oR 12 0), some (vI a1), some (vI a2), some (vI v1), some (vI v2)] [vI v2, vI v1, oR 12 0] rfl ?_
        refine g_cPI q246 rfl (g224 X v1 v2 s) rfl rfl rfl rfl rfl (fun r5 => ?_)
        refine g_i1 q246 rfl rfl ?_ ?_
        ·
          refine g_p q246 3 52 [some (oR 12 0), some (vI a1), some (vI a2), some (vI v1), some (vI v2)] [vI v2, vI v1, oR 12 0] rfl ?_
          refine g_cV q246 rfl (g225 X v1 v2 s) rfl rfl rfl rfl rfl (fun s6 => ?_)
          refine g_p q246 1 56 [some (oR 12 0), some (vI a1), some (vI a2), some (vI v1), some (vI v2)] [vI 1] rfl ?_
          exact g_ret q246 rfl rfl rfl
        ·
          refine g_p q246 1 47 [some (oR 12 0), some (vI a1), some (vI a2), some (vI v1), some (vI v2)] [vI 0] rfl ?_
          exact g_ret q246 rfl rfl rfl
  ·
    refine g_p q246 1 17 [some (oR 12 0), some (vI a1), some (vI a2), some (vI v1), some (vI v2)] [vI 1] rfl ?_
    exact g_ret q246 rfl rfl rfl
theorem q245 : am_cd 245 = am_c245 := rfl
def H245_a (X : X2) (y2 : Int) (y3 : Int) (y4 : Int) (o : Option (AV R2) × S2) (a : Int × S2) : Prop := Go X 7 245 7 [some (oR 12 0), some (vI y2), some (vI y3), some (vI y4), some (vI (a.1))] [] (a.2) o
def E245_a (X : X2) (y2 : Int) (y3 : Int) (y4 : Int) (o : Option (AV R2) × S2) : (S2) → Prop := (fun (r : S2) => Go X 7 245 48 [none, none, none, none, none] [] r o)
theorem g245_a (X : X2) (y2 : Int) (y3 : Int) (y4 : Int) (x5 : Int) (s6 : S2) (o : Option (AV R2) × S2) : J (f245_a y2 y3 y4 x5 s6) (am_kx (H245_a X y2 y3 y4 o) (E245_a X y2 y3 y4 o)) (Go X 7 245 7 [some (oR 12 0), some (vI y2), some (vI y3), some (vI y4), some (vI x5)] [] s6 o) := by
  unfold f245_a
  refine g_p q245 2 10 [some (oR 12 0), some (vI y2), some (vI y3), some (vI y4), some (vI x5)] [vI y4, vI x5] rfl ?_
  refine g_i2 q245 rfl rfl ?_ ?_
  ·
    exact g_end (fun h => g_wk [false, false, false, false, false] rfl h)
  ·
    refine g_p q245 4 18 [some (oR 12 0), some (vI y2), some (vI y3), some (vI y4), some (vI x5)] [vI (jrem x5 2), oR 12 0] rfl ?_
    refine g_jn (fun j26 => ∀ (x7 : Int), J (j26 x7) (am_kx (H245_a X y2 y3 y4 o) (E245_a X y2 y3 y4 o)) (Go X 7 245 26 [some (oR 12 0), some (vI y2), some (vI y3), some (vI y4), some (vI x5)] [vI x7, oR 12 0] s6 o)) ?_ (fun j26 hj26 => ?_)
    ·
      intro x7
      refine g_p q245 1 27 [some (oR 12 0), some (vI y2), some (vI y3), some (vI y4), some (vI x5)] [oR 12 0, vI x7, oR 12 0] rfl ?_
      refine g_m (S := [aR 1600 0, vI x7, oR 12 0]) (some (aR 1600 0)) q245 rfl rfl rfl (fun _ => rfl) rfl ?_
      refine g_p q245 1 32 [some (oR 12 0), some (vI y2), some (vI y3), some (vI y4), some (vI x5)] [vI x5, aR 1600 0, vI x7, oR 12 0] rfl ?_
      refine g_ld q245 rfl rfl rfl rfl rfl rfl (fun v8 => ?_)
      refine g_cRI q245 rfl (g246 X x7 v8 s6) rfl rfl rfl rfl rfl (fun r9 s10 => ?_)
      refine g_p q245 2 38 [some (oR 12 0), some (vI y2), some (vI y3), some (vI y4), some (vI x5)] [oR 12 0] rfl ?_
      refine g_cRI q245 rfl (g222 X s10) rfl rfl rfl rfl rfl (fun r11 s12 => ?_)
      refine g_p q245 1 42 [some (oR 12 0), some (vI y2), some (vI y3), some (vI y4), some (vI x5)] [] rfl ?_
      refine g_inc (fun v13 => [some (oR 12 0), some (vI y2), some (vI y3), some (vI y4), some (vI v13)]) q245 rfl rfl (fun _ => rfl) (fun v13 => ?_)
      refine g_p q245 1 7 [some (oR 12 0), some (vI y2), some (vI y3), some (vI y4), some (vI v13)] [] rfl ?_
      exact g_end (fun h => g_wk [true, true, true, true, true] rfl h)
    ·
      refine g_i1 q245 rfl rfl ?_ ?_
      ·
        refine g_p q245 1 26 [some (oR 12 0), some (vI y2), some (vI y3), some (vI y4), some (vI x5)] [vI y3, oR 12 0] rfl ?_
        exact g_wkJ [true, true, true, true, true] rfl (hj26 y3)
      ·
        refine g_p q245 2 26 [some (oR 12 0), some (vI y2), some (vI y3), some (vI y4), some (vI x5)] [vI y2, oR 12 0] rfl ?_
        exact g_wkJ [true, true, true, true, true] rfl (hj26 y2)
theorem g245 (X : X2) (a1 : Int) (a2 : Int) (a3 : Int) (s : S2) (o : Option (AV R2) × S2) : J (f245 a1 a2 a3 s) (fun (r : S2) => o = (none, r)) (Go X 7 245 0 (am_loc (am_nl 245) [oR 12 0, vI a1, vI a2, vI a3]) [] s o) := by
  show J _ _ (Go X 7 245 0 [some (oR 12 0), some (vI a1), some (vI a2), some (vI a3), none] [] s o)
  unfold f245
  refine g_p q245 1 1 [some (oR 12 0), some (vI a1), some (vI a2), some (vI a3), none] [oR 12 0] rfl ?_
  refine g_cV q245 rfl (g237 X s) rfl rfl rfl rfl rfl (fun s1 => ?_)
  refine g_p q245 2 7 [some (oR 12 0), some (vI a1), some (vI a2), some (vI a3), some (vI 0)] [] rfl ?_
  refine g_wkJ [true, true, true, true, true] (L0 := [some (oR 12 0), some (vI a1), some (vI a2), some (vI a3), some (vI 0)]) rfl ?_
  refine g_itr (H245_a X a1 a2 a3 o) (E245_a X a1 a2 a3 o) (fun | (x5, s6) => g245_a X a1 a2 a3 x5 s6 o) ?_
  intro s14
  show J _ _ (Go X 7 245 48 [none, none, none, none, none] [] s14 o)
  exact g_retV q245 rfl rfl
theorem q243 : am_cd 243 = am_c243 := rfl
def H243_a (X : X2) (y4 : Int) (y5 : Int) (y6 : Int) (o : Option (AV R2) × S2) (a : Int × S2) : Prop := Go X 8 243 24 [some (oR 12 0), some (vI y4), some (vI y5), some (vI y6), some (vI (a.1))] [] (a.2) o
def E243_a (X : X2) (y4 : Int) (y5 : Int) (y6 : Int) (o : Option (AV R2) × S2) : (S2) → Prop := (fun (r : S2) => Go X 8 243 179 [some (oR 12 0), none, none, none, none] [] r o)
theorem g243_a (X : X2) (y4 : Int) (y5 : Int) (y6 : Int) (x7 : Int) (s8 : S2) (o : Option (AV R2) × S2) : J (f243_a y4 y5 y6 x7 s8) (am_kx (H243_a X y4 y5 y6 o) (E243_a X y4 y5 y6 o)) (Go X 8 243 24 [some (oR 12 0), some (vI y4), some (vI y5), some (vI y6), some (vI x7)] [] s8 o) := by
  unfold f243_a
  refine g_p q243 1 26 [some (oR 12 0), some (vI y4), some (vI y5), some (vI y6), some (vI x7)] [vI x7] rfl ?_
  refine g_i1 q243 rfl rfl ?_ ?_
  ·
    exact g_end (fun h => g_wk [true, false, false, false, false] rfl h)
  ·
    refine g_p q243 1 30 [some (oR 12 0), some (vI y4), some (vI y5), some (vI y6), some (vI x7)] [oR 12 0] rfl ?_
    refine g_m (S := [aR 1600 0]) (some (aR 1600 0)) q243 rfl rfl rfl (fun _ => rfl) rfl ?_
    refine g_p q243 2 36 [some (oR 12 0), some (vI y4), some (vI y5), some (vI y6), some (vI x7)] [vI x7, aR 1600 0, vI x7, aR 1600 0] rfl ?_
    refine g_ld q243 rfl rfl rfl rfl rfl rfl (fun v9 => ?_)
    refine g_p q243 2 39 [some (oR 12 0), some (vI y4), some (vI y5), some (vI y6), some (vI x7)] [vI (jadd v9 1), vI x7, aR 1600 0] rfl ?_
    refine g_sto q243 rfl rfl rfl rfl (fun s10 => ?_)
    refine g_p q243 1 41 [some (oR 12 0), some (vI y4), some (vI y5), some (vI y6), some (vI x7)] [oR 12 0] rfl ?_
    refine g_m (S := [aR 1600 0]) (some (aR 1600 0)) q243 rfl rfl rfl (fun _ => rfl) rfl ?_
    refine g_p q243 1 46 [some (oR 12 0), some (vI y4), some (vI y5), some (vI y6), some (vI x7)] [vI x7, aR 1600 0] rfl ?_
    refine g_ld q243 rfl rfl rfl rfl rfl rfl (fun v11 => ?_)
    refine g_p q243 2 50 [some (oR 12 0), some (vI y4), some (vI y5), some (vI y6), some (vI x7)] [oR 12 0, vI 10, vI v11] rfl ?_
    refine g_m (S := [aR 1537 0, vI 10, vI v11]) (some (aR 1537 0)) q243 rfl rfl rfl (fun _ => rfl) rfl ?_
    refine g_p q243 1 54 [some (oR 12 0), some (vI y4), some (vI y5), some (vI y6), some (vI x7)] [vI 3, aR 1537 0, vI 10, vI v11] rfl ?_
    refine g_ld q243 rfl rfl rfl rfl rfl rfl (fun v12 => ?_)
    refine g_p q243 1 56 [some (oR 12 0), some (vI y4), some (vI y5), some (vI y6), some (vI x7)] [vI (jmul 10 v12), vI v11] rfl ?_
    refine g_i2 q243 rfl rfl ?_ ?_
    ·
      refine g_p q243 4 90 [some (oR 12 0), some (vI y4), some (vI y5), some (vI y6), some (vI x7)] [vI x7, vI y5, vI y4, oR 12 0] rfl ?_
      refine g_cV q243 rfl (g245 X y4 y5 x7 s10) rfl rfl rfl rfl rfl (fun s13 => ?_)
      refine g_p q243 4 98 [some (oR 12 0), some (vI y4), some (vI y5), some (vI y6), some (vI x7)] [vI (jrem x7 2), oR 12 0] rfl ?_
      refine g_jn (fun j106 => ∀ (x14 : Int), J (j106 x14) (am_kx (H243_a X y4 y5 y6 o) (E243_a X y4 y5 y6 o)) (Go X 8 243 106 [some (oR 12 0), some (vI y4), some (vI y5), some (vI y6), some (vI x7)] [vI x14, oR 12 0] s13 o)) ?_ (fun j106 hj106 => ?_)
      ·
        intro x14
        refine g_p q243 1 107 [some (oR 12 0), some (vI y4), some (vI y5), some (vI y6), some (vI x7)] [oR 12 0, vI x14, oR 12 0] rfl ?_
        refine g_m (S := [aR 1600 0, vI x14, oR 12 0]) (some (aR 1600 0)) q243 rfl rfl rfl (fun _ => rfl) rfl ?_
        refine g_p q243 1 112 [some (oR 12 0), some (vI y4), some (vI y5), some (vI y6), some (vI x7)] [vI x7, aR 1600 0, vI x14, oR 12 0] rfl ?_
        refine g_ld q243 rfl rfl rfl rfl rfl rfl (fun v15 => ?_)
        refine g_cRI q243 rfl (g246 X x14 v15 s13) rfl rfl rfl rfl rfl (fun r16 s17 => ?_)
        refine g_i1 q243 rfl rfl ?_ ?_
        ·
          exact g_end (fun h => g_wk [true, true, true, true, true] rfl h)
        ·
          refine g_p q243 1 120 [some (oR 12 0), some (vI y4), some (vI y5), some (vI y6), some (vI x7)] [oR 12 0] rfl ?_
          refine g_cRI q243 rfl (g222 X s17) rfl rfl rfl rfl rfl (fun r18 s19 => ?_)
          refine g_p q243 5 129 [some (oR 12 0), some (vI y4), some (vI y5), some (vI y6), some (vI x7)] [vI (jsub y6 1), vI x7] rfl ?_
          refine g_i2 q243 rfl rfl ?_ ?_
          ·
            refine g_inc (fun v20 => [some (oR 12 0), some (vI y4), some (vI y5), some (vI y6), some (vI v20)]) q243 rfl rfl (fun _ => rfl) (fun v20 => ?_)
            refine g_p q243 1 158 [some (oR 12 0), some (vI y4), some (vI y5), some (vI y6), some (vI v20)] [oR 12 0] rfl ?_
            refine g_m (S := [aR 1600 0]) (some (aR 1600 0)) q243 rfl rfl rfl (fun _ => rfl) rfl ?_
            refine g_p q243 2 165 [some (oR 12 0), some (vI y4), some (vI y5), some (vI y6), some (vI v20)] [vI (-2), vI v20, aR 1600 0] rfl ?_
            refine g_sto q243 rfl rfl rfl rfl (fun s21 => ?_)
            refine g_p q243 1 167 [some (oR 12 0), some (vI y4), some (vI y5), some (vI y6), some (vI v20)] [oR 12 0] rfl ?_
            refine g_m (S := [aR 1601 0]) (some (aR 1601 0)) q243 rfl rfl rfl (fun _ => rfl) rfl ?_
            refine g_p q243 2 175 [some (oR 12 0), some (vI y4), some (vI y5), some (vI y6), some (vI v20)] [vI 1000000, vI v20, aR 1601 0] rfl ?_
            refine g_sto q243 rfl rfl rfl rfl (fun s22 => ?_)
            refine g_p q243 1 24 [some (oR 12 0), some (vI y4), some (vI y5), some (vI y6), some (vI v20)] [] rfl ?_
            exact g_end (fun h => g_wk [true, true, true, true, true] rfl h)
          ·
            refine g_p q243 3 136 [some (oR 12 0), some (vI y4), some (vI y5), some (vI y6), some (vI x7)] [oR 12 0, vI x7, oR 12 0] rfl ?_
            refine g_m (S := [aR 1539 0, vI x7, oR 12 0]) (some (aR 1539 0)) q243 rfl rfl rfl (fun _ => rfl) rfl ?_
            refine g_p q243 1 140 [some (oR 12 0), some (vI y4), some (vI y5), some (vI y6), some (vI x7)] [vI y4, aR 1539 0, vI x7, oR 12 0] rfl ?_
            refine g_ld q243 rfl rfl rfl rfl rfl rfl (fun v23 => ?_)
            refine g_p q243 1 142 [some (oR 12 0), some (vI y4), some (vI y5), some (vI y6), some (vI x7)] [oR 12 0, vI v23, vI x7, oR 12 0] rfl ?_
            refine g_m (S := [aR 1539 0, vI v23, vI x7, oR 12 0]) (some (aR 1539 0)) q243 rfl rfl rfl (fun _ => rfl) rfl ?_
            refine g_p q243 1 146 [some (oR 12 0), some (vI y4), some (vI y5), some (vI y6), some (vI x7)] [vI y5, aR 1539 0, vI v23, vI x7, oR 12 0] rfl ?_
            refine g_ld q243 rfl rfl rfl rfl rfl rfl (fun v24 => ?_)
            refine g_p q243 1 148 [some (oR 12 0), some (vI y4), some (vI y5), some (vI y6), some (vI x7)] [vI (jsub v23 v24), vI x7, oR 12 0] rfl ?_
            refine g_cV q243 rfl (g244 X x7 (jsub v23 v24) s19) rfl rfl rfl rfl rfl (fun s25 => ?_)
            refine g_p q243 1 24 [some (oR 12 0), some (vI y4), some (vI y5), some (vI y6), some (vI x7)] [] rfl ?_
            exact g_end (fun h => g_wk [true, true, true, true, true] rfl h)
      ·
        refine g_i1 q243 rfl rfl ?_ ?_
        ·
          refine g_p q243 1 106 [some (oR 12 0), some (vI y4), some (vI y5), some (vI y6), some (vI x7)] [vI y5, oR 12 0] rfl ?_
          exact g_wkJ [true, true, true, true, true] rfl (hj106 y5)
        ·
          refine g_p q243 2 106 [some (oR 12 0), some (vI y4), some (vI y5), some (vI y6), some (vI x7)] [vI y4, oR 12 0] rfl ?_
          exact g_wkJ [true, true, true, true, true] rfl (hj106 y4)
    ·
      refine g_inc (fun v26 => [some (oR 12 0), some (vI y4), some (vI y5), some (vI y6), some (vI v26)]) q243 rfl rfl (fun _ => rfl) (fun v26 => ?_)
      refine g_p q243 1 64 [some (oR 12 0), some (vI y4), some (vI y5), some (vI y6), some (vI v26)] [vI v26] rfl ?_
      refine g_i1 q243 rfl rfl ?_ ?_
      ·
        exact g_end (fun h => g_wk [true, true, true, true, true] rfl h)
      ·
        refine g_p q243 3 71 [some (oR 12 0), some (vI y4), some (vI y5), some (vI y6), some (vI v26)] [oR 12 0, vI v26, oR 12 0] rfl ?_
        refine g_m (S := [aR 1601 0, vI v26, oR 12 0]) (some (aR 1601 0)) q243 rfl rfl rfl (fun _ => rfl) rfl ?_
        refine g_p q243 3 78 [some (oR 12 0), some (vI y4), some (vI y5), some (vI y6), some (vI v26)] [vI (jadd v26 1), aR 1601 0, vI v26, oR 12 0] rfl ?_
        refine g_ld q243 rfl rfl rfl rfl rfl rfl (fun v27 => ?_)
        refine g_cV q243 rfl (g244 X v26 v27 s10) rfl rfl rfl rfl rfl (fun s28 => ?_)
        refine g_p q243 1 24 [some (oR 12 0), some (vI y4), some (vI y5), some (vI y6), some (vI v26)] [] rfl ?_
        exact g_end (fun h => g_wk [true, true, true, true, true] rfl h)
theorem g243 (X : X2) (a1 : Int) (a2 : Int) (a3 : Int) (s : S2) (o : Option (AV R2) × S2) : J (f243 a1 a2 a3 s) (fun (r : S2) => o = (none, r)) (Go X 8 243 0 (am_loc (am_nl 243) [oR 12 0, vI a1, vI a2, vI a3]) [] s o) := by
  show J _ _ (Go X 8 243 0 [some (oR 12 0), some (vI a1), some (vI a2), some (vI a3), none] [] s o)
  unfold f243
  refine g_p q243 1 1 [some (oR 12 0), some (vI a1), some (vI a2), some (vI a3), none] [oR 12 0] rfl ?_
  refine g_cV q243 rfl (g233 X s) rfl rfl rfl rfl rfl (fun s1 => ?_)
  refine g_p q243 3 8 [some (oR 12 0), some (vI a1), some (vI a2), some (vI a3), some (vI 0)] [oR 12 0] rfl ?_
  refine g_m (S := [aR 1600 0]) (some (aR 1600 0)) q243 rfl rfl rfl (fun _ => rfl) rfl ?_
  refine g_p q243 2 14 [some (oR 12 0), some (vI a1), some (vI a2), some (vI a3), some (vI 0)] [vI (-2), vI 0, aR 1600 0] rfl ?_
  refine g_sto q243 rfl rfl rfl rfl (fun s2 => ?_)
  refine g_p q243 1 16 [some (oR 12 0), some (vI a1), some (vI a2), some (vI a3), some (vI 0)] [oR 12 0] rfl ?_
  refine g_m (S := [aR 1601 0]) (some (aR 1601 0)) q243 rfl rfl rfl (fun _ => rfl) rfl ?_
  refine g_p q243 2 23 [some (oR 12 0), some (vI a1), some (vI a2), some (vI a3), some (vI 0)] [vI 1000000, vI 0, aR 1601 0] rfl ?_
  refine g_sto q243 rfl rfl rfl rfl (fun s3 => ?_)
  refine g_wkJ [true, true, true, true, true] (L0 := [some (oR 12 0), some (vI a1), some (vI a2), some (vI a3), some (vI 0)]) rfl ?_
  refine g_itr (H243_a X a1 a2 a3 o) (E243_a X a1 a2 a3 o) (fun | (x7, s8) => g243_a X a1 a2 a3 x7 s8 o) ?_
  intro s29
  show J _ _ (Go X 8 243 179 [some (oR 12 0), none, none, none, none] [] s29 o)
  refine g_p q243 1 180 [some (oR 12 0), none, none, none, none] [oR 12 0] rfl ?_
  refine g_cV q243 rfl (g237 X s29) rfl rfl rfl rfl rfl (fun s30 => ?_)
  exact g_retV q243 rfl rfl
theorem q242 : am_cd 242 = am_c242 := rfl
theorem g242 (X : X2) (a1 : Int) (a2 : Int) (a3 : Int) (a4 : Int) (s : S2) (o : Option (AV R2) × S2) : J (f242 a1 a2 a3 a4 s) (fun (r : Int × S2) => o = (some (vI r.1), r.2)) (Go X 9 242 0 (am_loc (am_nl 242) [oR 12 0, vI a1, vI a2, vI a3, vI a4]) [] s o) := by
  show J _ _ (Go X 9 242 0 [some (oR 12 0), some (vI a1), some (vI a2), some (vI a3), some (vI a4)] [] s o)
  unfold f242
  refine g_p q242 2 2 [some (oR 12 0), some (vI a1), some (vI a2), some (vI a3), some (vI a4)] [vI a1, oR 12 0] rfl ?_
  refine g_cPI q242 rfl (g198 X a1 s) rfl rfl rfl rfl rfl (fun r1 => ?_)
  refine g_i1 q242 rfl rfl ?_ ?_
  ·
    refine g_p q242 1 47 [some (oR 12 0), some (vI a1), some (vI a2), some (vI a3), some (vI a4)] [vI (-100000)] rfl ?_
    exact g_ret q242 rfl rfl rfl
  ·
    refine g_p q242 2 10 [some (oR 12 0), some (vI a1), some (vI a2), some (vI a3), some (vI a4)] [vI a2, oR 12 0] rfl ?_
    refine g_cPI q242 rfl (g198 X a2 s) rfl rfl rfl rfl rfl (fun r2 => ?_)
    refine g_i1 q242 rfl rfl ?_ ?_
    ·
      refine g_p q242 1 47 [some (oR 12 0), some (vI a1), some (vI a2), some (vI a3), some (vI a4)] [vI (-100000)] rfl ?_
      exact g_ret q242 rfl rfl rfl
    ·
      refine g_p q242 2 18 [some (oR 12 0), some (vI a1), some (vI a2), some (vI a3), some (vI a4)] [vI a2, vI a1] rfl ?_
      refine g_i2 q242 rfl rfl ?_ ?_
      ·
        refine g_p q242 1 47 [some (oR 12 0), some (vI a1), some (vI a2), some (vI a3), some (vI a4)] [vI (-100000)] rfl ?_
        exact g_ret q242 rfl rfl rfl
      ·
        refine g_p q242 4 27 [some (oR 12 0), some (vI a1), some (vI a2), some (vI a3), some (vI a4)] [vL 3, vL 1, vL (ji2l a3)] rfl ?_
        refine g_cPI q242 rfl (g173 X (ji2l a3) 1 3 s) rfl rfl rfl rfl rfl (fun r3 => ?_)
        refine g_i1 q242 rfl rfl ?_ ?_
        ·
          refine g_p q242 1 47 [some (oR 12 0), some (vI a1), some (vI a2), some (vI a3), some (vI a4)] [vI (-100000)] rfl ?_
          exact g_ret q242 rfl rfl rfl
        ·
          refine g_p q242 4 38 [some (oR 12 0), some (vI a1), some (vI a2), some (vI a3), some (vI a4)] [vL 1, vL 0, vL (ji2l a4)] rfl ?_
          refine g_cPI q242 rfl (g173 X (ji2l a4) 0 1 s) rfl rfl rfl rfl rfl (fun r4 => ?_)
          refine g_i1 q242 rfl rfl ?_ ?_
          ·
            refine g_p q242 4 52 [some (oR 12 0), some (vI a1), some (vI a2), some (vI a3), some (vI a4)] [vI a3, vI a2, vI a1, oR 12 0] rfl ?_
            refine g_cV q242 rfl (g243 X a1 a2 a3 s) rfl rfl rfl rfl rfl (fun s5 => ?_)
            refine g_p q242 1 57 [some (oR 12 0), some (vI a1), some (vI a2), some (vI a3), some (vI a4)] [vI a4] rfl ?_
            refine g_i1 q242 rfl rfl ?_ ?_
            ·
              refine g_p q242 1 70 [some (oR 12 0), some (vI a1), some (vI a2), some (vI a3), some (vI a4)] [oR 12 0] rfl ?_
              refine g_get q242 rfl rfl rfl (fun _ => rfl) (fun v6 => ?_)
              exact g_ret q242 rfl rfl rfl
            ·
              refine g_p q242 1 61 [some (oR 12 0), some (vI a1), some (vI a2), some (vI a3), some (vI a4)] [oR 12 0] rfl ?_
              refine g_m (S := [aR 1601 0]) (some (aR 1601 0)) q242 rfl rfl rfl (fun _ => rfl) rfl ?_
              refine g_p q242 1 65 [some (oR 12 0), some (vI a1), some (vI a2), some (vI a3), some (vI a4)] [vI 0, aR 1601 0] rfl ?_
              refine g_ld q242 rfl rfl rfl rfl rfl rfl (fun v7 => ?_)
              refine g_p q242 1 73 [some (oR 12 0), some (vI a1), some (vI a2), some (vI a3), some (vI a4)] [vI v7] rfl ?_
              exact g_ret q242 rfl rfl rfl
          ·
            refine g_p q242 1 47 [some (oR 12 0), some (vI a1), some (vI a2), some (vI a3), some (vI a4)] [vI (-100000)] rfl ?_
            exact g_ret q242 rfl rfl rfl
theorem q248 : am_cd 248 = am_c248 := rfl
def H248_a (X : X2) (y1 : Int) (s4 : S2) (o : Option (AV R2) × S2) (a : Int × Int) : Prop := Go X 1 248 4 [some (vI y1), some (vI (a.1)), some (vI (a.2))] [] s4 o
def E248_a (X : X2) (y1 : Int) (s4 : S2) (o : Option (AV R2) × S2) : (Int) → Prop := (fun (r : Int) => Go X 1 248 24 [none, some (vI r), none] [] s4 o)
theorem g248_a (X : X2) (y1 : Int) (x2 : Int) (x3 : Int) (s4 : S2) (o : Option (AV R2) × S2) : J (f248_a y1 x2 x3) (am_kx (H248_a X y1 s4 o) (E248_a X y1 s4 o)) (Go X 1 248 4 [some (vI y1), some (vI x2), some (vI x3)] [] s4 o) := by
  unfold f248_a
  refine g_p q248 2 7 [some (vI y1), some (vI x2), some (vI x3)] [vI 16, vI x3] rfl ?_
  refine g_i2 q248 rfl rfl ?_ ?_
  ·
    exact g_end (fun h => g_wk [false, true, false] rfl h)
  ·
    refine g_p q248 7 17 [some (vI y1), some (vI x2), some (vI x3)] [vI (jadd x2 (jand (jshr y1 x3) 1))] rfl ?_
    refine g_top (fun v5 => ?_)
    refine g_p q248 1 18 [some (vI y1), some (vI v5), some (vI x3)] [] rfl ?_
    refine g_inc (fun v6 => [some (vI y1), some (vI v5), some (vI v6)]) q248 rfl rfl (fun _ => rfl) (fun v6 => ?_)
    refine g_p q248 1 4 [some (vI y1), some (vI v5), some (vI v6)] [] rfl ?_
    exact g_end (fun h => g_wk [true, true, true] rfl h)
theorem g248 (X : X2) (a0 : Int) (s : S2) (o : Option (AV R2) × S2) : J (f248 a0) (fun (r : Int) => o = (some (vI r), s)) (Go X 1 248 0 (am_loc (am_nl 248) [vI a0]) [] s o) := by
  show J _ _ (Go X 1 248 0 [some (vI a0), none, none] [] s o)
  unfold f248
  refine g_p q248 4 4 [some (vI a0), some (vI 0), some (vI 0)] [] rfl ?_
  refine g_wkJ [true, true, true] (L0 := [some (vI a0), some (vI 0), some (vI 0)]) rfl ?_
  refine g_itr (H248_a X a0 s o) (E248_a X a0 s o) (fun | (x2, x3) => g248_a X a0 x2 x3 s o) ?_
  intro z7
  show J _ _ (Go X 1 248 24 [none, some (vI z7), none] [] s o)
  refine g_p q248 1 25 [none, some (vI z7), none] [vI z7] rfl ?_
  exact g_ret q248 rfl rfl rfl
theorem q247 : am_cd 247 = am_c247 := rfl
def H247_b (X : X2) (y12 : Int) (y13 : Int) (y14 : Int) (y15 : Int) (y16 : Int) (o : Option (AV R2) × S2) (a : Int × S2) : Prop := Go X 6 247 75 [some (oR 12 0), some (vI y12), some (vI y13), some (vI y14), some (vI y15), some (vI y16), some (vI (a.1))] [] (a.2) o
def E247_b (X : X2) (y12 : Int) (y13 : Int) (y14 : Int) (y15 : Int) (y16 : Int) (o : Option (AV R2) × S2) : (S2) → Prop := (fun (r : S2) => Go X 6 247 108 [some (oR 12 0), some (vI y12), some (vI y13), some (vI y14), some (vI y15), some (vI y16), none] [] r o)
theorem g247_b (X : X2) (y12 : Int) (y13 : Int) (y14 : Int) (y15 : Int) (y16 : Int) (x17 : Int) (s18 : S2) (o : Option (AV R2) × S2) : J (f247_b y16 x17 s18) (am_kx (H247_b X y12 y13 y14 y15 y16 o) (E247_b X y12 y13 y14 y15 y16 o)) (Go X 6 247 75 [some (oR 12 0), some (vI y12), some (vI y13), some (vI y14), some (vI y15), some (vI y16), some (vI x17)] [] s18 o) := by
  unfold f247_b
  refine g_p q247 2 78 [some (oR 12 0), some (vI y12), some (vI y13), some (vI y14), some (vI y15), some (vI y16), some (vI x17)] [oR 12 0, vI x17] rfl ?_
  refine g_m (S := [aR 1537 0, vI x17]) (some (aR 1537 0)) q247 rfl rfl rfl (fun _ => rfl) rfl ?_
  refine g_p q247 1 82 [some (oR 12 0), some (vI y12), some (vI y13), some (vI y14), some (vI y15), some (vI y16), some (vI x17)] [vI 4, aR 1537 0, vI x17] rfl ?_
  refine g_ld q247 rfl rfl rfl rfl rfl rfl (fun v19 => ?_)
  refine g_i2 q247 rfl rfl ?_ ?_
  ·
    exact g_end (fun h => g_wk [true, true, true, true, true, true, false] rfl h)
  ·
    refine g_p q247 2 90 [some (oR 12 0), some (vI y12), some (vI y13), some (vI y14), some (vI y15), some (vI y16), some (vI x17)] [vI x17, vI y16] rfl ?_
    refine g_cPI q247 rfl (g202 X y16 x17 s18) rfl rfl rfl rfl rfl (fun r20 => ?_)
    refine g_i1 q247 rfl rfl ?_ ?_
    ·
      refine g_inc (fun v21 => [some (oR 12 0), some (vI y12), some (vI y13), some (vI y14), some (vI y15), some (vI y16), some (vI v21)]) q247 rfl rfl (fun _ => rfl) (fun v21 => ?_)
      refine g_p q247 1 75 [some (oR 12 0), some (vI y12), some (vI y13), some (vI y14), some (vI y15), some (vI y16), some (vI v21)] [] rfl ?_
      exact g_end (fun h => g_wk [true, true, true, true, true, true, true] rfl h)
    ·
      refine g_p q247 2 99 [some (oR 12 0), some (vI y12), some (vI y13), some (vI y14), some (vI y15), some (vI y16), some (vI x17)] [vI x17, oR 12 0] rfl ?_
      refine g_cV q247 rfl (g227 X x17 s18) rfl rfl rfl rfl rfl (fun s22 => ?_)
      refine g_inc (fun v23 => [some (oR 12 0), some (vI y12), some (vI y13), some (vI y14), some (vI y15), some (vI y16), some (vI v23)]) q247 rfl rfl (fun _ => rfl) (fun v23 => ?_)
      refine g_p q247 1 75 [some (oR 12 0), some (vI y12), some (vI y13), some (vI y14), some (vI y15), some (vI y16), some (vI v23)] [] rfl ?_
      exact g_end (fun h => g_wk [true, true, true, true, true, true, true] rfl h)
def H247_a (X : X2) (y5 : Int) (y6 : Int) (y7 : Int) (o : Option (AV R2) × S2) (a : Int × Int × S2) : Prop := Go X 6 247 37 [some (oR 12 0), some (vI y5), some (vI y6), some (vI y7), some (vI (a.1)), some (vI (a.2.1)), none] [] (a.2.2) o
def E247_a (X : X2) (y5 : Int) (y6 : Int) (y7 : Int) (o : Option (AV R2) × S2) : (Int × S2) → Prop := (fun (r : Int × S2) => Go X 6 247 136 [none, none, some (vI y6), none, some (vI (r.1)), none, none] [] (r.2) o)
theorem g247_a (X : X2) (y5 : Int) (y6 : Int) (y7 : Int) (x8 : Int) (x9 : Int) (s10 : S2) (o : Option (AV R2) × S2) : J (f247_a y5 y7 x8 x9 s10) (am_kx (H247_a X y5 y6 y7 o) (E247_a X y5 y6 y7 o)) (Go X 6 247 37 [some (oR 12 0), some (vI y5), some (vI y6), some (vI y7), some (vI x8), some (vI x9), none] [] s10 o) := by
  unfold f247_a
  refine g_p q247 2 40 [some (oR 12 0), some (vI y5), some (vI y6), some (vI y7), some (vI x8), some (vI x9), none] [vI y7, vI x9] rfl ?_
  refine g_i2 q247 rfl rfl ?_ ?_
  ·
    exact g_end (fun h => g_wk [false, false, true, false, true, false, false] rfl h)
  ·
    refine g_p q247 5 49 [some (oR 12 0), some (vI y5), some (vI y6), some (vI y7), some (vI x8), some (vI x9), none] [vI (jand x9 (jxor y7 (-1)))] rfl ?_
    refine g_i1 q247 rfl rfl ?_ ?_
    ·
      refine g_inc (fun v11 => [some (oR 12 0), some (vI y5), some (vI y6), some (vI y7), some (vI x8), some (vI v11), none]) q247 rfl rfl (fun _ => rfl) (fun v11 => ?_)
      refine g_p q247 1 37 [some (oR 12 0), some (vI y5), some (vI y6), some (vI y7), some (vI x8), some (vI v11), none] [] rfl ?_
      exact g_end (fun h => g_wk [true, true, true, true, true, true, false] rfl h)
    ·
      refine g_p q247 2 56 [some (oR 12 0), some (vI y5), some (vI y6), some (vI y7), some (vI x8), some (vI x9), none] [vI (-2), vI x8] rfl ?_
      refine g_jn (fun j72 => ∀ (_ : Unit), J (j72 ()) (am_kx (H247_a X y5 y6 y7 o) (E247_a X y5 y6 y7 o)) (Go X 6 247 72 [some (oR 12 0), some (vI y5), some (vI y6), some (vI y7), some (vI x8), some (vI x9), none] [] s10 o)) ?_ (fun j72 hj72 => ?_)
      ·
        intro _
        refine g_p q247 2 75 [some (oR 12 0), some (vI y5), some (vI y6), some (vI y7), some (vI x8), some (vI x9), some (vI 0)] [] rfl ?_
        refine g_wkJ [true, true, true, true, true, true, true] (L0 := [some (oR 12 0), some (vI y5), some (vI y6), some (vI y7), some (vI x8), some (vI x9), some (vI 0)]) rfl ?_
        refine g_itr (H247_b X y5 y6 y7 x8 x9 o) (E247_b X y5 y6 y7 x8 x9 o) (fun | (x17, s18) => g247_b X y5 y6 y7 x8 x9 x17 s18 o) ?_
        intro s24
        show J _ _ (Go X 6 247 108 [some (oR 12 0), some (vI y5), some (vI y6), some (vI y7), some (vI x8), some (vI x9), none] [] s24 o)
        refine g_p q247 2 110 [some (oR 12 0), some (vI y5), some (vI y6), some (vI y7), some (vI x8), some (vI x9), none] [vI y5, oR 12 0] rfl ?_
        refine g_cRI q247 rfl (g200 X y5 s24) rfl rfl rfl rfl rfl (fun r25 s26 => ?_)
        refine g_p q247 1 114 [some (oR 12 0), some (vI y5), some (vI y6), some (vI y7), some (vI x8), some (vI x9), none] [vI (-1), vI r25] rfl ?_
        refine g_jn (fun j124 => ∀ (x27 : Int), J (j124 x27) (am_kx (H247_a X y5 y6 y7 o) (E247_a X y5 y6 y7 o)) (Go X 6 247 124 [some (oR 12 0), some (vI y5), some (vI y6), some (vI y7), none, some (vI x9), none] [vI x27] s26 o)) ?_ (fun j124 hj124 => ?_)
        ·
          intro x27
          refine g_p q247 2 127 [some (oR 12 0), some (vI y5), some (vI y6), some (vI y7), some (vI x27), some (vI x9), none] [oR 12 0] rfl ?_
          refine g_cV q247 rfl (g237 X s26) rfl rfl rfl rfl rfl (fun s28 => ?_)
          refine g_inc (fun v29 => [some (oR 12 0), some (vI y5), some (vI y6), some (vI y7), some (vI x27), some (vI v29), none]) q247 rfl rfl (fun _ => rfl) (fun v29 => ?_)
          refine g_p q247 1 37 [some (oR 12 0), some (vI y5), some (vI y6), some (vI y7), some (vI x27), some (vI v29), none] [] rfl ?_
          exact g_end (fun h => g_wk [true, true, true, true, true, true, false] rfl h)
        ·
          refine g_i2 q247 rfl rfl ?_ ?_
          ·
            refine g_p q247 1 124 [some (oR 12 0), some (vI y5), some (vI y6), some (vI y7), some (vI x8), some (vI x9), none] [vI x8] rfl ?_
            exact g_wkJ [true, true, true, true, false, true, false] rfl (hj124 x8)
          ·
            refine g_p q247 2 124 [some (oR 12 0), some (vI y5), some (vI y6), some (vI y7), some (vI x8), some (vI x9), none] [vI x9] rfl ?_
            exact g_wkJ [true, true, true, true, false, true, false] rfl (hj124 x9)
      ·
        refine g_i2 q247 rfl rfl ?_ ?_
        ·
          exact g_wkJ [true, true, true, true, true, true, false] rfl (hj72 ())
        ·
          refine g_p q247 1 61 [some (oR 12 0), some (vI y5), some (vI y6), some (vI y7), some (vI x8), some (vI x9), none] [vI x9] rfl ?_
          refine g_cPI q247 rfl (g248 X x9 s10) rfl rfl rfl rfl rfl (fun r30 => ?_)
          refine g_p q247 1 66 [some (oR 12 0), some (vI y5), some (vI y6), some (vI y7), some (vI x8), some (vI x9), none] [vI x8, vI r30] rfl ?_
          refine g_cPI q247 rfl (g248 X x8 s10) rfl rfl rfl rfl rfl (fun r31 => ?_)
          refine g_i2 q247 rfl rfl ?_ ?_
          ·
            refine g_inc (fun v32 => [some (oR 12 0), some (vI y5), some (vI y6), some (vI y7), some (vI x8), some (vI v32), none]) q247 rfl rfl (fun _ => rfl) (fun v32 => ?_)
            refine g_p q247 1 37 [some (oR 12 0), some (vI y5), some (vI y6), some (vI y7), some (vI x8), some (vI v32), none] [] rfl ?_
            exact g_end (fun h => g_wk [true, true, true, true, true, true, false] rfl h)
          ·
            exact g_wkJ [true, true, true, true, true, true, false] rfl (hj72 ())
theorem g247 (X : X2) (a1 : Int) (a2 : Int) (s : S2) (o : Option (AV R2) × S2) : J (f247 a1 a2 s) (fun (r : Int × S2) => o = (some (vI r.1), r.2)) (Go X 6 247 0 (am_loc (am_nl 247) [oR 12 0, vI a1, vI a2]) [] s o) := by
  show J _ _ (Go X 6 247 0 [some (oR 12 0), some (vI a1), some (vI a2), none, none, none, none] [] s o)
  unfold f247
  refine g_p q247 2 2 [some (oR 12 0), some (vI a1), some (vI a2), none, none, none, none] [vI a1, oR 12 0] rfl ?_
  refine g_cPI q247 rfl (g210 X a1 s) rfl rfl rfl rfl rfl (fun r1 => ?_)
  refine g_i1 q247 rfl rfl ?_ ?_
  ·
    refine g_p q247 1 19 [some (oR 12 0), some (vI a1), some (vI a2), none, none, none, none] [vI (-1)] rfl ?_
    exact g_ret q247 rfl rfl rfl
  ·
    refine g_p q247 4 12 [some (oR 12 0), some (vI a1), some (vI a2), none, none, none, none] [vL 1, vL 0, vL (ji2l a2)] rfl ?_
    refine g_cPI q247 rfl (g173 X (ji2l a2) 0 1 s) rfl rfl rfl rfl rfl (fun r2 => ?_)
    refine g_i1 q247 rfl rfl ?_ ?_
    ·
      refine g_p q247 2 22 [some (oR 12 0), some (vI a1), some (vI a2), none, none, none, none] [vI a1, oR 12 0] rfl ?_
      refine g_cPI q247 rfl (g212 X a1 s) rfl rfl rfl rfl rfl (fun r3 => ?_)
      refine g_p q247 4 31 [some (oR 12 0), some (vI a1), some (vI a2), some (vI r3), some (vI (-2)), none, none] [oR 12 0] rfl ?_
      refine g_cV q247 rfl (g233 X s) rfl rfl rfl rfl rfl (fun s4 => ?_)
      refine g_p q247 2 37 [some (oR 12 0), some (vI a1), some (vI a2), some (vI r3), some (vI (-2)), some (vI 0), none] [] rfl ?_
      refine g_wkJ [true, true, true, true, true, true, false] (L0 := [some (oR 12 0), some (vI a1), some (vI a2), some (vI r3), some (vI (-2)), some (vI 0), none]) rfl ?_
      refine g_itr (H247_a X a1 a2 r3 o) (E247_a X a1 a2 r3 o) (fun | (x8, x9, s10) => g247_a X a1 a2 r3 x8 x9 s10 o) ?_
      rintro ⟨z33, s34⟩
      show J _ _ (Go X 6 247 136 [none, none, some (vI a2), none, some (vI z33), none, none] [] s34 o)
      refine g_p q247 2 140 [none, none, some (vI a2), none, some (vI z33), none, none] [vI (-2), vI z33] rfl ?_
      refine g_i2 q247 rfl rfl ?_ ?_
      ·
        refine g_p q247 2 158 [none, none, some (vI a2), none, some (vI z33), none, none] [vI z33] rfl ?_
        exact g_ret q247 rfl rfl rfl
      ·
        refine g_p q247 2 145 [none, none, some (vI a2), none, some (vI z33), none, none] [vI 1, vI a2] rfl ?_
        refine g_i2 q247 rfl rfl ?_ ?_
        ·
          refine g_p q247 1 155 [none, none, some (vI a2), none, some (vI z33), none, none] [vI z33] rfl ?_
          refine g_cPI q247 rfl (g248 X z33 s34) rfl rfl rfl rfl rfl (fun r35 => ?_)
          exact g_ret q247 rfl rfl rfl
        ·
          refine g_p q247 2 158 [none, none, some (vI a2), none, some (vI z33), none, none] [vI z33] rfl ?_
          exact g_ret q247 rfl rfl rfl
    ·
      refine g_p q247 1 19 [some (oR 12 0), some (vI a1), some (vI a2), none, none, none, none] [vI (-1)] rfl ?_
      exact g_ret q247 rfl rfl rfl
theorem q250 : am_cd 250 = am_c250 := rfl
def H250_a (X : X2) (y1 : Int) (y2 : Int) (o : Option (AV R2) × S2) (a : Int × S2) : Prop := Go X 4 250 2 [some (oR 12 0), some (vI y1), some (vI y2), some (vI (a.1))] [] (a.2) o
def E250_a (X : X2) (y1 : Int) (y2 : Int) (o : Option (AV R2) × S2) : (S2) ⊕ (S2) → Prop := (am_kx (fun (r : S2) => Go X 4 250 29 [none, none, none, none] [] r o) (fun (r : S2) => Go X 4 250 51 [none, none, none, none] [] r o))
theorem g250_a (X : X2) (y1 : Int) (y2 : Int) (x3 : Int) (s4 : S2) (o : Option (AV R2) × S2) : J (f250_a y1 y2 x3 s4) (am_kx (H250_a X y1 y2 o) (E250_a X y1 y2 o)) (Go X 4 250 2 [some (oR 12 0), some (vI y1), some (vI y2), some (vI x3)] [] s4 o) := by
  unfold f250_a
  refine g_p q250 2 4 [some (oR 12 0), some (vI y1), some (vI y2), some (vI x3)] [oR 12 0, vI x3] rfl ?_
  refine g_m (S := [aR 1537 0, vI x3]) (some (aR 1537 0)) q250 rfl rfl rfl (fun _ => rfl) rfl ?_
  refine g_p q250 1 8 [some (oR 12 0), some (vI y1), some (vI y2), some (vI x3)] [vI 4, aR 1537 0, vI x3] rfl ?_
  refine g_ld q250 rfl rfl rfl rfl rfl rfl (fun v5 => ?_)
  refine g_i2 q250 rfl rfl ?_ ?_
  ·
    exact g_end (fun h => g_wk [false, false, false, false] rfl h)
  ·
    refine g_p q250 2 14 [some (oR 12 0), some (vI y1), some (vI y2), some (vI x3)] [vI x3, vI y1] rfl ?_
    refine g_cPI q250 rfl (g202 X y1 x3 s4) rfl rfl rfl rfl rfl (fun r6 => ?_)
    refine g_jn (fun j31 => ∀ (_ : Unit), J (j31 ()) (am_kx (H250_a X y1 y2 o) (E250_a X y1 y2 o)) (Go X 4 250 31 [some (oR 12 0), some (vI y1), some (vI y2), some (vI x3)] [] s4 o)) ?_ (fun j31 hj31 => ?_)
    ·
      intro _
      refine g_p q250 2 33 [some (oR 12 0), some (vI y1), some (vI y2), some (vI x3)] [vI x3, vI y1] rfl ?_
      refine g_cPI q250 rfl (g202 X y1 x3 s4) rfl rfl rfl rfl rfl (fun r7 => ?_)
      refine g_i1 q250 rfl rfl ?_ ?_
      ·
        refine g_inc (fun v8 => [some (oR 12 0), some (vI y1), some (vI y2), some (vI v8)]) q250 rfl rfl (fun _ => rfl) (fun v8 => ?_)
        refine g_p q250 1 2 [some (oR 12 0), some (vI y1), some (vI y2), some (vI v8)] [] rfl ?_
        exact g_end (fun h => g_wk [true, true, true, true] rfl h)
      ·
        refine g_p q250 3 42 [some (oR 12 0), some (vI y1), some (vI y2), some (vI x3)] [vI y2, vI x3, oR 12 0] rfl ?_
        refine g_cV q250 rfl (g225 X x3 y2 s4) rfl rfl rfl rfl rfl (fun s9 => ?_)
        refine g_inc (fun v10 => [some (oR 12 0), some (vI y1), some (vI y2), some (vI v10)]) q250 rfl rfl (fun _ => rfl) (fun v10 => ?_)
        refine g_p q250 1 2 [some (oR 12 0), some (vI y1), some (vI y2), some (vI v10)] [] rfl ?_
        exact g_end (fun h => g_wk [true, true, true, true] rfl h)
    ·
      refine g_i1 q250 rfl rfl ?_ ?_
      ·
        exact g_wkJ [true, true, true, true] rfl (hj31 ())
      ·
        refine g_p q250 3 23 [some (oR 12 0), some (vI y1), some (vI y2), some (vI x3)] [vI y2, vI x3, oR 12 0] rfl ?_
        refine g_cPI q250 rfl (g224 X x3 y2 s4) rfl rfl rfl rfl rfl (fun r11 => ?_)
        refine g_i1 q250 rfl rfl ?_ ?_
        ·
          exact g_wkJ [true, true, true, true] rfl (hj31 ())
        ·
          exact g_end (fun h => g_wk [false, false, false, false] rfl h)
theorem g250 (X : X2) (a1 : Int) (a2 : Int) (s : S2) (o : Option (AV R2) × S2) : J (f250 a1 a2 s) (fun (r : Int × S2) => o = (some (vI r.1), r.2)) (Go X 4 250 0 (am_loc (am_nl 250) [oR 12 0, vI a1, vI a2]) [] s o) := by
  show J _ _ (Go X 4 250 0 [some (oR 12 0), some (vI a1), some (vI a2), none] [] s o)
  unfold f250
  refine g_p q250 2 2 [some (oR 12 0), some (vI a1), some (vI a2), some (vI 0)] [] rfl ?_
  refine g_wkJ [true, true, true, true] (L0 := [some (oR 12 0), some (vI a1), some (vI a2), some (vI 0)]) rfl ?_
  refine g_itr (H250_a X a1 a2 o) (E250_a X a1 a2 o) (fun | (x3, s4) => g250_a X a1 a2 x3 s4 o) ?_
  refine g_se ?_ ?_
  ·
    intro s12
    show J _ _ (Go X 4 250 29 [none, none, none, none] [] s12 o)
    refine g_p q250 1 30 [none, none, none, none] [vI 0] rfl ?_
    exact g_ret q250 rfl rfl rfl
  ·
    intro s13
    show J _ _ (Go X 4 250 51 [none, none, none, none] [] s13 o)
    refine g_p q250 1 52 [none, none, none, none] [vI 1] rfl ?_
    exact g_ret q250 rfl rfl rfl
theorem q249 : am_cd 249 = am_c249 := rfl
def H249_a (X : X2) (y4 : Int) (y5 : Int) (y6 : Int) (s9 : S2) (o : Option (AV R2) × S2) (a : Int × Int) : Prop := Go X 6 249 34 [some (oR 12 0), some (vI y4), some (vI y5), some (vI y6), some (vI (a.1)), some (vI (a.2)), none] [] s9 o
def E249_a (X : X2) (y4 : Int) (y5 : Int) (y6 : Int) (s9 : S2) (o : Option (AV R2) × S2) : (Int) → Prop := (fun (r : Int) => Go X 6 249 86 [some (oR 12 0), some (vI y4), some (vI y5), some (vI y6), some (vI r), none, none] [] s9 o)
theorem g249_a (X : X2) (y4 : Int) (y5 : Int) (y6 : Int) (x7 : Int) (x8 : Int) (s9 : S2) (o : Option (AV R2) × S2) : J (f249_a y4 x7 x8 s9) (am_kx (H249_a X y4 y5 y6 s9 o) (E249_a X y4 y5 y6 s9 o)) (Go X 6 249 34 [some (oR 12 0), some (vI y4), some (vI y5), some (vI y6), some (vI x7), some (vI x8), none] [] s9 o) := by
  unfold f249_a
  refine g_p q249 2 37 [some (oR 12 0), some (vI y4), some (vI y5), some (vI y6), some (vI x7), some (vI x8), none] [oR 12 0, vI x8] rfl ?_
  refine g_m (S := [aR 1537 0, vI x8]) (some (aR 1537 0)) q249 rfl rfl rfl (fun _ => rfl) rfl ?_
  refine g_p q249 1 41 [some (oR 12 0), some (vI y4), some (vI y5), some (vI y6), some (vI x7), some (vI x8), none] [vI 4, aR 1537 0, vI x8] rfl ?_
  refine g_ld q249 rfl rfl rfl rfl rfl rfl (fun v10 => ?_)
  refine g_i2 q249 rfl rfl ?_ ?_
  ·
    exact g_end (fun h => g_wk [true, true, true, true, true, false, false] rfl h)
  ·
    refine g_p q249 2 48 [some (oR 12 0), some (vI y4), some (vI y5), some (vI y6), some (vI x7), some (vI x8), none] [oR 12 0, vI x7] rfl ?_
    refine g_m (S := [aR 1545 0, vI x7]) (some (aR 1545 0)) q249 rfl rfl rfl (fun _ => rfl) rfl ?_
    refine g_p q249 1 53 [some (oR 12 0), some (vI y4), some (vI y5), some (vI y6), some (vI x7), some (vI x8), none] [vI x8, aR 1545 0, vI x7] rfl ?_
    refine g_ld q249 rfl rfl rfl rfl rfl rfl (fun v11 => ?_)
    refine g_p q249 1 55 [some (oR 12 0), some (vI y4), some (vI y5), some (vI y6), some (vI x7), some (vI x8), none] [vI y4, vI v11, vI x7] rfl ?_
    refine g_jn (fun j77 => ∀ (x12 : Int), J (j77 x12) (am_kx (H249_a X y4 y5 y6 s9 o) (E249_a X y4 y5 y6 s9 o)) (Go X 6 249 77 [some (oR 12 0), some (vI y4), some (vI y5), some (vI y6), none, some (vI x8), none] [vI x12, vI x7] s9 o)) ?_ (fun j77 hj77 => ?_)
    ·
      intro x12
      refine g_p q249 1 78 [some (oR 12 0), some (vI y4), some (vI y5), some (vI y6), none, some (vI x8), none] [vI (jor x7 x12)] rfl ?_
      refine g_top (fun v13 => ?_)
      refine g_p q249 1 80 [some (oR 12 0), some (vI y4), some (vI y5), some (vI y6), some (vI v13), some (vI x8), none] [] rfl ?_
      refine g_inc (fun v14 => [some (oR 12 0), some (vI y4), some (vI y5), some (vI y6), some (vI v13), some (vI v14), none]) q249 rfl rfl (fun _ => rfl) (fun v14 => ?_)
      refine g_p q249 1 34 [some (oR 12 0), some (vI y4), some (vI y5), some (vI y6), some (vI v13), some (vI v14), none] [] rfl ?_
      exact g_end (fun h => g_wk [true, true, true, true, true, true, false] rfl h)
    ·
      refine g_jn (fun j76 => ∀ (_ : Unit), J (j76 ()) (am_kx (H249_a X y4 y5 y6 s9 o) (E249_a X y4 y5 y6 s9 o)) (Go X 6 249 76 [some (oR 12 0), some (vI y4), some (vI y5), some (vI y6), none, some (vI x8), none] [vI x7] s9 o)) ?_ (fun j76 hj76 => ?_)
      ·
        intro _
        refine g_p q249 1 77 [some (oR 12 0), some (vI y4), some (vI y5), some (vI y6), none, some (vI x8), none] [vI 0, vI x7] rfl ?_
        exact g_wkJ [true, true, true, true, false, true, false] rfl (hj77 0)
      ·
        refine g_i2 q249 rfl rfl ?_ ?_
        ·
          exact g_wkJ [true, true, true, true, false, true, false] rfl (hj76 ())
        ·
          refine g_p q249 1 59 [some (oR 12 0), some (vI y4), some (vI y5), some (vI y6), some (vI x7), some (vI x8), none] [oR 12 0, vI x7] rfl ?_
          refine g_m (S := [aR 1548 0, vI x7]) (some (aR 1548 0)) q249 rfl rfl rfl (fun _ => rfl) rfl ?_
          refine g_p q249 1 64 [some (oR 12 0), some (vI y4), some (vI y5), some (vI y6), some (vI x7), some (vI x8), none] [vI x8, aR 1548 0, vI x7] rfl ?_
          refine g_ld q249 rfl rfl rfl rfl rfl rfl (fun v15 => ?_)
          refine g_p q249 1 66 [some (oR 12 0), some (vI y4), some (vI y5), some (vI y6), some (vI x7), some (vI x8), none] [vI (-1), vI v15, vI x7] rfl ?_
          refine g_i2 q249 rfl rfl ?_ ?_
          ·
            exact g_wkJ [true, true, true, true, false, true, false] rfl (hj76 ())
          ·
            refine g_p q249 4 77 [some (oR 12 0), some (vI y4), some (vI y5), some (vI y6), some (vI x7), some (vI x8), none] [vI (jshl 1 x8), vI x7] rfl ?_
            exact g_wkJ [true, true, true, true, false, true, false] rfl (hj77 (jshl 1 x8))
def H249_b (X : X2) (y18 : Int) (y19 : Int) (y20 : Int) (y21 : Int) (o : Option (AV R2) × S2) (a : Int × Int × S2) : Prop := Go X 6 249 97 [some (oR 12 0), some (vI y18), some (vI y19), some (vI y20), some (vI y21), some (vI (a.1)), some (vI (a.2.1))] [] (a.2.2) o
def E249_b (X : X2) (y18 : Int) (y19 : Int) (y20 : Int) (y21 : Int) (o : Option (AV R2) × S2) : (Int × S2) → Prop := (fun (r : Int × S2) => Go X 6 249 172 [none, none, none, some (vI y20), none, some (vI (r.1)), none] [] (r.2) o)
theorem g249_b (X : X2) (y18 : Int) (y19 : Int) (y20 : Int) (y21 : Int) (x22 : Int) (x23 : Int) (s24 : S2) (o : Option (AV R2) × S2) : J (f249_b y18 y19 y21 x22 x23 s24) (am_kx (H249_b X y18 y19 y20 y21 o) (E249_b X y18 y19 y20 y21 o)) (Go X 6 249 97 [some (oR 12 0), some (vI y18), some (vI y19), some (vI y20), some (vI y21), some (vI x22), some (vI x23)] [] s24 o) := by
  unfold f249_b
  refine g_p q249 2 101 [some (oR 12 0), some (vI y18), some (vI y19), some (vI y20), some (vI y21), some (vI x22), some (vI x23)] [vI y21, vI x23] rfl ?_
  refine g_i2 q249 rfl rfl ?_ ?_
  ·
    exact g_end (fun h => g_wk [false, false, false, true, false, true, false] rfl h)
  ·
    refine g_p q249 5 111 [some (oR 12 0), some (vI y18), some (vI y19), some (vI y20), some (vI y21), some (vI x22), some (vI x23)] [vI (jand x23 (jxor y21 (-1)))] rfl ?_
    refine g_i1 q249 rfl rfl ?_ ?_
    ·
      refine g_inc (fun v25 => [some (oR 12 0), some (vI y18), some (vI y19), some (vI y20), some (vI y21), some (vI x22), some (vI v25)]) q249 rfl rfl (fun _ => rfl) (fun v25 => ?_)
      refine g_p q249 1 97 [some (oR 12 0), some (vI y18), some (vI y19), some (vI y20), some (vI y21), some (vI x22), some (vI v25)] [] rfl ?_
      exact g_end (fun h => g_wk [true, true, true, true, true, true, true] rfl h)
    ·
      refine g_p q249 2 118 [some (oR 12 0), some (vI y18), some (vI y19), some (vI y20), some (vI y21), some (vI x22), some (vI x23)] [vI (-2), vI x22] rfl ?_
      refine g_jn (fun j134 => ∀ (_ : Unit), J (j134 ()) (am_kx (H249_b X y18 y19 y20 y21 o) (E249_b X y18 y19 y20 y21 o)) (Go X 6 249 134 [some (oR 12 0), some (vI y18), some (vI y19), some (vI y20), some (vI y21), some (vI x22), some (vI x23)] [] s24 o)) ?_ (fun j134 hj134 => ?_)
      ·
        intro _
        refine g_p q249 3 138 [some (oR 12 0), some (vI y18), some (vI y19), some (vI y20), some (vI y21), some (vI x22), some (vI x23)] [vI y19, vI x23, oR 12 0] rfl ?_
        refine g_cRI q249 rfl (g250 X x23 y19 s24) rfl rfl rfl rfl rfl (fun r26 s27 => ?_)
        refine g_jn (fun j160 => ∀ (x28 : Int) (s29 : S2), J (j160 x28 s29) (am_kx (H249_b X y18 y19 y20 y21 o) (E249_b X y18 y19 y20 y21 o)) (Go X 6 249 160 [some (oR 12 0), some (vI y18), some (vI y19), some (vI y20), some (vI y21), none, some (vI x23)] [vI x28] s29 o)) ?_ (fun j160 hj160 => ?_)
        ·
          intro x28 s29
          refine g_p q249 2 163 [some (oR 12 0), some (vI y18), some (vI y19), some (vI y20), some (vI y21), some (vI x28), some (vI x23)] [oR 12 0] rfl ?_
          refine g_cV q249 rfl (g237 X s29) rfl rfl rfl rfl rfl (fun s30 => ?_)
          refine g_inc (fun v31 => [some (oR 12 0), some (vI y18), some (vI y19), some (vI y20), some (vI y21), some (vI x28), some (vI v31)]) q249 rfl rfl (fun _ => rfl) (fun v31 => ?_)
          refine g_p q249 1 97 [some (oR 12 0), some (vI y18), some (vI y19), some (vI y20), some (vI y21), some (vI x28), some (vI v31)] [] rfl ?_
          exact g_end (fun h => g_wk [true, true, true, true, true, true, true] rfl h)
        ·
          refine g_jn (fun j158 => ∀ (s32 : S2), J (j158 s32) (am_kx (H249_b X y18 y19 y20 y21 o) (E249_b X y18 y19 y20 y21 o)) (Go X 6 249 158 [some (oR 12 0), some (vI y18), some (vI y19), some (vI y20), some (vI y21), some (vI x22), some (vI x23)] [] s32 o)) ?_ (fun j158 hj158 => ?_)
          ·
            intro s32
            refine g_p q249 1 160 [some (oR 12 0), some (vI y18), some (vI y19), some (vI y20), some (vI y21), some (vI x22), some (vI x23)] [vI x22] rfl ?_
            exact g_wkJ [true, true, true, true, true, false, true] rfl (hj160 x22 s32)
          ·
            refine g_i1 q249 rfl rfl ?_ ?_
            ·
              exact g_wkJ [true, true, true, true, true, true, true] rfl (hj158 s27)
            ·
              refine g_p q249 2 146 [some (oR 12 0), some (vI y18), some (vI y19), some (vI y20), some (vI y21), some (vI x22), some (vI x23)] [vI y19, oR 12 0] rfl ?_
              refine g_cRI q249 rfl (g200 X y19 s27) rfl rfl rfl rfl rfl (fun r33 s34 => ?_)
              refine g_p q249 1 150 [some (oR 12 0), some (vI y18), some (vI y19), some (vI y20), some (vI y21), some (vI x22), some (vI x23)] [vI y18, vI r33] rfl ?_
              refine g_i2 q249 rfl rfl ?_ ?_
              ·
                exact g_wkJ [true, true, true, true, true, true, true] rfl (hj158 s34)
              ·
                refine g_p q249 2 160 [some (oR 12 0), some (vI y18), some (vI y19), some (vI y20), some (vI y21), some (vI x22), some (vI x23)] [vI x23] rfl ?_
                exact g_wkJ [true, true, true, true, true, false, true] rfl (hj160 x23 s34)
      ·
        refine g_i2 q249 rfl rfl ?_ ?_
        ·
          exact g_wkJ [true, true, true, true, true, true, true] rfl (hj134 ())
        ·
          refine g_p q249 1 123 [some (oR 12 0), some (vI y18), some (vI y19), some (vI y20), some (vI y21), some (vI x22), some (vI x23)] [vI x23] rfl ?_
          refine g_cPI q249 rfl (g248 X x23 s24) rfl rfl rfl rfl rfl (fun r35 => ?_)
          refine g_p q249 1 128 [some (oR 12 0), some (vI y18), some (vI y19), some (vI y20), some (vI y21), some (vI x22), some (vI x23)] [vI x22, vI r35] rfl ?_
          refine g_cPI q249 rfl (g248 X x22 s24) rfl rfl rfl rfl rfl (fun r36 => ?_)
          refine g_i2 q249 rfl rfl ?_ ?_
          ·
            refine g_inc (fun v37 => [some (oR 12 0), some (vI y18), some (vI y19), some (vI y20), some (vI y21), some (vI x22), some (vI v37)]) q249 rfl rfl (fun _ => rfl) (fun v37 => ?_)
            refine g_p q249 1 97 [some (oR 12 0), some (vI y18), some (vI y19), some (vI y20), some (vI y21), some (vI x22), some (vI v37)] [] rfl ?_
            exact g_end (fun h => g_wk [true, true, true, true, true, true, true] rfl h)
          ·
            exact g_wkJ [true, true, true, true, true, true, true] rfl (hj134 ())
theorem g249 (X : X2) (a1 : Int) (a2 : Int) (a3 : Int) (s : S2) (o : Option (AV R2) × S2) : J (f249 a1 a2 a3 s) (fun (r : Int × S2) => o = (some (vI r.1), r.2)) (Go X 6 249 0 (am_loc (am_nl 249) [oR 12 0, vI a1, vI a2, vI a3]) [] s o) := by
  show J _ _ (Go X 6 249 0 [some (oR 12 0), some (vI a1), some (vI a2), some (vI a3), none, none, none] [] s o)
  unfold f249
  refine g_p q249 2 2 [some (oR 12 0), some (vI a1), some (vI a2), some (vI a3), none, none, none] [vI a1, oR 12 0] rfl ?_
  refine g_cPI q249 rfl (g198 X a1 s) rfl rfl rfl rfl rfl (fun r1 => ?_)
  refine g_i1 q249 rfl rfl ?_ ?_
  ·
    refine g_p q249 1 27 [some (oR 12 0), some (vI a1), some (vI a2), some (vI a3), none, none, none] [vI (-1)] rfl ?_
    exact g_ret q249 rfl rfl rfl
  ·
    refine g_p q249 2 10 [some (oR 12 0), some (vI a1), some (vI a2), some (vI a3), none, none, none] [vI a2, oR 12 0] rfl ?_
    refine g_cPI q249 rfl (g210 X a2 s) rfl rfl rfl rfl rfl (fun r2 => ?_)
    refine g_i1 q249 rfl rfl ?_ ?_
    ·
      refine g_p q249 1 27 [some (oR 12 0), some (vI a1), some (vI a2), some (vI a3), none, none, none] [vI (-1)] rfl ?_
      exact g_ret q249 rfl rfl rfl
    ·
      refine g_p q249 4 20 [some (oR 12 0), some (vI a1), some (vI a2), some (vI a3), none, none, none] [vL 1, vL 0, vL (ji2l a3)] rfl ?_
      refine g_cPI q249 rfl (g173 X (ji2l a3) 0 1 s) rfl rfl rfl rfl rfl (fun r3 => ?_)
      refine g_i1 q249 rfl rfl ?_ ?_
      ·
        refine g_p q249 4 34 [some (oR 12 0), some (vI a1), some (vI a2), some (vI a3), some (vI 0), some (vI 0), none] [] rfl ?_
        refine g_wkJ [true, true, true, true, true, true, false] (L0 := [some (oR 12 0), some (vI a1), some (vI a2), some (vI a3), some (vI 0), some (vI 0), none]) rfl ?_
        refine g_itr (H249_a X a1 a2 a3 s o) (E249_a X a1 a2 a3 s o) (fun | (x7, x8) => g249_a X a1 a2 a3 x7 x8 s o) ?_
        intro z16
        show J _ _ (Go X 6 249 86 [some (oR 12 0), some (vI a1), some (vI a2), some (vI a3), some (vI z16), none, none] [] s o)
        refine g_p q249 3 91 [some (oR 12 0), some (vI a1), some (vI a2), some (vI a3), some (vI z16), some (vI (-2)), none] [oR 12 0] rfl ?_
        refine g_cV q249 rfl (g233 X s) rfl rfl rfl rfl rfl (fun s17 => ?_)
        refine g_p q249 2 97 [some (oR 12 0), some (vI a1), some (vI a2), some (vI a3), some (vI z16), some (vI (-2)), some (vI 0)] [] rfl ?_
        refine g_wkJ [true, true, true, true, true, true, true] (L0 := [some (oR 12 0), some (vI a1), some (vI a2), some (vI a3), some (vI z16), some (vI (-2)), some (vI 0)]) rfl ?_
        refine g_itr (H249_b X a1 a2 a3 z16 o) (E249_b X a1 a2 a3 z16 o) (fun | (x22, x23, s24) => g249_b X a1 a2 a3 z16 x22 x23 s24 o) ?_
        rintro ⟨z38, s39⟩
        show J _ _ (Go X 6 249 172 [none, none, none, some (vI a3), none, some (vI z38), none] [] s39 o)
        refine g_p q249 2 176 [none, none, none, some (vI a3), none, some (vI z38), none] [vI (-2), vI z38] rfl ?_
        refine g_i2 q249 rfl rfl ?_ ?_
        ·
          refine g_p q249 2 194 [none, none, none, some (vI a3), none, some (vI z38), none] [vI z38] rfl ?_
          exact g_ret q249 rfl rfl rfl
        ·
          refine g_p q249 2 181 [none, none, none, some (vI a3), none, some (vI z38), none] [vI 1, vI a3] rfl ?_
          refine g_i2 q249 rfl rfl ?_ ?_
          ·
            refine g_p q249 1 191 [none, none, none, some (vI a3), none, some (vI z38), none] [vI z38] rfl ?_
            refine g_cPI q249 rfl (g248 X z38 s39) rfl rfl rfl rfl rfl (fun r40 => ?_)
            exact g_ret q249 rfl rfl rfl
          ·
            refine g_p q249 2 194 [none, none, none, some (vI a3), none, some (vI z38), none] [vI z38] rfl ?_
            exact g_ret q249 rfl rfl rfl
      ·
        refine g_p q249 1 27 [some (oR 12 0), some (vI a1), some (vI a2), some (vI a3), none, none, none] [vI (-1)] rfl ?_
        exact g_ret q249 rfl rfl rfl
theorem q252 : am_cd 252 = am_c252 := rfl
def H252_a (X : X2) (y1 : Int) (o : Option (AV R2) × S2) (a : Int × S2) : Prop := Go X 3 252 2 [some (oR 12 0), some (vI y1), some (vI (a.1)), none, none] [] (a.2) o
def E252_a (X : X2) (y1 : Int) (o : Option (AV R2) × S2) : (S2) → Prop := (fun (r : S2) => Go X 3 252 32 [some (oR 12 0), none, none, none, none] [] r o)
set_option maxRecDepth 20000 in
theorem g252_a (X : X2) (y1 : Int) (x2 : Int) (s3 : S2) (o : Option (AV R2) × S2) : J (f252_a y1 x2 s3) (am_kx (H252_a X y1 o) (E252_a X y1 o)) (Go X 3 252 2 [some (oR 12 0), some (vI y1), some (vI x2), none, none] [] s3 o) := by
  unfold f252_a
  refine g_p q252 2 5 [some (oR 12 0), some (vI y1), some (vI x2), none, none] [vI 8, vI x2] rfl ?_
  refine g_i2 q252 rfl rfl ?_ ?_
  ·
    exact g_end (fun h => g_wk [true, false, false, false, false] rfl h)
  ·
    refine g_p q252 1 9 [some (oR 12 0), some (vI y1), some (vI x2), none, none] [oR 12 0] rfl ?_
    refine g_m (S := [aR 1603 0]) (some (aR 1603 0)) q252 rfl rfl rfl (fun _ => rfl) rfl ?_
    refine g_p q252 3 15 [some (oR 12 0), some (vI y1), some (vI x2), none, none] [vI y1, vI x2, vI x2, aR 1603 0] rfl ?_
    refine g_jn (fun j25 => ∀ (x4 : Int), J (j25 x4) (am_kx (H252_a X y1 o) (E252_a X y1 o)) (Go X 3 252 25 [some (oR 12 0), some (vI y1), some (vI x2), none, none] [vI x4, vI x2, aR 1603 0] s3 o)) ?_ (fun j25 hj25 => ?_)
    ·
      intro x4
      refine g_sto q252 rfl rfl rfl rfl (fun s5 => ?_)
      refine g_inc (fun v6 => [some (oR 12 0), some (vI y1), some (vI v6), none, none]) q252 rfl rfl (fun _ => rfl) (fun v6 => ?_)
      refine g_p q252 1 2 [some (oR 12 0), some (vI y1), some (vI v6), none, none] [] rfl ?_
      exact g_end (fun h => g_wk [true, true, true, false, false] rfl h)
    ·
      refine g_i2 q252 rfl rfl ?_ ?_
      ·
        refine g_p q252 1 25 [some (oR 12 0), some (vI y1), some (vI x2), none, none] [vI 100000, vI x2, aR 1603 0] rfl ?_
        exact g_wkJ [true, true, true, false, false] rfl (hj25 100000)
      ·
        refine g_p q252 2 25 [some (oR 12 0), some (vI y1), some (vI x2), none, none] [vI 0, vI x2, aR 1603 0] rfl ?_
        exact g_wkJ [true, true, true, false, false] rfl (hj25 0)
def H252_c (X : X2) (y10 : Int) (o : Option (AV R2) × S2) (a : Int × S2) : Prop := Go X 3 252 42 [some (oR 12 0), none, some (vI y10), some (vI (a.1)), none] [] (a.2) o
def E252_c (X : X2) (y10 : Int) (o : Option (AV R2) × S2) : (S2) → Prop := (fun (r : S2) => Go X 3 252 213 [some (oR 12 0), none, some (vI y10), none, none] [] r o)
set_option maxRecDepth 20000 in
theorem g252_c (X : X2) (y10 : Int) (x11 : Int) (s12 : S2) (o : Option (AV R2) × S2) : J (f252_c x11 s12) (am_kx (H252_c X y10 o) (E252_c X y10 o)) (Go X 3 252 42 [some (oR 12 0), none, some (vI y10), some (vI x11), none] [] s12 o) := by
  unfold f252_c
  refine g_p q252 2 44 [some (oR 12 0), none, some (vI y10), some (vI x11), none] [oR 12 0, vI x11] rfl ?_
  refine g_m (S := [aR 1537 0, vI x11]) (some (aR 1537 0)) q252 rfl rfl rfl (fun _ => rfl) rfl ?_
  refine g_p q252 1 48 [some (oR 12 0), none, some (vI y10), some (vI x11), none] [vI 3, aR 1537 0, vI x11] rfl ?_
  refine g_ld q252 rfl rfl rfl rfl rfl rfl (fun v13 => ?_)
  refine g_i2 q252 rfl rfl ?_ ?_
  ·
    exact g_end (fun h => g_wk [true, false, true, false, false] rfl h)
  ·
    refine g_p q252 2 54 [some (oR 12 0), none, some (vI y10), some (vI x11), none] [vI x11, oR 12 0] rfl ?_
    refine g_cPI q252 rfl (g201 X x11 s12) rfl rfl rfl rfl rfl (fun r14 => ?_)
    refine g_i1 q252 rfl rfl ?_ ?_
    ·
      refine g_inc (fun v15 => [some (oR 12 0), none, some (vI y10), some (vI v15), none]) q252 rfl rfl (fun _ => rfl) (fun v15 => ?_)
      refine g_p q252 1 42 [some (oR 12 0), none, some (vI y10), some (vI v15), none] [] rfl ?_
      exact g_end (fun h => g_wk [true, false, true, true, false] rfl h)
    ·
      refine g_p q252 2 63 [some (oR 12 0), none, some (vI y10), some (vI x11), none] [oR 12 0, vI 100] rfl ?_
      refine g_m (S := [aR 1542 0, vI 100]) (some (aR 1542 0)) q252 rfl rfl rfl (fun _ => rfl) rfl ?_
      refine g_p q252 1 67 [some (oR 12 0), none, some (vI y10), some (vI x11), none] [vI x11, aR 1542 0, vI 100] rfl ?_
      refine g_ld q252 rfl rfl rfl rfl rfl rfl (fun v16 => ?_)
      refine g_p q252 3 71 [some (oR 12 0), none, some (vI y10), some (vI x11), none] [vI (jadd (jmul 100 v16) 1)] rfl ?_
      refine g_top (fun v17 => ?_)
      refine g_p q252 2 74 [some (oR 12 0), none, some (vI y10), some (vI x11), some (vI v17)] [oR 12 0] rfl ?_
      refine g_m (S := [aR 1603 0]) (some (aR 1603 0)) q252 rfl rfl rfl (fun _ => rfl) rfl ?_
      refine g_p q252 1 78 [some (oR 12 0), none, some (vI y10), some (vI x11), some (vI v17)] [oR 12 0, aR 1603 0] rfl ?_
      refine g_m (S := [aR 1540 0, aR 1603 0]) (some (aR 1540 0)) q252 rfl rfl rfl (fun _ => rfl) rfl ?_
      refine g_p q252 1 82 [some (oR 12 0), none, some (vI y10), some (vI x11), some (vI v17)] [vI x11, aR 1540 0, aR 1603 0] rfl ?_
      refine g_ld q252 rfl rfl rfl rfl rfl rfl (fun v18 => ?_)
      refine g_p q252 1 84 [some (oR 12 0), none, some (vI y10), some (vI x11), some (vI v17)] [oR 12 0, vI v18, aR 1603 0] rfl ?_
      refine g_m (S := [aR 1603 0, vI v18, aR 1603 0]) (some (aR 1603 0)) q252 rfl rfl rfl (fun _ => rfl) rfl ?_
      refine g_p q252 1 88 [some (oR 12 0), none, some (vI y10), some (vI x11), some (vI v17)] [oR 12 0, aR 1603 0, vI v18, aR 1603 0] rfl ?_
      refine g_m (S := [aR 1541 0, aR 1603 0, vI v18, aR 1603 0]) (some (aR 1541 0)) q252 rfl rfl rfl (fun _ => rfl) rfl ?_
      refine g_p q252 1 92 [some (oR 12 0), none, some (vI y10), some (vI x11), some (vI v17)] [vI x11, aR 1541 0, aR 1603 0, vI v18, aR 1603 0] rfl ?_
      refine g_ld q252 rfl rfl rfl rfl rfl rfl (fun v19 => ?_)
      refine g_ld q252 rfl rfl rfl rfl rfl rfl (fun v20 => ?_)
      refine g_p q252 3 98 [some (oR 12 0), none, some (vI y10), some (vI x11), some (vI v17)] [oR 12 0, vI (jadd v20 v17), vI v18, aR 1603 0] rfl ?_
      refine g_m (S := [aR 1603 0, vI (jadd v20 v17), vI v18, aR 1603 0]) (some (aR 1603 0)) q252 rfl rfl rfl (fun _ => rfl) rfl ?_
      refine g_p q252 1 102 [some (oR 12 0), none, some (vI y10), some (vI x11), some (vI v17)] [oR 12 0, aR 1603 0, vI (jadd v20 v17), vI v18, aR 1603 0] rfl ?_
      refine g_m (S := [aR 1540 0, aR 1603 0, vI (jadd v20 v17), vI v18, aR 1603 0]) (some (aR 1540 0)) q252 rfl rfl rfl (fun _ => rfl) rfl ?_
      refine g_p q252 1 106 [some (oR 12 0), none, some (vI y10), some (vI x11), some (vI v17)] [vI x11, aR 1540 0, aR 1603 0, vI (jadd v20 v17), vI v18, aR 1603 0] rfl ?_
      refine g_ld q252 rfl rfl rfl rfl rfl rfl (fun v21 => ?_)
      refine g_ld q252 rfl rfl rfl rfl rfl rfl (fun v22 => ?_)
      refine g_jn (fun j139 => ∀ (x23 : Int), J (j139 x23) (am_kx (H252_c X y10 o) (E252_c X y10 o)) (Go X 3 252 139 [some (oR 12 0), none, some (vI y10), some (vI x11), some (vI v17)] [vI x23, vI v18, aR 1603 0] s12 o)) ?_ (fun j139 hj139 => ?_)
      ·
        intro x23
        refine g_sto q252 rfl rfl rfl rfl (fun s24 => ?_)
        refine g_p q252 1 141 [some (oR 12 0), none, some (vI y10), some (vI x11), some (vI v17)] [oR 12 0] rfl ?_
        refine g_m (S := [aR 1603 0]) (some (aR 1603 0)) q252 rfl rfl rfl (fun _ => rfl) rfl ?_
        refine g_p q252 1 145 [some (oR 12 0), none, some (vI y10), some (vI x11), some (vI v17)] [oR 12 0, aR 1603 0] rfl ?_
        refine g_m (S := [aR 1541 0, aR 1603 0]) (some (aR 1541 0)) q252 rfl rfl rfl (fun _ => rfl) rfl ?_
        refine g_p q252 1 149 [some (oR 12 0), none, some (vI y10), some (vI x11), some (vI v17)] [vI x11, aR 1541 0, aR 1603 0] rfl ?_
        refine g_ld q252 rfl rfl rfl rfl rfl rfl (fun v25 => ?_)
        refine g_p q252 1 151 [some (oR 12 0), none, some (vI y10), some (vI x11), some (vI v17)] [oR 12 0, vI v25, aR 1603 0] rfl ?_
        refine g_m (S := [aR 1603 0, vI v25, aR 1603 0]) (some (aR 1603 0)) q252 rfl rfl rfl (fun _ => rfl) rfl ?_
        refine g_p q252 1 155 [some (oR 12 0), none, some (vI y10), some (vI x11), some (vI v17)] [oR 12 0, aR 1603 0, vI v25, aR 1603 0] rfl ?_
        refine g_m (S := [aR 1540 0, aR 1603 0, vI v25, aR 1603 0]) (some (aR 1540 0)) q252 rfl rfl rfl (fun _ => rfl) rfl ?_
        refine g_p q252 1 159 [some (oR 12 0), none, some (vI y10), some (vI x11), some (vI v17)] [vI x11, aR 1540 0, aR 1603 0, vI v25, aR 1603 0] rfl ?_
        refine g_ld q252 rfl rfl rfl rfl rfl rfl (fun v26 => ?_)
        refine g_ld q252 rfl rfl rfl rfl rfl rfl (fun v27 => ?_)
        refine g_p q252 3 165 [some (oR 12 0), none, some (vI y10), some (vI x11), some (vI v17)] [oR 12 0, vI (jadd v27 v17), vI v25, aR 1603 0] rfl ?_
        refine g_m (S := [aR 1603 0, vI (jadd v27 v17), vI v25, aR 1603 0]) (some (aR 1603 0)) q252 rfl rfl rfl (fun _ => rfl) rfl ?_
        refine g_p q252 1 169 [some (oR 12 0), none, some (vI y10), some (vI x11), some (vI v17)] [oR 12 0, aR 1603 0, vI (jadd v27 v17), vI v25, aR 1603 0] rfl ?_
        refine g_m (S := [aR 1541 0, aR 1603 0, vI (jadd v27 v17), vI v25, aR 1603 0]) (some (aR 1541 0)) q252 rfl rfl rfl (fun _ => rfl) rfl ?_
        refine g_p q252 1 173 [some (oR 12 0), none, some (vI y10), some (vI x11), some (vI v17)] [vI x11, aR 1541 0, aR 1603 0, vI (jadd v27 v17), vI v25, aR 1603 0] rfl ?_
        refine g_ld q252 rfl rfl rfl rfl rfl rfl (fun v28 => ?_)
        refine g_ld q252 rfl rfl rfl rfl rfl rfl (fun v29 => ?_)
        refine g_jn (fun j206 => ∀ (x30 : Int), J (j206 x30) (am_kx (H252_c X y10 o) (E252_c X y10 o)) (Go X 3 252 206 [some (oR 12 0), none, some (vI y10), some (vI x11), none] [vI x30, vI v25, aR 1603 0] s24 o)) ?_ (fun j206 hj206 => ?_)
        ·
          intro x30
          refine g_sto q252 rfl rfl rfl rfl (fun s31 => ?_)
          refine g_inc (fun v32 => [some (oR 12 0), none, some (vI y10), some (vI v32), none]) q252 rfl rfl (fun _ => rfl) (fun v32 => ?_)
          refine g_p q252 1 42 [some (oR 12 0), none, some (vI y10), some (vI v32), none] [] rfl ?_
          exact g_end (fun h => g_wk [true, false, true, true, false] rfl h)
        ·
          refine g_i2 q252 rfl rfl ?_ ?_
          ·
            refine g_p q252 1 196 [some (oR 12 0), none, some (vI y10), some (vI x11), some (vI v17)] [oR 12 0, vI v25, aR 1603 0] rfl ?_
            refine g_m (S := [aR 1603 0, vI v25, aR 1603 0]) (some (aR 1603 0)) q252 rfl rfl rfl (fun _ => rfl) rfl ?_
            refine g_p q252 1 200 [some (oR 12 0), none, some (vI y10), some (vI x11), some (vI v17)] [oR 12 0, aR 1603 0, vI v25, aR 1603 0] rfl ?_
            refine g_m (S := [aR 1541 0, aR 1603 0, vI v25, aR 1603 0]) (some (aR 1541 0)) q252 rfl rfl rfl (fun _ => rfl) rfl ?_
            refine g_p q252 1 204 [some (oR 12 0), none, some (vI y10), some (vI x11), some (vI v17)] [vI x11, aR 1541 0, aR 1603 0, vI v25, aR 1603 0] rfl ?_
            refine g_ld q252 rfl rfl rfl rfl rfl rfl (fun v33 => ?_)
            refine g_ld q252 rfl rfl rfl rfl rfl rfl (fun v34 => ?_)
            exact g_wkJ [true, false, true, true, false] rfl (hj206 v34)
          ·
            refine g_p q252 1 179 [some (oR 12 0), none, some (vI y10), some (vI x11), some (vI v17)] [oR 12 0, vI v25, aR 1603 0] rfl ?_
            refine g_m (S := [aR 1603 0, vI v25, aR 1603 0]) (some (aR 1603 0)) q252 rfl rfl rfl (fun _ => rfl) rfl ?_
            refine g_p q252 1 183 [some (oR 12 0), none, some (vI y10), some (vI x11), some (vI v17)] [oR 12 0, aR 1603 0, vI v25, aR 1603 0] rfl ?_
            refine g_m (S := [aR 1540 0, aR 1603 0, vI v25, aR 1603 0]) (some (aR 1540 0)) q252 rfl rfl rfl (fun _ => rfl) rfl ?_
            refine g_p q252 1 187 [some (oR 12 0), none, some (vI y10), some (vI x11), some (vI v17)] [vI x11, aR 1540 0, aR 1603 0, vI v25, aR 1603 0] rfl ?_
            refine g_ld q252 rfl rfl rfl rfl rfl rfl (fun v35 => ?_)
            refine g_ld q252 rfl rfl rfl rfl rfl rfl (fun v36 => ?_)
            refine g_p q252 3 206 [some (oR 12 0), none, some (vI y10), some (vI x11), some (vI v17)] [vI (jadd v36 v17), vI v25, aR 1603 0] rfl ?_
            exact g_wkJ [true, false, true, true, false] rfl (hj206 (jadd v36 v17))
      ·
        refine g_i2 q252 rfl rfl ?_ ?_
        ·
          refine g_p q252 1 129 [some (oR 12 0), none, some (vI y10), some (vI x11), some (vI v17)] [oR 12 0, vI v18, aR 1603 0] rfl ?_
          refine g_m (S := [aR 1603 0, vI v18, aR 1603 0]) (some (aR 1603 0)) q252 rfl rfl rfl (fun _ => rfl) rfl ?_
          refine g_p q252 1 133 [some (oR 12 0), none, some (vI y10), some (vI x11), some (vI v17)] [oR 12 0, aR 1603 0, vI v18, aR 1603 0] rfl ?_
          refine g_m (S := [aR 1540 0, aR 1603 0, vI v18, aR 1603 0]) (some (aR 1540 0)) q252 rfl rfl rfl (fun _ => rfl) rfl ?_
          refine g_p q252 1 137 [some (oR 12 0), none, some (vI y10), some (vI x11), some (vI v17)] [vI x11, aR 1540 0, aR 1603 0, vI v18, aR 1603 0] rfl ?_
          refine g_ld q252 rfl rfl rfl rfl rfl rfl (fun v37 => ?_)
          refine g_ld q252 rfl rfl rfl rfl rfl rfl (fun v38 => ?_)
          exact g_wkJ [true, false, true, true, true] rfl (hj139 v38)
        ·
          refine g_p q252 1 112 [some (oR 12 0), none, some (vI y10), some (vI x11), some (vI v17)] [oR 12 0, vI v18, aR 1603 0] rfl ?_
          refine g_m (S := [aR 1603 0, vI v18, aR 1603 0]) (some (aR 1603 0)) q252 rfl rfl rfl (fun _ => rfl) rfl ?_
          refine g_p q252 1 116 [some (oR 12 0), none, some (vI y10), some (vI x11), some (vI v17)] [oR 12 0, aR 1603 0, vI v18, aR 1603 0] rfl ?_
          refine g_m (S := [aR 1541 0, aR 1603 0, vI v18, aR 1603 0]) (some (aR 1541 0)) q252 rfl rfl rfl (fun _ => rfl) rfl ?_
          refine g_p q252 1 120 [some (oR 12 0), none, some (vI y10), some (vI x11), some (vI v17)] [vI x11, aR 1541 0, aR 1603 0, vI v18, aR 1603 0] rfl ?_
          refine g_ld q252 rfl rfl rfl rfl rfl rfl (fun v39 => ?_)
          refine g_ld q252 rfl rfl rfl rfl rfl rfl (fun v40 => ?_)
          refine g_p q252 3 139 [some (oR 12 0), none, some (vI y10), some (vI x11), some (vI v17)] [vI (jadd v40 v17), vI v18, aR 1603 0] rfl ?_
          exact g_wkJ [true, false, true, true, true] rfl (hj139 (jadd v40 v17))
def H252_b (X : X2) (o : Option (AV R2) × S2) (a : Int × S2) : Prop := Go X 3 252 34 [some (oR 12 0), none, some (vI (a.1)), none, none] [] (a.2) o
def E252_b (X : X2) (o : Option (AV R2) × S2) : (S2) → Prop := (fun (r : S2) => Go X 3 252 219 [none, none, none, none, none] [] r o)
set_option maxRecDepth 20000 in
theorem g252_b (X : X2) (x8 : Int) (s9 : S2) (o : Option (AV R2) × S2) : J (f252_b x8 s9) (am_kx (H252_b X o) (E252_b X o)) (Go X 3 252 34 [some (oR 12 0), none, some (vI x8), none, none] [] s9 o) := by
  unfold f252_b
  refine g_p q252 2 37 [some (oR 12 0), none, some (vI x8), none, none] [vI 8, vI x8] rfl ?_
  refine g_i2 q252 rfl rfl ?_ ?_
  ·
    exact g_end (fun h => g_wk [false, false, false, false, false] rfl h)
  ·
    refine g_p q252 2 42 [some (oR 12 0), none, some (vI x8), some (vI 0), none] [] rfl ?_
    refine g_wkJ [true, false, true, true, false] (L0 := [some (oR 12 0), none, some (vI x8), some (vI 0), none]) rfl ?_
    refine g_itr (H252_c X x8 o) (E252_c X x8 o) (fun | (x11, s12) => g252_c X x8 x11 s12 o) ?_
    intro s41
    show J _ _ (Go X 3 252 213 [some (oR 12 0), none, some (vI x8), none, none] [] s41 o)
    refine g_inc (fun v42 => [some (oR 12 0), none, some (vI v42), none, none]) q252 rfl rfl (fun _ => rfl) (fun v42 => ?_)
    refine g_p q252 1 34 [some (oR 12 0), none, some (vI v42), none, none] [] rfl ?_
    exact g_end (fun h => g_wk [true, false, true, false, false] rfl h)
set_option maxRecDepth 20000 in
theorem g252 (X : X2) (a1 : Int) (s : S2) (o : Option (AV R2) × S2) : J (f252 a1 s) (fun (r : S2) => o = (none, r)) (Go X 3 252 0 (am_loc (am_nl 252) [oR 12 0, vI a1]) [] s o) := by
  show J _ _ (Go X 3 252 0 [some (oR 12 0), some (vI a1), none, none, none] [] s o)
  unfold f252
  refine g_p q252 2 2 [some (oR 12 0), some (vI a1), some (vI 0), none, none] [] rfl ?_
  refine g_wkJ [true, true, true, false, false] (L0 := [some (oR 12 0), some (vI a1), some (vI 0), none, none]) rfl ?_
  refine g_itr (H252_a X a1 o) (E252_a X a1 o) (fun | (x2, s3) => g252_a X a1 x2 s3 o) ?_
  intro s7
  show J _ _ (Go X 3 252 32 [some (oR 12 0), none, none, none, none] [] s7 o)
  refine g_p q252 2 34 [some (oR 12 0), none, some (vI 0), none, none] [] rfl ?_
  refine g_wkJ [true, false, true, false, false] (L0 := [some (oR 12 0), none, some (vI 0), none, none]) rfl ?_
  refine g_itr (H252_b X o) (E252_b X o) (fun | (x8, s9) => g252_b X x8 s9 o) ?_
  intro s43
  show J _ _ (Go X 3 252 219 [none, none, none, none, none] [] s43 o)
  exact g_retV q252 rfl rfl
theorem q253 : am_cd 253 = am_c253 := rfl
theorem g253 (X : X2) (a1 : Int) (a2 : Int) (s : S2) (o : Option (AV R2) × S2) : J (f253 a1 a2 s) (fun (r : Int) => o = (some (vI r), s)) (Go X 1 253 0 (am_loc (am_nl 253) [oR 12 0, vI a1, vI a2]) [] s o) := by
  show J _ _ (Go X 1 253 0 [some (oR 12 0), some (vI a1), some (vI a2)] [] s o)
  unfold f253
  refine g_p q253 1 1 [some (oR 12 0), some (vI a1), some (vI a2)] [oR 12 0] rfl ?_
  refine g_m (S := [aR 1540 0]) (some (aR 1540 0)) q253 rfl rfl rfl (fun _ => rfl) rfl ?_
  refine g_p q253 1 5 [some (oR 12 0), some (vI a1), some (vI a2)] [vI a1, aR 1540 0] rfl ?_
  refine g_ld q253 rfl rfl rfl rfl rfl rfl (fun v1 => ?_)
  refine g_p q253 1 7 [some (oR 12 0), some (vI a1), some (vI a2)] [vI a2, vI v1] rfl ?_
  refine g_i2 q253 rfl rfl ?_ ?_
  ·
    refine g_p q253 1 20 [some (oR 12 0), some (vI a1), some (vI a2)] [oR 12 0] rfl ?_
    refine g_m (S := [aR 1541 0]) (some (aR 1541 0)) q253 rfl rfl rfl (fun _ => rfl) rfl ?_
    refine g_p q253 1 24 [some (oR 12 0), some (vI a1), some (vI a2)] [vI a1, aR 1541 0] rfl ?_
    refine g_ld q253 rfl rfl rfl rfl rfl rfl (fun v2 => ?_)
    refine g_p q253 1 26 [some (oR 12 0), some (vI a1), some (vI a2)] [vI a2, vI v2] rfl ?_
    refine g_i2 q253 rfl rfl ?_ ?_
    ·
      refine g_p q253 1 39 [some (oR 12 0), some (vI a1), some (vI a2)] [vI (-1)] rfl ?_
      exact g_ret q253 rfl rfl rfl
    ·
      refine g_p q253 1 30 [some (oR 12 0), some (vI a1), some (vI a2)] [oR 12 0] rfl ?_
      refine g_m (S := [aR 1540 0]) (some (aR 1540 0)) q253 rfl rfl rfl (fun _ => rfl) rfl ?_
      refine g_p q253 1 34 [some (oR 12 0), some (vI a1), some (vI a2)] [vI a1, aR 1540 0] rfl ?_
      refine g_ld q253 rfl rfl rfl rfl rfl rfl (fun v3 => ?_)
      refine g_p q253 1 39 [some (oR 12 0), some (vI a1), some (vI a2)] [vI v3] rfl ?_
      exact g_ret q253 rfl rfl rfl
  ·
    refine g_p q253 1 11 [some (oR 12 0), some (vI a1), some (vI a2)] [oR 12 0] rfl ?_
    refine g_m (S := [aR 1541 0]) (some (aR 1541 0)) q253 rfl rfl rfl (fun _ => rfl) rfl ?_
    refine g_p q253 1 15 [some (oR 12 0), some (vI a1), some (vI a2)] [vI a1, aR 1541 0] rfl ?_
    refine g_ld q253 rfl rfl rfl rfl rfl rfl (fun v4 => ?_)
    refine g_p q253 1 39 [some (oR 12 0), some (vI a1), some (vI a2)] [vI v4] rfl ?_
    exact g_ret q253 rfl rfl rfl
