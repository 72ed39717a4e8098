def f_X11_has_B155 (v0 : Nat) (M0 : sMem) : Option Int32 :=
  (gI 11 20 7 M0 v0).bind fun x1 =>
  some x1
def f_X11_has (v0 : Nat) (v1 : Int32) (M0 : sMem) : Option Int32 :=
  sRc 11 20 M0 v0 (
    if v1 = (0 : Int32) then
      (gR 11 20 2 M0 v0).bind fun x25 =>
      (gI 1 10 0 M0 x25).bind fun x26 =>
      some x26
    else
    if v1 = (1 : Int32) then
      (gR 11 20 2 M0 v0).bind fun x22 =>
      (gR 1 10 1 M0 x22).bind fun x23 =>
      (gI 9 4 3 M0 x23).bind fun x24 =>
      some x24
    else
    if v1 = (2 : Int32) then
      (gR 11 20 2 M0 v0).bind fun x19 =>
      (gR 1 10 2 M0 x19).bind fun x20 =>
      (gI 9 4 3 M0 x20).bind fun x21 =>
      some x21
    else
    if v1 = (3 : Int32) then
      (gR 11 20 2 M0 v0).bind fun x16 =>
      (gR 1 10 3 M0 x16).bind fun x17 =>
      (gI 9 4 3 M0 x17).bind fun x18 =>
      some x18
    else
    if v1 = (4 : Int32) then
      (gR 11 20 2 M0 v0).bind fun x13 =>
      (gR 1 10 4 M0 x13).bind fun x14 =>
      (gI 9 4 3 M0 x14).bind fun x15 =>
      some x15
    else
    if v1 = (5 : Int32) then
      (gR 11 20 2 M0 v0).bind fun x10 =>
      (gR 1 10 5 M0 x10).bind fun x11 =>
      (gI 9 4 3 M0 x11).bind fun x12 =>
      some x12
    else
    if v1 = (6 : Int32) then
      (gR 11 20 4 M0 v0).bind fun x8 =>
      (gI 8 8 0 M0 x8).bind fun x9 =>
      some x9
    else
    if v1 = (7 : Int32) then
      (gR 11 20 4 M0 v0).bind fun x5 =>
      (gI 8 8 1 M0 x5).bind fun x6 =>
      (f_J6_bitCount_0f7a4 x6 M0).bind fun x7 =>
      some x7
    else
    if v1 = (8 : Int32) then
      (gR 11 20 4 M0 v0).bind fun x3 =>
      (gI 8 8 7 M0 x3).bind fun x4 =>
      some x4
    else
    if v1 = (9 : Int32) then
      (gI 11 20 13 M0 v0).bind fun x2 =>
      some x2
    else
    if v1 = (10 : Int32) then
      f_X11_has_B155 v0 M0
    else
    some ((-1 : Int32)))
set_option maxRecDepth 100000 in
set_option maxHeartbeats 4000000 in
theorem m_X11_has (G : sG) (l : Launch) (v0 : Nat) (v1 : Int32) (M0 : sMem) : sCp G l 2 yX11_has cX11_has 2 (some .int) [.ref v0, .int v1] M0 rvI (f_X11_has v0 v1 M0) := by
  refine sC_p (ls := [some (.ref v0), some (.int v1)]) (by decide +kernel) rfl (Nat.le_of_ble_eq_true rfl) (fun r M' K hr => ?_)
  unfold f_X11_has
  have xB155 : ∀ (v0 : Nat), sX G l 2 yX11_has cX11_has 2 (some .int) M0 r M' 155 [some (.ref v0), none] [] M0 (f_X11_has_B155 v0 M0) K := by
    intro v0
    unfold f_X11_has_B155
    refine sX_aload_n (i := 0) (by decide +kernel) rfl ?_
    refine sX_getI lf_X11_110 tk_11_7 (by decide +kernel) (fun x1 => ?_)
    exact sX_some (fun h _ => sW_iret (by decide +kernel) rfl (hr _ h).1.symm (hr _ h).2.symm)
  refine sX_rc ?_
  refine sX_iload_n (i := 1) (by decide +kernel) rfl ?_
  refine sX_if (fun hx => ?_) (fun n0 => ?_)
  · refine sX_tin (n := (0 : Int32)) (t := 60) (off := 59) (dflt := 159) (lo := 0) (hi := 10) (offs := #[59, 67, 78, 89, 100, 111, 122, 130, 141, 149, 154]) (len := 59) (by decide +kernel) hx (by decide) (by decide) (by decide) (by decide) ?_
    refine sX_aload_n (i := 0) (by decide +kernel) rfl ?_
    refine sX_getR lf_X11_28 tk_11_2 (by decide +kernel) (fun x25 => ?_)
    refine sX_getI lf_X11_122 tk_1_0 (by decide +kernel) (fun x26 => ?_)
    exact sX_some (fun h _ => sW_iret (by decide +kernel) rfl (hr _ h).1.symm (hr _ h).2.symm)
  · refine sX_if (fun hx => ?_) (fun n1 => ?_)
    · refine sX_tin (n := (1 : Int32)) (t := 68) (off := 67) (dflt := 159) (lo := 0) (hi := 10) (offs := #[59, 67, 78, 89, 100, 111, 122, 130, 141, 149, 154]) (len := 59) (by decide +kernel) hx (by decide) (by decide) (by decide) (by decide) ?_
      refine sX_aload_n (i := 0) (by decide +kernel) rfl ?_
      refine sX_getR lf_X11_28 tk_11_2 (by decide +kernel) (fun x22 => ?_)
      refine sX_getR lf_X11_125 tk_1_1 (by decide +kernel) (fun x23 => ?_)
      refine sX_getI lf_X11_129 tk_9_3 (by decide +kernel) (fun x24 => ?_)
      exact sX_some (fun h _ => sW_iret (by decide +kernel) rfl (hr _ h).1.symm (hr _ h).2.symm)
    · refine sX_if (fun hx => ?_) (fun n2 => ?_)
      · refine sX_tin (n := (2 : Int32)) (t := 79) (off := 78) (dflt := 159) (lo := 0) (hi := 10) (offs := #[59, 67, 78, 89, 100, 111, 122, 130, 141, 149, 154]) (len := 59) (by decide +kernel) hx (by decide) (by decide) (by decide) (by decide) ?_
        refine sX_aload_n (i := 0) (by decide +kernel) rfl ?_
        refine sX_getR lf_X11_28 tk_11_2 (by decide +kernel) (fun x19 => ?_)
        refine sX_getR lf_X11_134 tk_1_2 (by decide +kernel) (fun x20 => ?_)
        refine sX_getI lf_X11_129 tk_9_3 (by decide +kernel) (fun x21 => ?_)
        exact sX_some (fun h _ => sW_iret (by decide +kernel) rfl (hr _ h).1.symm (hr _ h).2.symm)
      · refine sX_if (fun hx => ?_) (fun n3 => ?_)
        · refine sX_tin (n := (3 : Int32)) (t := 90) (off := 89) (dflt := 159) (lo := 0) (hi := 10) (offs := #[59, 67, 78, 89, 100, 111, 122, 130, 141, 149, 154]) (len := 59) (by decide +kernel) hx (by decide) (by decide) (by decide) (by decide) ?_
          refine sX_aload_n (i := 0) (by decide +kernel) rfl ?_
          refine sX_getR lf_X11_28 tk_11_2 (by decide +kernel) (fun x16 => ?_)
          refine sX_getR lf_X11_137 tk_1_3 (by decide +kernel) (fun x17 => ?_)
          refine sX_getI lf_X11_129 tk_9_3 (by decide +kernel) (fun x18 => ?_)
          exact sX_some (fun h _ => sW_iret (by decide +kernel) rfl (hr _ h).1.symm (hr _ h).2.symm)
        · refine sX_if (fun hx => ?_) (fun n4 => ?_)
          · refine sX_tin (n := (4 : Int32)) (t := 101) (off := 100) (dflt := 159) (lo := 0) (hi := 10) (offs := #[59, 67, 78, 89, 100, 111, 122, 130, 141, 149, 154]) (len := 59) (by decide +kernel) hx (by decide) (by decide) (by decide) (by decide) ?_
            refine sX_aload_n (i := 0) (by decide +kernel) rfl ?_
            refine sX_getR lf_X11_28 tk_11_2 (by decide +kernel) (fun x13 => ?_)
            refine sX_getR lf_X11_140 tk_1_4 (by decide +kernel) (fun x14 => ?_)
            refine sX_getI lf_X11_129 tk_9_3 (by decide +kernel) (fun x15 => ?_)
            exact sX_some (fun h _ => sW_iret (by decide +kernel) rfl (hr _ h).1.symm (hr _ h).2.symm)
          · refine sX_if (fun hx => ?_) (fun n5 => ?_)
            · refine sX_tin (n := (5 : Int32)) (t := 112) (off := 111) (dflt := 159) (lo := 0) (hi := 10) (offs := #[59, 67, 78, 89, 100, 111, 122, 130, 141, 149, 154]) (len := 59) (by decide +kernel) hx (by decide) (by decide) (by decide) (by decide) ?_
              refine sX_aload_n (i := 0) (by decide +kernel) rfl ?_
              refine sX_getR lf_X11_28 tk_11_2 (by decide +kernel) (fun x10 => ?_)
              refine sX_getR lf_X11_143 tk_1_5 (by decide +kernel) (fun x11 => ?_)
              refine sX_getI lf_X11_129 tk_9_3 (by decide +kernel) (fun x12 => ?_)
              exact sX_some (fun h _ => sW_iret (by decide +kernel) rfl (hr _ h).1.symm (hr _ h).2.symm)
            · refine sX_if (fun hx => ?_) (fun n6 => ?_)
              · refine sX_tin (n := (6 : Int32)) (t := 123) (off := 122) (dflt := 159) (lo := 0) (hi := 10) (offs := #[59, 67, 78, 89, 100, 111, 122, 130, 141, 149, 154]) (len := 59) (by decide +kernel) hx (by decide) (by decide) (by decide) (by decide) ?_
                refine sX_aload_n (i := 0) (by decide +kernel) rfl ?_
                refine sX_getR lf_X11_38 tk_11_4 (by decide +kernel) (fun x8 => ?_)
                refine sX_getI lf_X11_146 tk_8_0 (by decide +kernel) (fun x9 => ?_)
                exact sX_some (fun h _ => sW_iret (by decide +kernel) rfl (hr _ h).1.symm (hr _ h).2.symm)
              · refine sX_if (fun hx => ?_) (fun n7 => ?_)
                · refine sX_tin (n := (7 : Int32)) (t := 131) (off := 130) (dflt := 159) (lo := 0) (hi := 10) (offs := #[59, 67, 78, 89, 100, 111, 122, 130, 141, 149, 154]) (len := 59) (by decide +kernel) hx (by decide) (by decide) (by decide) (by decide) ?_
                  refine sX_aload_n (i := 0) (by decide +kernel) rfl ?_
                  refine sX_getR lf_X11_38 tk_11_4 (by decide +kernel) (fun x5 => ?_)
                  refine sX_getI lf_X11_149 tk_8_1 (by decide +kernel) (fun x6 => ?_)
                  refine sX_callSp (As := [.int x6]) (by decide +kernel) lm_X11_152 mf_J6_bitCount_0f7a4 ms_J6_bitCount_0f7a4 (m_J6_bitCount_0f7a4 G l x6 M0) (by decide) rfl rfl (Nat.le_of_ble_eq_true rfl) (fun x7 => ?_)
                  exact sX_some (fun h _ => sW_iret (by decide +kernel) rfl (hr _ h).1.symm (hr _ h).2.symm)
                · refine sX_if (fun hx => ?_) (fun n8 => ?_)
                  · refine sX_tin (n := (8 : Int32)) (t := 142) (off := 141) (dflt := 159) (lo := 0) (hi := 10) (offs := #[59, 67, 78, 89, 100, 111, 122, 130, 141, 149, 154]) (len := 59) (by decide +kernel) hx (by decide) (by decide) (by decide) (by decide) ?_
                    refine sX_aload_n (i := 0) (by decide +kernel) rfl ?_
                    refine sX_getR lf_X11_38 tk_11_4 (by decide +kernel) (fun x3 => ?_)
                    refine sX_getI lf_X11_157 tk_8_7 (by decide +kernel) (fun x4 => ?_)
                    exact sX_some (fun h _ => sW_iret (by decide +kernel) rfl (hr _ h).1.symm (hr _ h).2.symm)
                  · refine sX_if (fun hx => ?_) (fun n9 => ?_)
                    · refine sX_tin (n := (9 : Int32)) (t := 150) (off := 149) (dflt := 159) (lo := 0) (hi := 10) (offs := #[59, 67, 78, 89, 100, 111, 122, 130, 141, 149, 154]) (len := 59) (by decide +kernel) hx (by decide) (by decide) (by decide) (by decide) ?_
                      refine sX_aload_n (i := 0) (by decide +kernel) rfl ?_
                      refine sX_getI lf_X11_113 tk_11_13 (by decide +kernel) (fun x2 => ?_)
                      exact sX_some (fun h _ => sW_iret (by decide +kernel) rfl (hr _ h).1.symm (hr _ h).2.symm)
                    · refine sX_if (fun hx => ?_) (fun n10 => ?_)
                      · refine sX_tin (n := (10 : Int32)) (t := 155) (off := 154) (dflt := 159) (lo := 0) (hi := 10) (offs := #[59, 67, 78, 89, 100, 111, 122, 130, 141, 149, 154]) (len := 59) (by decide +kernel) hx (by decide) (by decide) (by decide) (by decide) ?_
                        exact sX.le (xB155 v0) (sLe_s (sLe_n sLe_e))
                      · refine sX_tout (t := 160) (dflt := 159) (lo := 0) (hi := 10) (offs := #[59, 67, 78, 89, 100, 111, 122, 130, 141, 149, 154]) (len := 59) (by decide +kernel) (by have e0 := sNe n0 (z := 0) (by decide); have e1 := sNe n1 (z := 1) (by decide); have e2 := sNe n2 (z := 2) (by decide); have e3 := sNe n3 (z := 3) (by decide); have e4 := sNe n4 (z := 4) (by decide); have e5 := sNe n5 (z := 5) (by decide); have e6 := sNe n6 (z := 6) (by decide); have e7 := sNe n7 (z := 7) (by decide); have e8 := sNe n8 (z := 8) (by decide); have e9 := sNe n9 (z := 9) (by decide); have e10 := sNe n10 (z := 10) (by decide); omega) (by decide) ?_
                        refine sX_iconst (n := -1) (v := (-1 : Int32)) (by decide +kernel) (by decide) ?_
                        exact sX_some (fun h _ => sW_iret (by decide +kernel) rfl (hr _ h).1.symm (hr _ h).2.symm)
def f_X11_letter (v0 : Nat) (v1 : Int32) (v2 : Int32) (v3 : Int32) (M0 : sMem) : Option Int32 :=
  sRc 11 20 M0 v0 (
    if v1 = (0 : Int32) then
      (gR 11 20 2 M0 v0).bind fun x10 =>
      (gR 1 10 1 M0 x10).bind fun x11 =>
      (f_X9_letterOf x11 v2 v3 M0).bind fun x12 =>
      some x12
    else
    if v1 = (1 : Int32) then
      (gR 11 20 2 M0 v0).bind fun x7 =>
      (gR 1 10 2 M0 x7).bind fun x8 =>
      (f_X9_letterOf x8 v2 v3 M0).bind fun x9 =>
      some x9
    else
    if v1 = (2 : Int32) then
      (gR 11 20 2 M0 v0).bind fun x4 =>
      (gR 1 10 4 M0 x4).bind fun x5 =>
      (f_X9_letterOf x5 v2 v3 M0).bind fun x6 =>
      some x6
    else
    if v1 = (3 : Int32) then
      (gR 11 20 2 M0 v0).bind fun x1 =>
      (gR 1 10 5 M0 x1).bind fun x2 =>
      (f_X9_letterOf x2 v2 v3 M0).bind fun x3 =>
      some x3
    else
    some ((-1 : Int32)))
set_option maxRecDepth 100000 in
set_option maxHeartbeats 4000000 in
theorem m_X11_letter (G : sG) (l : Launch) (v0 : Nat) (v1 : Int32) (v2 : Int32) (v3 : Int32) (M0 : sMem) : sCp G l 3 yX11_letter cX11_letter 4 (some .int) [.ref v0, .int v1, .int v2, .int v3] M0 rvI (f_X11_letter v0 v1 v2 v3 M0) := by
  refine sC_p (ls := [some (.ref v0), some (.int v1), some (.int v2), some (.int v3)]) (by decide +kernel) rfl (Nat.le_of_ble_eq_true rfl) (fun r M' K hr => ?_)
  unfold f_X11_letter
  refine sX_rc ?_
  refine sX_iload_n (i := 1) (by decide +kernel) rfl ?_
  refine sX_if (fun hx => ?_) (fun n0 => ?_)
  · refine sX_tin (n := (0 : Int32)) (t := 32) (off := 31) (dflt := 83) (lo := 0) (hi := 3) (offs := #[31, 44, 57, 70]) (len := 31) (by decide +kernel) hx (by decide) (by decide) (by decide) (by decide) ?_
    refine sX_aload_n (i := 0) (by decide +kernel) rfl ?_
    refine sX_getR lf_X11_28 tk_11_2 (by decide +kernel) (fun x10 => ?_)
    refine sX_getR lf_X11_125 tk_1_1 (by decide +kernel) (fun x11 => ?_)
    refine sX_iload_n (i := 2) (by decide +kernel) rfl ?_
    refine sX_iload_n (i := 3) (by decide +kernel) rfl ?_
    refine sX_callVp (As := [.int v2, .int v3]) (by decide +kernel) lm_X11_160 mf_X9_letterOf mi_X9_letterOf mc_9 (m_X9_letterOf G l x11 v2 v3 M0) (fun _ h => sRc_some h) (by decide) rfl rfl (Nat.le_of_ble_eq_true rfl) (fun x12 => ?_)
    exact sX_some (fun h _ => sW_iret (by decide +kernel) rfl (hr _ h).1.symm (hr _ h).2.symm)
  · refine sX_if (fun hx => ?_) (fun n1 => ?_)
    · refine sX_tin (n := (1 : Int32)) (t := 45) (off := 44) (dflt := 83) (lo := 0) (hi := 3) (offs := #[31, 44, 57, 70]) (len := 31) (by decide +kernel) hx (by decide) (by decide) (by decide) (by decide) ?_
      refine sX_aload_n (i := 0) (by decide +kernel) rfl ?_
      refine sX_getR lf_X11_28 tk_11_2 (by decide +kernel) (fun x7 => ?_)
      refine sX_getR lf_X11_134 tk_1_2 (by decide +kernel) (fun x8 => ?_)
      refine sX_iload_n (i := 2) (by decide +kernel) rfl ?_
      refine sX_iload_n (i := 3) (by decide +kernel) rfl ?_
      refine sX_callVp (As := [.int v2, .int v3]) (by decide +kernel) lm_X11_160 mf_X9_letterOf mi_X9_letterOf mc_9 (m_X9_letterOf G l x8 v2 v3 M0) (fun _ h => sRc_some h) (by decide) rfl rfl (Nat.le_of_ble_eq_true rfl) (fun x9 => ?_)
      exact sX_some (fun h _ => sW_iret (by decide +kernel) rfl (hr _ h).1.symm (hr _ h).2.symm)
    · refine sX_if (fun hx => ?_) (fun n2 => ?_)
      · refine sX_tin (n := (2 : Int32)) (t := 58) (off := 57) (dflt := 83) (lo := 0) (hi := 3) (offs := #[31, 44, 57, 70]) (len := 31) (by decide +kernel) hx (by decide) (by decide) (by decide) (by decide) ?_
        refine sX_aload_n (i := 0) (by decide +kernel) rfl ?_
        refine sX_getR lf_X11_28 tk_11_2 (by decide +kernel) (fun x4 => ?_)
        refine sX_getR lf_X11_140 tk_1_4 (by decide +kernel) (fun x5 => ?_)
        refine sX_iload_n (i := 2) (by decide +kernel) rfl ?_
        refine sX_iload_n (i := 3) (by decide +kernel) rfl ?_
        refine sX_callVp (As := [.int v2, .int v3]) (by decide +kernel) lm_X11_160 mf_X9_letterOf mi_X9_letterOf mc_9 (m_X9_letterOf G l x5 v2 v3 M0) (fun _ h => sRc_some h) (by decide) rfl rfl (Nat.le_of_ble_eq_true rfl) (fun x6 => ?_)
        exact sX_some (fun h _ => sW_iret (by decide +kernel) rfl (hr _ h).1.symm (hr _ h).2.symm)
      · refine sX_if (fun hx => ?_) (fun n3 => ?_)
        · refine sX_tin (n := (3 : Int32)) (t := 71) (off := 70) (dflt := 83) (lo := 0) (hi := 3) (offs := #[31, 44, 57, 70]) (len := 31) (by decide +kernel) hx (by decide) (by decide) (by decide) (by decide) ?_
          refine sX_aload_n (i := 0) (by decide +kernel) rfl ?_
          refine sX_getR lf_X11_28 tk_11_2 (by decide +kernel) (fun x1 => ?_)
          refine sX_getR lf_X11_143 tk_1_5 (by decide +kernel) (fun x2 => ?_)
          refine sX_iload_n (i := 2) (by decide +kernel) rfl ?_
          refine sX_iload_n (i := 3) (by decide +kernel) rfl ?_
          refine sX_callVp (As := [.int v2, .int v3]) (by decide +kernel) lm_X11_160 mf_X9_letterOf mi_X9_letterOf mc_9 (m_X9_letterOf G l x2 v2 v3 M0) (fun _ h => sRc_some h) (by decide) rfl rfl (Nat.le_of_ble_eq_true rfl) (fun x3 => ?_)
          exact sX_some (fun h _ => sW_iret (by decide +kernel) rfl (hr _ h).1.symm (hr _ h).2.symm)
        · refine sX_tout (t := 84) (dflt := 83) (lo := 0) (hi := 3) (offs := #[31, 44, 57, 70]) (len := 31) (by decide +kernel) (by have e0 := sNe n0 (z := 0) (by decide); have e1 := sNe n1 (z := 1) (by decide); have e2 := sNe n2 (z := 2) (by decide); have e3 := sNe n3 (z := 3) (by decide); omega) (by decide) ?_
          refine sX_iconst (n := -1) (v := (-1 : Int32)) (by decide +kernel) (by decide) ?_
          exact sX_some (fun h _ => sW_iret (by decide +kernel) rfl (hr _ h).1.symm (hr _ h).2.symm)
def f_X11_gate (v0 : Nat) (v1 : Int32) (v2 : Int32) (M0 : sMem) : Option Int32 :=
  sRc 11 20 M0 v0 (
    (gR 11 20 2 M0 v0).bind fun x1 =>
    (gR 1 10 1 M0 x1).bind fun x2 =>
    (f_X9_isThere x2 v1 M0).bind fun x3 =>
    if x3 = 0 then
      some ((-1 : Int32))
    else
      if v2 = (0 : Int32) then
        (gR 11 20 2 M0 v0).bind fun x6 =>
        (gR 1 10 1 M0 x6).bind fun x7 =>
        (f_X9_cell x7 v1 ((0 : Int32)) M0).bind fun x8 =>
        some x8
      else
      if v2 = (1 : Int32) then
        (gR 11 20 4 M0 v0).bind fun x4 =>
        (f_X8_isUp x4 v1 M0).bind fun x5 =>
        if x5 = 0 then
          some ((0 : Int32))
        else
          some ((1 : Int32))
      else
      some ((-1 : Int32)))
set_option maxRecDepth 100000 in
set_option maxHeartbeats 4000000 in
theorem m_X11_gate (G : sG) (l : Launch) (v0 : Nat) (v1 : Int32) (v2 : Int32) (M0 : sMem) : sCp G l 2 yX11_gate cX11_gate 3 (some .int) [.ref v0, .int v1, .int v2] M0 rvI (f_X11_gate v0 v1 v2 M0) := by
  refine sC_p (ls := [some (.ref v0), some (.int v1), some (.int v2)]) (by decide +kernel) rfl (Nat.le_of_ble_eq_true rfl) (fun r M' K hr => ?_)
  unfold f_X11_gate
  refine sX_rc ?_
  refine sX_aload_n (i := 0) (by decide +kernel) rfl ?_
  refine sX_getR lf_X11_28 tk_11_2 (by decide +kernel) (fun x1 => ?_)
  refine sX_getR lf_X11_125 tk_1_1 (by decide +kernel) (fun x2 => ?_)
  refine sX_iload_n (i := 1) (by decide +kernel) rfl ?_
  refine sX_callVp (As := [.int v1]) (by decide +kernel) lm_X11_164 mf_X9_isThere mi_X9_isThere mc_9 (m_X9_isThere G l x2 v1 M0) (fun _ h => sRc_some h) (by decide) rfl rfl (Nat.le_of_ble_eq_true rfl) (fun x3 => ?_)
  refine sX_ifne (o := 5) (t := 16) (by decide +kernel) (by decide) (fun _ => ?_) (fun _ => ?_)
  · refine sX_iconst (n := -1) (v := (-1 : Int32)) (by decide +kernel) (by decide) ?_
    exact sX_some (fun h _ => sW_iret (by decide +kernel) rfl (hr _ h).1.symm (hr _ h).2.symm)
  · refine sX_iload_n (i := 2) (by decide +kernel) rfl ?_
    refine sX_if (fun hx => ?_) (fun n0 => ?_)
    · subst hx
      refine sX_look (dflt := 57) (ps := #[(0, 27), (1, 40)]) (len := 27) (t := 44) (off := 27) (by decide +kernel) (by decide +kernel) (by decide +kernel) (by decide) ?_
      refine sX_aload_n (i := 0) (by decide +kernel) rfl ?_
      refine sX_getR lf_X11_28 tk_11_2 (by decide +kernel) (fun x6 => ?_)
      refine sX_getR lf_X11_125 tk_1_1 (by decide +kernel) (fun x7 => ?_)
      refine sX_iload_n (i := 1) (by decide +kernel) rfl ?_
      refine sX_iconst (n := 0) (v := (0 : Int32)) (by decide +kernel) (by decide) ?_
      refine sX_callVp (As := [.int v1, .int (0 : Int32)]) (by decide +kernel) lm_X11_168 mf_X9_cell mi_X9_cell mc_9 (m_X9_cell G l x7 v1 ((0 : Int32)) M0) (fun _ h => sRc_some h) (by decide) rfl rfl (Nat.le_of_ble_eq_true rfl) (fun x8 => ?_)
      exact sX_some (fun h _ => sW_iret (by decide +kernel) rfl (hr _ h).1.symm (hr _ h).2.symm)
    · refine sX_if (fun hx => ?_) (fun n1 => ?_)
      · subst hx
        refine sX_look (dflt := 57) (ps := #[(0, 27), (1, 40)]) (len := 27) (t := 57) (off := 40) (by decide +kernel) (by decide +kernel) (by decide +kernel) (by decide) ?_
        refine sX_aload_n (i := 0) (by decide +kernel) rfl ?_
        refine sX_getR lf_X11_38 tk_11_4 (by decide +kernel) (fun x4 => ?_)
        refine sX_iload_n (i := 1) (by decide +kernel) rfl ?_
        refine sX_callVp (As := [.int v1]) (by decide +kernel) lm_X11_171 mf_X8_isUp mi_X8_isUp mc_8 (m_X8_isUp G l x4 v1 M0) (fun _ h => sRc_some h) (by decide) rfl rfl (Nat.le_of_ble_eq_true rfl) (fun x5 => ?_)
        refine sX_ifeq (o := 7) (t := 72) (by decide +kernel) (by decide) (fun _ => ?_) (fun _ => ?_)
        · refine sX_iconst (n := 0) (v := (0 : Int32)) (by decide +kernel) (by decide) ?_
          exact sX_some (fun h _ => sW_iret (by decide +kernel) rfl (hr _ h).1.symm (hr _ h).2.symm)
        · refine sX_iconst (n := 1) (v := (1 : Int32)) (by decide +kernel) (by decide) ?_
          refine sX_goto (o := 4) (t := 73) (by decide +kernel) (by decide) ?_
          exact sX_some (fun h _ => sW_iret (by decide +kernel) rfl (hr _ h).1.symm (hr _ h).2.symm)
      · refine sX_look (dflt := 57) (ps := #[(0, 27), (1, 40)]) (len := 27) (t := 74) (off := 57) (by decide +kernel) (by decide +kernel) (by show Op.lookupswitch.offset [(0, 27), (1, 40)] 57 _ = _; rw [lv_osw n0 (by decide), lv_osw n1 (by decide)]; rfl) (by decide) ?_
        refine sX_iconst (n := -1) (v := (-1 : Int32)) (by decide +kernel) (by decide) ?_
        exact sX_some (fun h _ => sW_iret (by decide +kernel) rfl (hr _ h).1.symm (hr _ h).2.symm)
def f_X11_era (v0 : Nat) (v1 : Int32) (v2 : Int32) (M0 : sMem) : Option Int32 :=
  sRc 11 20 M0 v0 (
    (gR 11 20 2 M0 v0).bind fun x1 =>
    (gR 1 10 4 M0 x1).bind fun x2 =>
    (f_X9_isThere x2 v1 M0).bind fun x3 =>
    if x3 = 0 then
      some ((-1 : Int32))
    else
      if v2 = (0 : Int32) then
        (gR 11 20 2 M0 v0).bind fun x13 =>
        (gR 1 10 4 M0 x13).bind fun x14 =>
        (f_X9_cell x14 v1 ((0 : Int32)) M0).bind fun x15 =>
        some x15
      else
      if v2 = (1 : Int32) then
        (gR 11 20 2 M0 v0).bind fun x10 =>
        (gR 1 10 4 M0 x10).bind fun x11 =>
        (f_X9_cell x11 v1 ((1 : Int32)) M0).bind fun x12 =>
        some x12
      else
      if v2 = (2 : Int32) then
        (gR 11 20 2 M0 v0).bind fun x7 =>
        (gR 1 10 4 M0 x7).bind fun x8 =>
        (f_X9_cell x8 v1 ((2 : Int32)) M0).bind fun x9 =>
        some x9
      else
      if v2 = (3 : Int32) then
        (gR 11 20 4 M0 v0).bind fun x4 =>
        (gR 8 8 2 M0 x4).bind fun x5 =>
        (ldI 14 M0 x5 v1).bind fun x6 =>
        some x6
      else
      some ((-1 : Int32)))
set_option maxRecDepth 100000 in
set_option maxHeartbeats 4000000 in
theorem m_X11_era (G : sG) (l : Launch) (v0 : Nat) (v1 : Int32) (v2 : Int32) (M0 : sMem) : sCp G l 2 yX11_era cX11_era 3 (some .int) [.ref v0, .int v1, .int v2] M0 rvI (f_X11_era v0 v1 v2 M0) := by
  refine sC_p (ls := [some (.ref v0), some (.int v1), some (.int v2)]) (by decide +kernel) rfl (Nat.le_of_ble_eq_true rfl) (fun r M' K hr => ?_)
  unfold f_X11_era
  refine sX_rc ?_
  refine sX_aload_n (i := 0) (by decide +kernel) rfl ?_
  refine sX_getR lf_X11_28 tk_11_2 (by decide +kernel) (fun x1 => ?_)
  refine sX_getR lf_X11_140 tk_1_4 (by decide +kernel) (fun x2 => ?_)
  refine sX_iload_n (i := 1) (by decide +kernel) rfl ?_
  refine sX_callVp (As := [.int v1]) (by decide +kernel) lm_X11_164 mf_X9_isThere mi_X9_isThere mc_9 (m_X9_isThere G l x2 v1 M0) (fun _ h => sRc_some h) (by decide) rfl rfl (Nat.le_of_ble_eq_true rfl) (fun x3 => ?_)
  refine sX_ifne (o := 5) (t := 16) (by decide +kernel) (by decide) (fun _ => ?_) (fun _ => ?_)
  · refine sX_iconst (n := -1) (v := (-1 : Int32)) (by decide +kernel) (by decide) ?_
    exact sX_some (fun h _ => sW_iret (by decide +kernel) rfl (hr _ h).1.symm (hr _ h).2.symm)
  · refine sX_iload_n (i := 2) (by decide +kernel) rfl ?_
    refine sX_if (fun hx => ?_) (fun n0 => ?_)
    · refine sX_tin (n := (0 : Int32)) (t := 48) (off := 31) (dflt := 80) (lo := 0) (hi := 3) (offs := #[31, 44, 57, 70]) (len := 31) (by decide +kernel) hx (by decide) (by decide) (by decide) (by decide) ?_
      refine sX_aload_n (i := 0) (by decide +kernel) rfl ?_
      refine sX_getR lf_X11_28 tk_11_2 (by decide +kernel) (fun x13 => ?_)
      refine sX_getR lf_X11_140 tk_1_4 (by decide +kernel) (fun x14 => ?_)
      refine sX_iload_n (i := 1) (by decide +kernel) rfl ?_
      refine sX_iconst (n := 0) (v := (0 : Int32)) (by decide +kernel) (by decide) ?_
      refine sX_callVp (As := [.int v1, .int (0 : Int32)]) (by decide +kernel) lm_X11_168 mf_X9_cell mi_X9_cell mc_9 (m_X9_cell G l x14 v1 ((0 : Int32)) M0) (fun _ h => sRc_some h) (by decide) rfl rfl (Nat.le_of_ble_eq_true rfl) (fun x15 => ?_)
      exact sX_some (fun h _ => sW_iret (by decide +kernel) rfl (hr _ h).1.symm (hr _ h).2.symm)
    · refine sX_if (fun hx => ?_) (fun n1 => ?_)
      · refine sX_tin (n := (1 : Int32)) (t := 61) (off := 44) (dflt := 80) (lo := 0) (hi := 3) (offs := #[31, 44, 57, 70]) (len := 31) (by decide +kernel) hx (by decide) (by decide) (by decide) (by decide) ?_
        refine sX_aload_n (i := 0) (by decide +kernel) rfl ?_
        refine sX_getR lf_X11_28 tk_11_2 (by decide +kernel) (fun x10 => ?_)
        refine sX_getR lf_X11_140 tk_1_4 (by decide +kernel) (fun x11 => ?_)
        refine sX_iload_n (i := 1) (by decide +kernel) rfl ?_
        refine sX_iconst (n := 1) (v := (1 : Int32)) (by decide +kernel) (by decide) ?_
        refine sX_callVp (As := [.int v1, .int (1 : Int32)]) (by decide +kernel) lm_X11_168 mf_X9_cell mi_X9_cell mc_9 (m_X9_cell G l x11 v1 ((1 : Int32)) M0) (fun _ h => sRc_some h) (by decide) rfl rfl (Nat.le_of_ble_eq_true rfl) (fun x12 => ?_)
        exact sX_some (fun h _ => sW_iret (by decide +kernel) rfl (hr _ h).1.symm (hr _ h).2.symm)
      · refine sX_if (fun hx => ?_) (fun n2 => ?_)
        · refine sX_tin (n := (2 : Int32)) (t := 74) (off := 57) (dflt := 80) (lo := 0) (hi := 3) (offs := #[31, 44, 57, 70]) (len := 31) (by decide +kernel) hx (by decide) (by decide) (by decide) (by decide) ?_
          refine sX_aload_n (i := 0) (by decide +kernel) rfl ?_
          refine sX_getR lf_X11_28 tk_11_2 (by decide +kernel) (fun x7 => ?_)
          refine sX_getR lf_X11_140 tk_1_4 (by decide +kernel) (fun x8 => ?_)
          refine sX_iload_n (i := 1) (by decide +kernel) rfl ?_
          refine sX_iconst (n := 2) (v := (2 : Int32)) (by decide +kernel) (by decide) ?_
          refine sX_callVp (As := [.int v1, .int (2 : Int32)]) (by decide +kernel) lm_X11_168 mf_X9_cell mi_X9_cell mc_9 (m_X9_cell G l x8 v1 ((2 : Int32)) M0) (fun _ h => sRc_some h) (by decide) rfl rfl (Nat.le_of_ble_eq_true rfl) (fun x9 => ?_)
          exact sX_some (fun h _ => sW_iret (by decide +kernel) rfl (hr _ h).1.symm (hr _ h).2.symm)
        · refine sX_if (fun hx => ?_) (fun n3 => ?_)
          · refine sX_tin (n := (3 : Int32)) (t := 87) (off := 70) (dflt := 80) (lo := 0) (hi := 3) (offs := #[31, 44, 57, 70]) (len := 31) (by decide +kernel) hx (by decide) (by decide) (by decide) (by decide) ?_
            refine sX_aload_n (i := 0) (by decide +kernel) rfl ?_
            refine sX_getR lf_X11_38 tk_11_4 (by decide +kernel) (fun x4 => ?_)
            refine sX_getR lf_X11_174 tk_8_2 (by decide +kernel) (fun x5 => ?_)
            refine sX_iload_n (i := 1) (by decide +kernel) rfl ?_
            refine sX_iaload (by decide +kernel) (fun x6 => ?_)
            exact sX_some (fun h _ => sW_iret (by decide +kernel) rfl (hr _ h).1.symm (hr _ h).2.symm)
          · refine sX_tout (t := 97) (dflt := 80) (lo := 0) (hi := 3) (offs := #[31, 44, 57, 70]) (len := 31) (by decide +kernel) (by have e0 := sNe n0 (z := 0) (by decide); have e1 := sNe n1 (z := 1) (by decide); have e2 := sNe n2 (z := 2) (by decide); have e3 := sNe n3 (z := 3) (by decide); omega) (by decide) ?_
            refine sX_iconst (n := -1) (v := (-1 : Int32)) (by decide +kernel) (by decide) ?_
            exact sX_some (fun h _ => sW_iret (by decide +kernel) rfl (hr _ h).1.symm (hr _ h).2.symm)
def f_X11_car (v0 : Nat) (v1 : Int32) (v2 : Int32) (M0 : sMem) : Option Int32 :=
  sRc 11 20 M0 v0 (
    (gR 11 20 2 M0 v0).bind fun x1 =>
    (gR 1 10 5 M0 x1).bind fun x2 =>
    (f_X9_isThere x2 v1 M0).bind fun x3 =>
    if x3 = 0 then
      some ((-1 : Int32))
    else
      if v2 = (0 : Int32) then
        (gR 11 20 4 M0 v0).bind fun x13 =>
        (gR 8 8 3 M0 x13).bind fun x14 =>
        (ldI 14 M0 x14 v1).bind fun x15 =>
        some x15
      else
      if v2 = (1 : Int32) then
        (gR 11 20 4 M0 v0).bind fun x10 =>
        (gR 8 8 4 M0 x10).bind fun x11 =>
        (ldI 14 M0 x11 v1).bind fun x12 =>
        some x12
      else
      if v2 = (2 : Int32) then
        (gR 11 20 2 M0 v0).bind fun x7 =>
        (gR 1 10 5 M0 x7).bind fun x8 =>
        (f_X9_cell x8 v1 ((2 : Int32)) M0).bind fun x9 =>
        some x9
      else
      if v2 = (3 : Int32) then
        (gR 11 20 4 M0 v0).bind fun x4 =>
        (gR 8 8 5 M0 x4).bind fun x5 =>
        (ldI 14 M0 x5 v1).bind fun x6 =>
        some x6
      else
      some ((-1 : Int32)))
set_option maxRecDepth 100000 in
set_option maxHeartbeats 4000000 in
theorem m_X11_car (G : sG) (l : Launch) (v0 : Nat) (v1 : Int32) (v2 : Int32) (M0 : sMem) : sCp G l 2 yX11_car cX11_car 3 (some .int) [.ref v0, .int v1, .int v2] M0 rvI (f_X11_car v0 v1 v2 M0) := by
  refine sC_p (ls := [some (.ref v0), some (.int v1), some (.int v2)]) (by decide +kernel) rfl (Nat.le_of_ble_eq_true rfl) (fun r M' K hr => ?_)
  unfold f_X11_car
  refine sX_rc ?_
  refine sX_aload_n (i := 0) (by decide +kernel) rfl ?_
  refine sX_getR lf_X11_28 tk_11_2 (by decide +kernel) (fun x1 => ?_)
  refine sX_getR lf_X11_143 tk_1_5 (by decide +kernel) (fun x2 => ?_)
  refine sX_iload_n (i := 1) (by decide +kernel) rfl ?_
  refine sX_callVp (As := [.int v1]) (by decide +kernel) lm_X11_164 mf_X9_isThere mi_X9_isThere mc_9 (m_X9_isThere G l x2 v1 M0) (fun _ h => sRc_some h) (by decide) rfl rfl (Nat.le_of_ble_eq_true rfl) (fun x3 => ?_)
  refine sX_ifne (o := 5) (t := 16) (by decide +kernel) (by decide) (fun _ => ?_) (fun _ => ?_)
  · refine sX_iconst (n := -1) (v := (-1 : Int32)) (by decide +kernel) (by decide) ?_
    exact sX_some (fun h _ => sW_iret (by decide +kernel) rfl (hr _ h).1.symm (hr _ h).2.symm)
  · refine sX_iload_n (i := 2) (by decide +kernel) rfl ?_
    refine sX_if (fun hx => ?_) (fun n0 => ?_)
    · refine sX_tin (n := (0 : Int32)) (t := 48) (off := 31) (dflt := 74) (lo := 0) (hi := 3) (offs := #[31, 41, 51, 64]) (len := 31) (by decide +kernel) hx (by decide) (by decide) (by decide) (by decide) ?_
      refine sX_aload_n (i := 0) (by decide +kernel) rfl ?_
      refine sX_getR lf_X11_38 tk_11_4 (by decide +kernel) (fun x13 => ?_)
      refine sX_getR lf_X11_177 tk_8_3 (by decide +kernel) (fun x14 => ?_)
      refine sX_iload_n (i := 1) (by decide +kernel) rfl ?_
      refine sX_iaload (by decide +kernel) (fun x15 => ?_)
      exact sX_some (fun h _ => sW_iret (by decide +kernel) rfl (hr _ h).1.symm (hr _ h).2.symm)
    · refine sX_if (fun hx => ?_) (fun n1 => ?_)
      · refine sX_tin (n := (1 : Int32)) (t := 58) (off := 41) (dflt := 74) (lo := 0) (hi := 3) (offs := #[31, 41, 51, 64]) (len := 31) (by decide +kernel) hx (by decide) (by decide) (by decide) (by decide) ?_
        refine sX_aload_n (i := 0) (by decide +kernel) rfl ?_
        refine sX_getR lf_X11_38 tk_11_4 (by decide +kernel) (fun x10 => ?_)
        refine sX_getR lf_X11_180 tk_8_4 (by decide +kernel) (fun x11 => ?_)
        refine sX_iload_n (i := 1) (by decide +kernel) rfl ?_
        refine sX_iaload (by decide +kernel) (fun x12 => ?_)
        exact sX_some (fun h _ => sW_iret (by decide +kernel) rfl (hr _ h).1.symm (hr _ h).2.symm)
      · refine sX_if (fun hx => ?_) (fun n2 => ?_)
        · refine sX_tin (n := (2 : Int32)) (t := 68) (off := 51) (dflt := 74) (lo := 0) (hi := 3) (offs := #[31, 41, 51, 64]) (len := 31) (by decide +kernel) hx (by decide) (by decide) (by decide) (by decide) ?_
          refine sX_aload_n (i := 0) (by decide +kernel) rfl ?_
          refine sX_getR lf_X11_28 tk_11_2 (by decide +kernel) (fun x7 => ?_)
          refine sX_getR lf_X11_143 tk_1_5 (by decide +kernel) (fun x8 => ?_)
          refine sX_iload_n (i := 1) (by decide +kernel) rfl ?_
          refine sX_iconst (n := 2) (v := (2 : Int32)) (by decide +kernel) (by decide) ?_
          refine sX_callVp (As := [.int v1, .int (2 : Int32)]) (by decide +kernel) lm_X11_168 mf_X9_cell mi_X9_cell mc_9 (m_X9_cell G l x8 v1 ((2 : Int32)) M0) (fun _ h => sRc_some h) (by decide) rfl rfl (Nat.le_of_ble_eq_true rfl) (fun x9 => ?_)
          exact sX_some (fun h _ => sW_iret (by decide +kernel) rfl (hr _ h).1.symm (hr _ h).2.symm)
        · refine sX_if (fun hx => ?_) (fun n3 => ?_)
          · refine sX_tin (n := (3 : Int32)) (t := 81) (off := 64) (dflt := 74) (lo := 0) (hi := 3) (offs := #[31, 41, 51, 64]) (len := 31) (by decide +kernel) hx (by decide) (by decide) (by decide) (by decide) ?_
            refine sX_aload_n (i := 0) (by decide +kernel) rfl ?_
            refine sX_getR lf_X11_38 tk_11_4 (by decide +kernel) (fun x4 => ?_)
            refine sX_getR lf_X11_183 tk_8_5 (by decide +kernel) (fun x5 => ?_)
            refine sX_iload_n (i := 1) (by decide +kernel) rfl ?_
            refine sX_iaload (by decide +kernel) (fun x6 => ?_)
            exact sX_some (fun h _ => sW_iret (by decide +kernel) rfl (hr _ h).1.symm (hr _ h).2.symm)
          · refine sX_tout (t := 91) (dflt := 74) (lo := 0) (hi := 3) (offs := #[31, 41, 51, 64]) (len := 31) (by decide +kernel) (by have e0 := sNe n0 (z := 0) (by decide); have e1 := sNe n1 (z := 1) (by decide); have e2 := sNe n2 (z := 2) (by decide); have e3 := sNe n3 (z := 3) (by decide); omega) (by decide) ?_
            refine sX_iconst (n := -1) (v := (-1 : Int32)) (by decide +kernel) (by decide) ?_
            exact sX_some (fun h _ => sW_iret (by decide +kernel) rfl (hr _ h).1.symm (hr _ h).2.symm)
def f_X11_kept (v0 : Nat) (v1 : Int32) (v2 : Int32) (M0 : sMem) : Option Int32 :=
  sRc 11 20 M0 v0 (
    if v1 < 0 then
      some ((-1 : Int32))
    else
      (gR 11 20 4 M0 v0).bind fun x1 =>
      (gI 8 8 7 M0 x1).bind fun x2 =>
      if x2 ≤ v1 then
        some ((-1 : Int32))
      else
        if v2 < 0 then
          some ((-1 : Int32))
        else
          if v2 < (3 : Int32) then
            (gR 11 20 4 M0 v0).bind fun x3 =>
            (gR 8 8 6 M0 x3).bind fun x4 =>
            (ldI 14 M0 x4 (((v1 * (3 : Int32)) + v2))).bind fun x5 =>
            some x5
          else
            some ((-1 : Int32)))
set_option maxRecDepth 100000 in
set_option maxHeartbeats 4000000 in
theorem m_X11_kept (G : sG) (l : Launch) (v0 : Nat) (v1 : Int32) (v2 : Int32) (M0 : sMem) : sCp G l 1 yX11_kept cX11_kept 3 (some .int) [.ref v0, .int v1, .int v2] M0 rvI (f_X11_kept v0 v1 v2 M0) := by
  refine sC_p (ls := [some (.ref v0), some (.int v1), some (.int v2)]) (by decide +kernel) rfl (Nat.le_of_ble_eq_true rfl) (fun r M' K hr => ?_)
  unfold f_X11_kept
  refine sX_rc ?_
  refine sX_iload_n (i := 1) (by decide +kernel) rfl ?_
  refine sX_iflt (o := 23) (t := 24) (by decide +kernel) (by decide) (fun _ => ?_) (fun _ => ?_)
  · refine sX_iconst (n := -1) (v := (-1 : Int32)) (by decide +kernel) (by decide) ?_
    exact sX_some (fun h _ => sW_iret (by decide +kernel) rfl (hr _ h).1.symm (hr _ h).2.symm)
  · refine sX_iload_n (i := 1) (by decide +kernel) rfl ?_
    refine sX_aload_n (i := 0) (by decide +kernel) rfl ?_
    refine sX_getR lf_X11_38 tk_11_4 (by decide +kernel) (fun x1 => ?_)
    refine sX_getI lf_X11_157 tk_8_7 (by decide +kernel) (fun x2 => ?_)
    refine sX_icge (o := 12) (t := 24) (by decide +kernel) (by decide) (fun _ => ?_) (fun _ => ?_)
    · refine sX_iconst (n := -1) (v := (-1 : Int32)) (by decide +kernel) (by decide) ?_
      exact sX_some (fun h _ => sW_iret (by decide +kernel) rfl (hr _ h).1.symm (hr _ h).2.symm)
    · refine sX_iload_n (i := 2) (by decide +kernel) rfl ?_
      refine sX_iflt (o := 8) (t := 24) (by decide +kernel) (by decide) (fun _ => ?_) (fun _ => ?_)
      · refine sX_iconst (n := -1) (v := (-1 : Int32)) (by decide +kernel) (by decide) ?_
        exact sX_some (fun h _ => sW_iret (by decide +kernel) rfl (hr _ h).1.symm (hr _ h).2.symm)
      · refine sX_iload_n (i := 2) (by decide +kernel) rfl ?_
        refine sX_iconst (n := 3) (v := (3 : Int32)) (by decide +kernel) (by decide) ?_
        refine sX_iclt (o := 5) (t := 26) (by decide +kernel) (by decide) (fun _ => ?_) (fun _ => ?_)
        · refine sX_aload_n (i := 0) (by decide +kernel) rfl ?_
          refine sX_getR lf_X11_38 tk_11_4 (by decide +kernel) (fun x3 => ?_)
          refine sX_getR lf_X11_186 tk_8_6 (by decide +kernel) (fun x4 => ?_)
          refine sX_iload_n (i := 1) (by decide +kernel) rfl ?_
          refine sX_iconst (n := 3) (v := (3 : Int32)) (by decide +kernel) (by decide) ?_
          refine sX_imul (by decide +kernel) ?_
          refine sX_iload_n (i := 2) (by decide +kernel) rfl ?_
          refine sX_iadd (by decide +kernel) ?_
          refine sX_iaload (by decide +kernel) (fun x5 => ?_)
          exact sX_some (fun h _ => sW_iret (by decide +kernel) rfl (hr _ h).1.symm (hr _ h).2.symm)
        · refine sX_iconst (n := -1) (v := (-1 : Int32)) (by decide +kernel) (by decide) ?_
          exact sX_some (fun h _ => sW_iret (by decide +kernel) rfl (hr _ h).1.symm (hr _ h).2.symm)
def f_X11_isMinute (v0 : Int32) (M0 : sMem) : Option Int32 :=
  if v0 < 0 then
    some ((0 : Int32))
  else
    if (200 : Int32) ≤ v0 then
      some ((0 : Int32))
    else
      some ((1 : Int32))
set_option maxRecDepth 100000 in
set_option maxHeartbeats 4000000 in
theorem m_X11_isMinute (G : sG) (l : Launch) (v0 : Int32) (M0 : sMem) : sCp G l 1 yX11_isMinute cX11_isMinute 1 (some .boolean) [.int v0] M0 rvI (f_X11_isMinute v0 M0) := by
  refine sC_p (ls := [some (.int v0)]) (by decide +kernel) rfl (Nat.le_of_ble_eq_true rfl) (fun r M' K hr => ?_)
  unfold f_X11_isMinute
  refine sX_iload_n (i := 0) (by decide +kernel) rfl ?_
  refine sX_iflt (o := 14) (t := 15) (by decide +kernel) (by decide) (fun _ => ?_) (fun _ => ?_)
  · refine sX_iconst (n := 0) (v := (0 : Int32)) (by decide +kernel) (by decide) ?_
    exact sX_some (fun h _ => sW_zret (by decide +kernel) rfl (by decide) (hr _ h).1.symm (hr _ h).2.symm)
  · refine sX_iload_n (i := 0) (by decide +kernel) rfl ?_
    refine sX_sipush (n := 200) (v := (200 : Int32)) (by decide +kernel) (by decide) ?_
    refine sX_icge (o := 7) (t := 15) (by decide +kernel) (by decide) (fun _ => ?_) (fun _ => ?_)
    · refine sX_iconst (n := 0) (v := (0 : Int32)) (by decide +kernel) (by decide) ?_
      exact sX_some (fun h _ => sW_zret (by decide +kernel) rfl (by decide) (hr _ h).1.symm (hr _ h).2.symm)
    · refine sX_iconst (n := 1) (v := (1 : Int32)) (by decide +kernel) (by decide) ?_
      refine sX_goto (o := 4) (t := 16) (by decide +kernel) (by decide) ?_
      exact sX_some (fun h _ => sW_zret (by decide +kernel) rfl (by decide) (hr _ h).1.symm (hr _ h).2.symm)
def f_X11_head (v0 : Nat) (v1 : Int32) (v2 : Int32) (M0 : sMem) : Option Int32 :=
  sRc 11 20 M0 v0 (
    (gR 11 20 2 M0 v0).bind fun x1 =>
    (gR 1 10 4 M0 x1).bind fun x2 =>
    (f_X9_isThere x2 v1 M0).bind fun x3 =>
    if x3 = 0 then
      some ((-1 : Int32))
    else
      (f_X11_isMinute v2 M0).bind fun x4 =>
      if x4 = 0 then
        some ((-1 : Int32))
      else
        (gR 11 20 9 M0 v0).bind fun x5 =>
        (gR 0 7 1 M0 x5).bind fun x6 =>
        (gR 11 20 4 M0 v0).bind fun x7 =>
        (gR 8 8 2 M0 x7).bind fun x8 =>
        (ldI 14 M0 x8 v1).bind fun x9 =>
        (f_X4_headOf x6 v1 x9 v2 M0).bind fun x10 =>
        some x10)
set_option maxRecDepth 100000 in
set_option maxHeartbeats 4000000 in
theorem m_X11_head (G : sG) (l : Launch) (v0 : Nat) (v1 : Int32) (v2 : Int32) (M0 : sMem) : sCp G l 3 yX11_head cX11_head 3 (some .int) [.ref v0, .int v1, .int v2] M0 rvI (f_X11_head v0 v1 v2 M0) := by
  refine sC_p (ls := [some (.ref v0), some (.int v1), some (.int v2)]) (by decide +kernel) rfl (Nat.le_of_ble_eq_true rfl) (fun r M' K hr => ?_)
  unfold f_X11_head
  refine sX_rc ?_
  refine sX_aload_n (i := 0) (by decide +kernel) rfl ?_
  refine sX_getR lf_X11_28 tk_11_2 (by decide +kernel) (fun x1 => ?_)
  refine sX_getR lf_X11_140 tk_1_4 (by decide +kernel) (fun x2 => ?_)
  refine sX_iload_n (i := 1) (by decide +kernel) rfl ?_
  refine sX_callVp (As := [.int v1]) (by decide +kernel) lm_X11_164 mf_X9_isThere mi_X9_isThere mc_9 (m_X9_isThere G l x2 v1 M0) (fun _ h => sRc_some h) (by decide) rfl rfl (Nat.le_of_ble_eq_true rfl) (fun x3 => ?_)
  refine sX_ifeq (o := 10) (t := 21) (by decide +kernel) (by decide) (fun _ => ?_) (fun _ => ?_)
  · refine sX_iconst (n := -1) (v := (-1 : Int32)) (by decide +kernel) (by decide) ?_
    exact sX_some (fun h _ => sW_iret (by decide +kernel) rfl (hr _ h).1.symm (hr _ h).2.symm)
  · refine sX_iload_n (i := 2) (by decide +kernel) rfl ?_
    refine sX_callSp (As := [.int v2]) (by decide +kernel) lm_X11_189 mf_X11_isMinute ms_X11_isMinute (m_X11_isMinute G l v2 M0) (by decide) rfl rfl (Nat.le_of_ble_eq_true rfl) (fun x4 => ?_)
    refine sX_ifne (o := 5) (t := 23) (by decide +kernel) (by decide) (fun _ => ?_) (fun _ => ?_)
    · refine sX_iconst (n := -1) (v := (-1 : Int32)) (by decide +kernel) (by decide) ?_
      exact sX_some (fun h _ => sW_iret (by decide +kernel) rfl (hr _ h).1.symm (hr _ h).2.symm)
    · refine sX_aload_n (i := 0) (by decide +kernel) rfl ?_
      refine sX_getR lf_X11_54 tk_11_9 (by decide +kernel) (fun x5 => ?_)
      refine sX_getR lf_X11_192 tk_0_1 (by decide +kernel) (fun x6 => ?_)
      refine sX_iload_n (i := 1) (by decide +kernel) rfl ?_
      refine sX_aload_n (i := 0) (by decide +kernel) rfl ?_
      refine sX_getR lf_X11_38 tk_11_4 (by decide +kernel) (fun x7 => ?_)
      refine sX_getR lf_X11_174 tk_8_2 (by decide +kernel) (fun x8 => ?_)
      refine sX_iload_n (i := 1) (by decide +kernel) rfl ?_
      refine sX_iaload (by decide +kernel) (fun x9 => ?_)
      refine sX_iload_n (i := 2) (by decide +kernel) rfl ?_
      refine sX_callVp (As := [.int v1, .int x9, .int v2]) (by decide +kernel) lm_X11_196 mf_X4_headOf mi_X4_headOf mc_4 (m_X4_headOf G l x6 v1 x9 v2 M0) (fun _ h => sRc_some h) (by decide) rfl rfl (Nat.le_of_ble_eq_true rfl) (fun x10 => ?_)
      exact sX_some (fun h _ => sW_iret (by decide +kernel) rfl (hr _ h).1.symm (hr _ h).2.symm)
def f_X11_closeNow (v0 : Nat) (M0 : sMem) : Option sMem :=
  sRc 11 20 M0 v0 (
    (gR 11 20 9 M0 v0).bind fun x1 =>
    (gR 0 7 1 M0 x1).bind fun x2 =>
    (gR 11 20 4 M0 v0).bind fun x3 =>
    (gR 11 20 4 M0 v0).bind fun x4 =>
    (gI 8 8 1 M0 x4).bind fun x5 =>
    (gR 11 20 11 M0 v0).bind fun x6 =>
    (f_X4_close x2 x3 x5 ((-1 : Int32)) x6 M0).bind fun M7 =>
    some M7)
set_option maxRecDepth 100000 in
set_option maxHeartbeats 4000000 in
theorem m_X11_closeNow (G : sG) (l : Launch) (v0 : Nat) (M0 : sMem) : sCv G l 6 yX11_closeNow cX11_closeNow 1 none [.ref v0] M0 (f_X11_closeNow v0 M0) := by
  refine sC_v (ls := [some (.ref v0)]) (by decide +kernel) rfl (Nat.le_of_ble_eq_true rfl) (fun r M' K hr => ?_)
  unfold f_X11_closeNow
  refine sX_rc ?_
  refine sX_aload_n (i := 0) (by decide +kernel) rfl ?_
  refine sX_getR lf_X11_54 tk_11_9 (by decide +kernel) (fun x1 => ?_)
  refine sX_getR lf_X11_192 tk_0_1 (by decide +kernel) (fun x2 => ?_)
  refine sX_aload_n (i := 0) (by decide +kernel) rfl ?_
  refine sX_getR lf_X11_38 tk_11_4 (by decide +kernel) (fun x3 => ?_)
  refine sX_aload_n (i := 0) (by decide +kernel) rfl ?_
  refine sX_getR lf_X11_38 tk_11_4 (by decide +kernel) (fun x4 => ?_)
  refine sX_getI lf_X11_149 tk_8_1 (by decide +kernel) (fun x5 => ?_)
  refine sX_iconst (n := -1) (v := (-1 : Int32)) (by decide +kernel) (by decide) ?_
  refine sX_aload_n (i := 0) (by decide +kernel) rfl ?_
  refine sX_getR lf_X11_65 tk_11_11 (by decide +kernel) (fun x6 => ?_)
  refine sX_callVv (As := [.ref x3, .int x5, .int (-1 : Int32), .ref x6]) (by decide +kernel) lm_X11_340 mf_X4_close mi_X4_close mc_4 (m_X4_close G l x2 x3 x5 ((-1 : Int32)) x6 M0) (fun _ h => sRc_some h) (by decide) rfl rfl (Nat.le_of_ble_eq_true rfl) (fun M7 => ?_)
  exact sX_some (fun h _ => sW_vret (by decide +kernel) rfl (hr _ h).1.symm (hr _ h).2.symm)
def f_X11_closed (v0 : Nat) (v1 : Int32) (v2 : Int32) (M0 : sMem) : Option (Int32 × sMem) :=
  sRc 11 20 M0 v0 (
    (gR 11 20 2 M0 v0).bind fun x1 =>
    (gR 1 10 1 M0 x1).bind fun x2 =>
    (f_X9_isThere x2 v1 M0).bind fun x3 =>
    if x3 = 0 then
      some (((-1 : Int32), M0))
    else
      (f_X11_isMinute v2 M0).bind fun x4 =>
      if x4 = 0 then
        some (((-1 : Int32), M0))
      else
        (f_X11_closeNow v0 M0).bind fun M5 =>
        (gR 11 20 11 M5 v0).bind fun x6 =>
        (f_X11_isMarked x6 v1 v2 M5).bind fun x7 =>
        if x7 = 0 then
          some (((0 : Int32), M5))
        else
          some (((1 : Int32), M5)))
set_option maxRecDepth 100000 in
set_option maxHeartbeats 4000000 in
theorem m_X11_closed (G : sG) (l : Launch) (v0 : Nat) (v1 : Int32) (v2 : Int32) (M0 : sMem) : sC G l 7 yX11_closed cX11_closed 3 (some .int) [.ref v0, .int v1, .int v2] M0 rvI (f_X11_closed v0 v1 v2 M0) := by
  refine sC_m (ls := [some (.ref v0), some (.int v1), some (.int v2)]) (by decide +kernel) rfl (Nat.le_of_ble_eq_true rfl) (fun r M' K hr => ?_)
  unfold f_X11_closed
  refine sX_rc ?_
  refine sX_aload_n (i := 0) (by decide +kernel) rfl ?_
  refine sX_getR lf_X11_28 tk_11_2 (by decide +kernel) (fun x1 => ?_)
  refine sX_getR lf_X11_125 tk_1_1 (by decide +kernel) (fun x2 => ?_)
  refine sX_iload_n (i := 1) (by decide +kernel) rfl ?_
  refine sX_callVp (As := [.int v1]) (by decide +kernel) lm_X11_164 mf_X9_isThere mi_X9_isThere mc_9 (m_X9_isThere G l x2 v1 M0) (fun _ h => sRc_some h) (by decide) rfl rfl (Nat.le_of_ble_eq_true rfl) (fun x3 => ?_)
  refine sX_ifeq (o := 10) (t := 21) (by decide +kernel) (by decide) (fun _ => ?_) (fun _ => ?_)
  · refine sX_iconst (n := -1) (v := (-1 : Int32)) (by decide +kernel) (by decide) ?_
    exact sX_some (fun h _ => sW_iret (by decide +kernel) rfl (hr _ h).1.symm (hr _ h).2.symm)
  · refine sX_iload_n (i := 2) (by decide +kernel) rfl ?_
    refine sX_callSp (As := [.int v2]) (by decide +kernel) lm_X11_189 mf_X11_isMinute ms_X11_isMinute (m_X11_isMinute G l v2 M0) (by decide) rfl rfl (Nat.le_of_ble_eq_true rfl) (fun x4 => ?_)
    refine sX_ifne (o := 5) (t := 23) (by decide +kernel) (by decide) (fun _ => ?_) (fun _ => ?_)
    · refine sX_iconst (n := -1) (v := (-1 : Int32)) (by decide +kernel) (by decide) ?_
      exact sX_some (fun h _ => sW_iret (by decide +kernel) rfl (hr _ h).1.symm (hr _ h).2.symm)
    · refine sX_aload_n (i := 0) (by decide +kernel) rfl ?_
      refine sX_callVv (As := []) (by decide +kernel) lm_X11_202 mf_X11_closeNow mi_X11_closeNow mc_11 (m_X11_closeNow G l v0 M0) (fun _ h => sRc_some h) (by decide) rfl rfl (Nat.le_of_ble_eq_true rfl) (fun M5 => ?_)
      refine sX_aload_n (i := 0) (by decide +kernel) rfl ?_
      refine sX_getR lf_X11_65 tk_11_11 (by decide +kernel) (fun x6 => ?_)
      refine sX_iload_n (i := 1) (by decide +kernel) rfl ?_
      refine sX_iload_n (i := 2) (by decide +kernel) rfl ?_
      refine sX_callSp (As := [.ref x6, .int v1, .int v2]) (by decide +kernel) lm_X11_205 mf_X11_isMarked ms_X11_isMarked (m_X11_isMarked G l x6 v1 v2 M5) (by decide) rfl rfl (Nat.le_of_ble_eq_true rfl) (fun x7 => ?_)
      refine sX_ifeq (o := 7) (t := 43) (by decide +kernel) (by decide) (fun _ => ?_) (fun _ => ?_)
      · refine sX_iconst (n := 0) (v := (0 : Int32)) (by decide +kernel) (by decide) ?_
        exact sX_some (fun h _ => sW_iret (by decide +kernel) rfl (hr _ h).1.symm (hr _ h).2.symm)
      · refine sX_iconst (n := 1) (v := (1 : Int32)) (by decide +kernel) (by decide) ?_
        refine sX_goto (o := 4) (t := 44) (by decide +kernel) (by decide) ?_
        exact sX_some (fun h _ => sW_iret (by decide +kernel) rfl (hr _ h).1.symm (hr _ h).2.symm)
def f_X11_opens (v0 : Nat) (v1 : Int32) (v2 : Int32) (M0 : sMem) : Option (Int32 × sMem) :=
  sRc 11 20 M0 v0 (
    (gR 11 20 2 M0 v0).bind fun x1 =>
    (gR 1 10 1 M0 x1).bind fun x2 =>
    (f_X9_isThere x2 v1 M0).bind fun x3 =>
    if x3 = 0 then
      some (((-1 : Int32), M0))
    else
      (f_X11_isMinute v2 M0).bind fun x4 =>
      if x4 = 0 then
        some (((-1 : Int32), M0))
      else
        (f_X11_closeNow v0 M0).bind fun M5 =>
        (gR 11 20 11 M5 v0).bind fun x6 =>
        (f_X11_firstOpen x6 v1 v2 M5).bind fun x7 =>
        some ((x7, M5)))
set_option maxRecDepth 100000 in
set_option maxHeartbeats 4000000 in
theorem m_X11_opens (G : sG) (l : Launch) (v0 : Nat) (v1 : Int32) (v2 : Int32) (M0 : sMem) : sC G l 7 yX11_opens cX11_opens 3 (some .int) [.ref v0, .int v1, .int v2] M0 rvI (f_X11_opens v0 v1 v2 M0) := by
  refine sC_m (ls := [some (.ref v0), some (.int v1), some (.int v2)]) (by decide +kernel) rfl (Nat.le_of_ble_eq_true rfl) (fun r M' K hr => ?_)
  unfold f_X11_opens
  refine sX_rc ?_
  refine sX_aload_n (i := 0) (by decide +kernel) rfl ?_
  refine sX_getR lf_X11_28 tk_11_2 (by decide +kernel) (fun x1 => ?_)
  refine sX_getR lf_X11_125 tk_1_1 (by decide +kernel) (fun x2 => ?_)
  refine sX_iload_n (i := 1) (by decide +kernel) rfl ?_
  refine sX_callVp (As := [.int v1]) (by decide +kernel) lm_X11_164 mf_X9_isThere mi_X9_isThere mc_9 (m_X9_isThere G l x2 v1 M0) (fun _ h => sRc_some h) (by decide) rfl rfl (Nat.le_of_ble_eq_true rfl) (fun x3 => ?_)
  refine sX_ifeq (o := 10) (t := 21) (by decide +kernel) (by decide) (fun _ => ?_) (fun _ => ?_)
  · refine sX_iconst (n := -1) (v := (-1 : Int32)) (by decide +kernel) (by decide) ?_
    exact sX_some (fun h _ => sW_iret (by decide +kernel) rfl (hr _ h).1.symm (hr _ h).2.symm)
  · refine sX_iload_n (i := 2) (by decide +kernel) rfl ?_
    refine sX_callSp (As := [.int v2]) (by decide +kernel) lm_X11_189 mf_X11_isMinute ms_X11_isMinute (m_X11_isMinute G l v2 M0) (by decide) rfl rfl (Nat.le_of_ble_eq_true rfl) (fun x4 => ?_)
    refine sX_ifne (o := 5) (t := 23) (by decide +kernel) (by decide) (fun _ => ?_) (fun _ => ?_)
    · refine sX_iconst (n := -1) (v := (-1 : Int32)) (by decide +kernel) (by decide) ?_
      exact sX_some (fun h _ => sW_iret (by decide +kernel) rfl (hr _ h).1.symm (hr _ h).2.symm)
    · refine sX_aload_n (i := 0) (by decide +kernel) rfl ?_
      refine sX_callVv (As := []) (by decide +kernel) lm_X11_202 mf_X11_closeNow mi_X11_closeNow mc_11 (m_X11_closeNow G l v0 M0) (fun _ h => sRc_some h) (by decide) rfl rfl (Nat.le_of_ble_eq_true rfl) (fun M5 => ?_)
      refine sX_aload_n (i := 0) (by decide +kernel) rfl ?_
      refine sX_getR lf_X11_65 tk_11_11 (by decide +kernel) (fun x6 => ?_)
      refine sX_iload_n (i := 1) (by decide +kernel) rfl ?_
      refine sX_iload_n (i := 2) (by decide +kernel) rfl ?_
      refine sX_callSp (As := [.ref x6, .int v1, .int v2]) (by decide +kernel) lm_X11_209 mf_X11_firstOpen ms_X11_firstOpen (m_X11_firstOpen G l x6 v1 v2 M5) (by decide) rfl rfl (Nat.le_of_ble_eq_true rfl) (fun x7 => ?_)
      exact sX_some (fun h _ => sW_iret (by decide +kernel) rfl (hr _ h).1.symm (hr _ h).2.symm)
def f_X11_drive (v0 : Nat) (v1 : Int32) (v2 : Int32) (v3 : Int32) (M0 : sMem) : Option (Int32 × sMem) :=
  sRc 11 20 M0 v0 (
    (gR 11 20 2 M0 v0).bind fun x1 =>
    (gR 1 10 2 M0 x1).bind fun x2 =>
    (f_X9_isThere x2 v1 M0).bind fun x3 =>
    if x3 = 0 then
      some (((-1 : Int32), M0))
    else
      (gR 11 20 2 M0 v0).bind fun x4 =>
      (gR 1 10 2 M0 x4).bind fun x5 =>
      (f_X9_isThere x5 v2 M0).bind fun x6 =>
      if x6 = 0 then
        some (((-1 : Int32), M0))
      else
        (f_X11_isMinute v3 M0).bind fun x7 =>
        if x7 = 0 then
          some (((-1 : Int32), M0))
        else
          (f_X11_closeNow v0 M0).bind fun M8 =>
          (gR 11 20 9 M8 v0).bind fun x9 =>
          (gR 0 7 2 M8 x9).bind fun x10 =>
          (gR 11 20 11 M8 v0).bind fun x11 =>
          (f_X7_go x10 v1 v3 x11 M8).bind fun M12 =>
          (gR 11 20 9 M12 v0).bind fun x13 =>
          (gR 0 7 2 M12 x13).bind fun x14 =>
          (f_X7_arrival x14 v2 M12).bind fun x15 =>
          some ((x15, M12)))
set_option maxRecDepth 100000 in
set_option maxHeartbeats 4000000 in
theorem m_X11_drive (G : sG) (l : Launch) (v0 : Nat) (v1 : Int32) (v2 : Int32) (v3 : Int32) (M0 : sMem) : sC G l 7 yX11_drive cX11_drive 4 (some .int) [.ref v0, .int v1, .int v2, .int v3] M0 rvI (f_X11_drive v0 v1 v2 v3 M0) := by
  refine sC_m (ls := [some (.ref v0), some (.int v1), some (.int v2), some (.int v3)]) (by decide +kernel) rfl (Nat.le_of_ble_eq_true rfl) (fun r M' K hr => ?_)
  unfold f_X11_drive
  refine sX_rc ?_
  refine sX_aload_n (i := 0) (by decide +kernel) rfl ?_
  refine sX_getR lf_X11_28 tk_11_2 (by decide +kernel) (fun x1 => ?_)
  refine sX_getR lf_X11_134 tk_1_2 (by decide +kernel) (fun x2 => ?_)
  refine sX_iload_n (i := 1) (by decide +kernel) rfl ?_
  refine sX_callVp (As := [.int v1]) (by decide +kernel) lm_X11_164 mf_X9_isThere mi_X9_isThere mc_9 (m_X9_isThere G l x2 v1 M0) (fun _ h => sRc_some h) (by decide) rfl rfl (Nat.le_of_ble_eq_true rfl) (fun x3 => ?_)
  refine sX_ifeq (o := 24) (t := 35) (by decide +kernel) (by decide) (fun _ => ?_) (fun _ => ?_)
  · refine sX_iconst (n := -1) (v := (-1 : Int32)) (by decide +kernel) (by decide) ?_
    exact sX_some (fun h _ => sW_iret (by decide +kernel) rfl (hr _ h).1.symm (hr _ h).2.symm)
  · refine sX_aload_n (i := 0) (by decide +kernel) rfl ?_
    refine sX_getR lf_X11_28 tk_11_2 (by decide +kernel) (fun x4 => ?_)
    refine sX_getR lf_X11_134 tk_1_2 (by decide +kernel) (fun x5 => ?_)
    refine sX_iload_n (i := 2) (by decide +kernel) rfl ?_
    refine sX_callVp (As := [.int v2]) (by decide +kernel) lm_X11_164 mf_X9_isThere mi_X9_isThere mc_9 (m_X9_isThere G l x5 v2 M0) (fun _ h => sRc_some h) (by decide) rfl rfl (Nat.le_of_ble_eq_true rfl) (fun x6 => ?_)
    refine sX_ifeq (o := 10) (t := 35) (by decide +kernel) (by decide) (fun _ => ?_) (fun _ => ?_)
    · refine sX_iconst (n := -1) (v := (-1 : Int32)) (by decide +kernel) (by decide) ?_
      exact sX_some (fun h _ => sW_iret (by decide +kernel) rfl (hr _ h).1.symm (hr _ h).2.symm)
    · refine sX_iload_n (i := 3) (by decide +kernel) rfl ?_
      refine sX_callSp (As := [.int v3]) (by decide +kernel) lm_X11_189 mf_X11_isMinute ms_X11_isMinute (m_X11_isMinute G l v3 M0) (by decide) rfl rfl (Nat.le_of_ble_eq_true rfl) (fun x7 => ?_)
      refine sX_ifne (o := 5) (t := 37) (by decide +kernel) (by decide) (fun _ => ?_) (fun _ => ?_)
      · refine sX_iconst (n := -1) (v := (-1 : Int32)) (by decide +kernel) (by decide) ?_
        exact sX_some (fun h _ => sW_iret (by decide +kernel) rfl (hr _ h).1.symm (hr _ h).2.symm)
      · refine sX_aload_n (i := 0) (by decide +kernel) rfl ?_
        refine sX_callVv (As := []) (by decide +kernel) lm_X11_202 mf_X11_closeNow mi_X11_closeNow mc_11 (m_X11_closeNow G l v0 M0) (fun _ h => sRc_some h) (by decide) rfl rfl (Nat.le_of_ble_eq_true rfl) (fun M8 => ?_)
        refine sX_aload_n (i := 0) (by decide +kernel) rfl ?_
        refine sX_getR lf_X11_54 tk_11_9 (by decide +kernel) (fun x9 => ?_)
        refine sX_getR lf_X11_213 tk_0_2 (by decide +kernel) (fun x10 => ?_)
        refine sX_iload_n (i := 1) (by decide +kernel) rfl ?_
        refine sX_iload_n (i := 3) (by decide +kernel) rfl ?_
        refine sX_aload_n (i := 0) (by decide +kernel) rfl ?_
        refine sX_getR lf_X11_65 tk_11_11 (by decide +kernel) (fun x11 => ?_)
        refine sX_callVv (As := [.int v1, .int v3, .ref x11]) (by decide +kernel) lm_X11_217 mf_X7_go mi_X7_go mc_7 (m_X7_go G l x10 v1 v3 x11 M8) (fun _ h => sRc_some h) (by decide) rfl rfl (Nat.le_of_ble_eq_true rfl) (fun M12 => ?_)
        refine sX_aload_n (i := 0) (by decide +kernel) rfl ?_
        refine sX_getR lf_X11_54 tk_11_9 (by decide +kernel) (fun x13 => ?_)
        refine sX_getR lf_X11_213 tk_0_2 (by decide +kernel) (fun x14 => ?_)
        refine sX_iload_n (i := 2) (by decide +kernel) rfl ?_
        refine sX_callVp (As := [.int v2]) (by decide +kernel) lm_X11_223 mf_X7_arrival mi_X7_arrival mc_7 (m_X7_arrival G l x14 v2 M12) (fun _ h => sRc_some h) (by decide) rfl rfl (Nat.le_of_ble_eq_true rfl) (fun x15 => ?_)
        exact sX_some (fun h _ => sW_iret (by decide +kernel) rfl (hr _ h).1.symm (hr _ h).2.symm)
def f_X11_waits (v0 : Nat) (v1 : Int32) (M0 : sMem) : Option (Int32 × sMem) :=
  sRc 11 20 M0 v0 (
    (gR 11 20 2 M0 v0).bind fun x1 =>
    (gR 1 10 5 M0 x1).bind fun x2 =>
    (f_X9_isThere x2 v1 M0).bind fun x3 =>
    if x3 = 0 then
      some (((-1 : Int32), M0))
    else
      (f_X11_closeNow v0 M0).bind fun M4 =>
      (gR 11 20 9 M4 v0).bind fun x5 =>
      (gR 11 20 4 M4 v0).bind fun x6 =>
      (gR 11 20 11 M4 v0).bind fun x7 =>
      (f_X0_waitOf x5 x6 v1 x7 M4).bind fun (x8, M9) =>
      some ((x8, M9)))
set_option maxRecDepth 100000 in
set_option maxHeartbeats 4000000 in
theorem m_X11_waits (G : sG) (l : Launch) (v0 : Nat) (v1 : Int32) (M0 : sMem) : sC G l 7 yX11_waits cX11_waits 2 (some .int) [.ref v0, .int v1] M0 rvI (f_X11_waits v0 v1 M0) := by
  refine sC_m (ls := [some (.ref v0), some (.int v1)]) (by decide +kernel) rfl (Nat.le_of_ble_eq_true rfl) (fun r M' K hr => ?_)
  unfold f_X11_waits
  refine sX_rc ?_
  refine sX_aload_n (i := 0) (by decide +kernel) rfl ?_
  refine sX_getR lf_X11_28 tk_11_2 (by decide +kernel) (fun x1 => ?_)
  refine sX_getR lf_X11_143 tk_1_5 (by decide +kernel) (fun x2 => ?_)
  refine sX_iload_n (i := 1) (by decide +kernel) rfl ?_
  refine sX_callVp (As := [.int v1]) (by decide +kernel) lm_X11_164 mf_X9_isThere mi_X9_isThere mc_9 (m_X9_isThere G l x2 v1 M0) (fun _ h => sRc_some h) (by decide) rfl rfl (Nat.le_of_ble_eq_true rfl) (fun x3 => ?_)
  refine sX_ifne (o := 5) (t := 16) (by decide +kernel) (by decide) (fun _ => ?_) (fun _ => ?_)
  · refine sX_iconst (n := -1) (v := (-1 : Int32)) (by decide +kernel) (by decide) ?_
    exact sX_some (fun h _ => sW_iret (by decide +kernel) rfl (hr _ h).1.symm (hr _ h).2.symm)
  · refine sX_aload_n (i := 0) (by decide +kernel) rfl ?_
    refine sX_callVv (As := []) (by decide +kernel) lm_X11_202 mf_X11_closeNow mi_X11_closeNow mc_11 (m_X11_closeNow G l v0 M0) (fun _ h => sRc_some h) (by decide) rfl rfl (Nat.le_of_ble_eq_true rfl) (fun M4 => ?_)
    refine sX_aload_n (i := 0) (by decide +kernel) rfl ?_
    refine sX_getR lf_X11_54 tk_11_9 (by decide +kernel) (fun x5 => ?_)
    refine sX_aload_n (i := 0) (by decide +kernel) rfl ?_
    refine sX_getR lf_X11_38 tk_11_4 (by decide +kernel) (fun x6 => ?_)
    refine sX_iload_n (i := 1) (by decide +kernel) rfl ?_
    refine sX_aload_n (i := 0) (by decide +kernel) rfl ?_
    refine sX_getR lf_X11_65 tk_11_11 (by decide +kernel) (fun x7 => ?_)
    refine sX_callV (As := [.ref x6, .int v1, .ref x7]) (by decide +kernel) lm_X11_226 mf_X0_waitOf mi_X0_waitOf mc_0 (m_X0_waitOf G l x5 x6 v1 x7 M4) (fun _ h => sRc_some h) (by decide) rfl rfl (Nat.le_of_ble_eq_true rfl) (fun x8 M9 _ => ?_)
    exact sX_some (fun h _ => sW_iret (by decide +kernel) rfl (hr _ h).1.symm (hr _ h).2.symm)
def f_X11_goesAhead_K40 (v0 : Nat) (v1 : Int32) (v2 : Int32) (M : sMem) : Option ((Int32 × sMem) ⊕ (((Int32 × sMem)))) :=
  if v1 ≤ v2 then
    some (.inr (((1 : Int32), M)))
  else
    (gR 11 20 9 M v0).bind fun x1 =>
    (gR 11 20 5 M v0).bind fun x2 =>
    (f_X0_pass x1 x2 M).bind fun (x3, M4) =>
    some (.inl ((((v2 + (1 : Int32))), M4)))
def f_X11_goesAhead_L40 (v0 : Nat) (v1 : Int32) (v2 : Int32) (M : sMem) : Option (Int32 × sMem) :=
  (sItr (fun a : (Int32 × sMem) => f_X11_goesAhead_K40 v0 v1 a.1 a.2) sFuel (v2, M)).bind (fun b => some b)
def f_X11_goesAhead (v0 : Nat) (v1 : Int32) (M0 : sMem) : Option (Int32 × sMem) :=
  sRc 11 20 M0 v0 (
    if v1 < 0 then
      some (((0 : Int32), M0))
    else
      if (60 : Int32) < v1 then
        some (((0 : Int32), M0))
      else
        (gR 11 20 4 M0 v0).bind fun x5 =>
        (gI 8 8 0 M0 x5).bind fun x6 =>
        if (x6 + v1) ≤ (999 : Int32) then
          (gR 11 20 5 M0 v0).bind fun x7 =>
          (gR 11 20 4 M0 v0).bind fun x8 =>
          (f_X8_copy x7 x8 M0).bind fun M9 =>
          f_X11_goesAhead_L40 v0 v1 ((0 : Int32)) M9
        else
          some (((0 : Int32), M0)))
set_option maxRecDepth 100000 in
set_option maxHeartbeats 4000000 in
theorem m_X11_goesAhead (G : sG) (l : Launch) (v0 : Nat) (v1 : Int32) (M0 : sMem) : sC G l 7 yX11_goesAhead cX11_goesAhead 3 (some .boolean) [.ref v0, .int v1] M0 rvI (f_X11_goesAhead v0 v1 M0) := by
  refine sC_m (ls := [some (.ref v0), some (.int v1), none]) (by decide +kernel) rfl (Nat.le_of_ble_eq_true rfl) (fun r M' K hr => ?_)
  unfold f_X11_goesAhead
  have xL40 : ∀ (v0 : Nat) (v1 : Int32) (v2 : Int32) (M : sMem), sX G l 7 yX11_goesAhead cX11_goesAhead 3 (some .boolean) M0 r M' 40 [some (.ref v0), some (.int v1), some (.int v2)] [] M (f_X11_goesAhead_L40 v0 v1 v2 M) K := by
    intro v0 v1 v2 M
    unfold f_X11_goesAhead_L40
    refine sX_bind ?_
    refine sX_loop (LS := fun a : (Int32 × sMem) => [some (.ref v0), some (.int v1), some (.int a.1)]) (MM := fun a => a.2) (fun K1 hb1 he1 => ?_) sFuel ((v2, M))
    have xK40 : ∀ (v2 : Int32) (M : sMem), sX G l 7 yX11_goesAhead cX11_goesAhead 3 (some .boolean) M0 r M' 40 [some (.ref v0), some (.int v1), some (.int v2)] [] M (f_X11_goesAhead_K40 v0 v1 v2 M) K1 := by
      intro v2 M
      unfold f_X11_goesAhead_K40
      refine sX_iload_n (i := 2) (by decide +kernel) rfl ?_
      refine sX_iload_n (i := 1) (by decide +kernel) rfl ?_
      refine sX_icge (o := 21) (t := 63) (by decide +kernel) (by decide) (fun _ => ?_) (fun _ => ?_)
      · refine sX_iconst (n := 1) (v := (1 : Int32)) (by decide +kernel) (by decide) ?_
        refine sX_exit he1 ?_
        exact sX_some (fun h _ => sW_zret (by decide +kernel) rfl (by decide) (hr _ h).1.symm (hr _ h).2.symm)
      · refine sX_aload_n (i := 0) (by decide +kernel) rfl ?_
        refine sX_getR lf_X11_54 tk_11_9 (by decide +kernel) (fun x1 => ?_)
        refine sX_aload_n (i := 0) (by decide +kernel) rfl ?_
        refine sX_getR lf_X11_42 tk_11_5 (by decide +kernel) (fun x2 => ?_)
        refine sX_callV (As := [.ref x2]) (by decide +kernel) lm_X11_285 mf_X0_pass mi_X0_pass mc_0 (m_X0_pass G l x1 x2 M) (fun _ h => sRc_some h) (by decide) rfl rfl (Nat.le_of_ble_eq_true rfl) (fun x3 M4 _ => ?_)
        refine sX_pop (by decide +kernel) rfl ?_
        refine sX_iinc (i := 2) (n := 1) (v := v2 + (1 : Int32)) (ls2 := [some (.ref v0), some (.int v1), some (.int (v2 + (1 : Int32)))]) (by decide +kernel) rfl rfl (by decide) rfl ?_
        refine sX_goto (o := -20) (t := 40) (by decide +kernel) (by decide) ?_
        exact sX_back (a := (((v2 + (1 : Int32))), M4)) hb1 rfl (sLe_s (sLe_s (sLe_s sLe_e)))
    exact fun a => xK40 a.1 a.2
  refine sX_rc ?_
  refine sX_iload_n (i := 1) (by decide +kernel) rfl ?_
  refine sX_iflt (o := 24) (t := 25) (by decide +kernel) (by decide) (fun _ => ?_) (fun _ => ?_)
  · refine sX_iconst (n := 0) (v := (0 : Int32)) (by decide +kernel) (by decide) ?_
    exact sX_some (fun h _ => sW_zret (by decide +kernel) rfl (by decide) (hr _ h).1.symm (hr _ h).2.symm)
  · refine sX_iload_n (i := 1) (by decide +kernel) rfl ?_
    refine sX_bipush (n := 60) (v := (60 : Int32)) (by decide +kernel) (by decide) ?_
    refine sX_icgt (o := 18) (t := 25) (by decide +kernel) (by decide) (fun _ => ?_) (fun _ => ?_)
    · refine sX_iconst (n := 0) (v := (0 : Int32)) (by decide +kernel) (by decide) ?_
      exact sX_some (fun h _ => sW_zret (by decide +kernel) rfl (by decide) (hr _ h).1.symm (hr _ h).2.symm)
    · refine sX_aload_n (i := 0) (by decide +kernel) rfl ?_
      refine sX_getR lf_X11_38 tk_11_4 (by decide +kernel) (fun x5 => ?_)
      refine sX_getI lf_X11_146 tk_8_0 (by decide +kernel) (fun x6 => ?_)
      refine sX_iload_n (i := 1) (by decide +kernel) rfl ?_
      refine sX_iadd (by decide +kernel) ?_
      refine sX_sipush (n := 999) (v := (999 : Int32)) (by decide +kernel) (by decide) ?_
      refine sX_icle (o := 5) (t := 27) (by decide +kernel) (by decide) (fun _ => ?_) (fun _ => ?_)
      · refine sX_aload_n (i := 0) (by decide +kernel) rfl ?_
        refine sX_getR lf_X11_42 tk_11_5 (by decide +kernel) (fun x7 => ?_)
        refine sX_aload_n (i := 0) (by decide +kernel) rfl ?_
        refine sX_getR lf_X11_38 tk_11_4 (by decide +kernel) (fun x8 => ?_)
        refine sX_callVv (As := [.ref x8]) (by decide +kernel) lm_X11_301 mf_X8_copy mi_X8_copy mc_8 (m_X8_copy G l x7 x8 M0) (fun _ h => sRc_some h) (by decide) rfl rfl (Nat.le_of_ble_eq_true rfl) (fun M9 => ?_)
        refine sX_iconst (n := 0) (v := (0 : Int32)) (by decide +kernel) (by decide) ?_
        refine sX_istore_n (i := 2) (ls2 := [some (.ref v0), some (.int v1), some (.int (0 : Int32))]) (by decide +kernel) (by decide) rfl ?_
        exact sX.le (xL40 v0 v1 ((0 : Int32)) M9) (sLe_s (sLe_s (sLe_s sLe_e)))
      · refine sX_iconst (n := 0) (v := (0 : Int32)) (by decide +kernel) (by decide) ?_
        exact sX_some (fun h _ => sW_zret (by decide +kernel) rfl (by decide) (hr _ h).1.symm (hr _ h).2.symm)
def f_X11_later (v0 : Nat) (v1 : Int32) (v2 : Int32) (v3 : Int32) (M0 : sMem) : Option (Int32 × sMem) :=
  sRc 11 20 M0 v0 (
    (gR 11 20 2 M0 v0).bind fun x1 =>
    (gR 1 10 5 M0 x1).bind fun x2 =>
    (f_X9_isThere x2 v1 M0).bind fun x3 =>
    if x3 = 0 then
      some (((-1 : Int32), M0))
    else
      if v3 < 0 then
        some (((-1 : Int32), M0))
      else
        if (1 : Int32) < v3 then
          some (((-1 : Int32), M0))
        else
          (f_X11_goesAhead v0 v2 M0).bind fun (x4, M5) =>
          if x4 = 0 then
            some (((-1 : Int32), M5))
          else
            if v3 = 0 then
              (gR 11 20 5 M5 v0).bind fun x6 =>
              (gR 8 8 3 M5 x6).bind fun x7 =>
              (ldI 14 M5 x7 v1).bind fun x8 =>
              some ((x8, M5))
            else
              (gR 11 20 5 M5 v0).bind fun x9 =>
              (gR 8 8 5 M5 x9).bind fun x10 =>
              (ldI 14 M5 x10 v1).bind fun x11 =>
              some ((x11, M5)))
set_option maxRecDepth 100000 in
set_option maxHeartbeats 4000000 in
theorem m_X11_later (G : sG) (l : Launch) (v0 : Nat) (v1 : Int32) (v2 : Int32) (v3 : Int32) (M0 : sMem) : sC G l 8 yX11_later cX11_later 4 (some .int) [.ref v0, .int v1, .int v2, .int v3] M0 rvI (f_X11_later v0 v1 v2 v3 M0) := by
  refine sC_m (ls := [some (.ref v0), some (.int v1), some (.int v2), some (.int v3)]) (by decide +kernel) rfl (Nat.le_of_ble_eq_true rfl) (fun r M' K hr => ?_)
  unfold f_X11_later
  refine sX_rc ?_
  refine sX_aload_n (i := 0) (by decide +kernel) rfl ?_
  refine sX_getR lf_X11_28 tk_11_2 (by decide +kernel) (fun x1 => ?_)
  refine sX_getR lf_X11_143 tk_1_5 (by decide +kernel) (fun x2 => ?_)
  refine sX_iload_n (i := 1) (by decide +kernel) rfl ?_
  refine sX_callVp (As := [.int v1]) (by decide +kernel) lm_X11_164 mf_X9_isThere mi_X9_isThere mc_9 (m_X9_isThere G l x2 v1 M0) (fun _ h => sRc_some h) (by decide) rfl rfl (Nat.le_of_ble_eq_true rfl) (fun x3 => ?_)
  refine sX_ifeq (o := 20) (t := 31) (by decide +kernel) (by decide) (fun _ => ?_) (fun _ => ?_)
  · refine sX_iconst (n := -1) (v := (-1 : Int32)) (by decide +kernel) (by decide) ?_
    exact sX_some (fun h _ => sW_iret (by decide +kernel) rfl (hr _ h).1.symm (hr _ h).2.symm)
  · refine sX_iload_n (i := 3) (by decide +kernel) rfl ?_
    refine sX_iflt (o := 16) (t := 31) (by decide +kernel) (by decide) (fun _ => ?_) (fun _ => ?_)
    · refine sX_iconst (n := -1) (v := (-1 : Int32)) (by decide +kernel) (by decide) ?_
      exact sX_some (fun h _ => sW_iret (by decide +kernel) rfl (hr _ h).1.symm (hr _ h).2.symm)
    · refine sX_iload_n (i := 3) (by decide +kernel) rfl ?_
      refine sX_iconst (n := 1) (v := (1 : Int32)) (by decide +kernel) (by decide) ?_
      refine sX_icgt (o := 11) (t := 31) (by decide +kernel) (by decide) (fun _ => ?_) (fun _ => ?_)
      · refine sX_iconst (n := -1) (v := (-1 : Int32)) (by decide +kernel) (by decide) ?_
        exact sX_some (fun h _ => sW_iret (by decide +kernel) rfl (hr _ h).1.symm (hr _ h).2.symm)
      · refine sX_aload_n (i := 0) (by decide +kernel) rfl ?_
        refine sX_iload_n (i := 2) (by decide +kernel) rfl ?_
        refine sX_callV (As := [.int v2]) (by decide +kernel) lm_X11_230 mf_X11_goesAhead mi_X11_goesAhead mc_11 (m_X11_goesAhead G l v0 v2 M0) (fun _ h => sRc_some h) (by decide) rfl rfl (Nat.le_of_ble_eq_true rfl) (fun x4 M5 _ => ?_)
        refine sX_ifne (o := 5) (t := 33) (by decide +kernel) (by decide) (fun _ => ?_) (fun _ => ?_)
        · refine sX_iconst (n := -1) (v := (-1 : Int32)) (by decide +kernel) (by decide) ?_
          exact sX_some (fun h _ => sW_iret (by decide +kernel) rfl (hr _ h).1.symm (hr _ h).2.symm)
        · refine sX_iload_n (i := 3) (by decide +kernel) rfl ?_
          refine sX_ifne (o := 15) (t := 49) (by decide +kernel) (by decide) (fun _ => ?_) (fun _ => ?_)
          · refine sX_aload_n (i := 0) (by decide +kernel) rfl ?_
            refine sX_getR lf_X11_42 tk_11_5 (by decide +kernel) (fun x6 => ?_)
            refine sX_getR lf_X11_177 tk_8_3 (by decide +kernel) (fun x7 => ?_)
            refine sX_iload_n (i := 1) (by decide +kernel) rfl ?_
            refine sX_iaload (by decide +kernel) (fun x8 => ?_)
            refine sX_goto (o := 12) (t := 58) (by decide +kernel) (by decide) ?_
            exact sX_some (fun h _ => sW_iret (by decide +kernel) rfl (hr _ h).1.symm (hr _ h).2.symm)
          · refine sX_aload_n (i := 0) (by decide +kernel) rfl ?_
            refine sX_getR lf_X11_42 tk_11_5 (by decide +kernel) (fun x9 => ?_)
            refine sX_getR lf_X11_183 tk_8_5 (by decide +kernel) (fun x10 => ?_)
            refine sX_iload_n (i := 1) (by decide +kernel) rfl ?_
            refine sX_iaload (by decide +kernel) (fun x11 => ?_)
            exact sX_some (fun h _ => sW_iret (by decide +kernel) rfl (hr _ h).1.symm (hr _ h).2.symm)
def f_X11_late (v0 : Nat) (v1 : Int32) (v2 : Int32) (M0 : sMem) : Option (Int32 × sMem) :=
  sRc 11 20 M0 v0 (
    (gR 11 20 2 M0 v0).bind fun x1 =>
    (gR 1 10 4 M0 x1).bind fun x2 =>
    (f_X9_isThere x2 v1 M0).bind fun x3 =>
    if x3 = 0 then
      some (((-1 : Int32), M0))
    else
      (f_X11_goesAhead v0 v2 M0).bind fun (x4, M5) =>
      if x4 = 0 then
        some (((-1 : Int32), M5))
      else
        (gR 11 20 5 M5 v0).bind fun x6 =>
        (gR 8 8 2 M5 x6).bind fun x7 =>
        (ldI 14 M5 x7 v1).bind fun x8 =>
        some ((x8, M5)))
set_option maxRecDepth 100000 in
set_option maxHeartbeats 4000000 in
theorem m_X11_late (G : sG) (l : Launch) (v0 : Nat) (v1 : Int32) (v2 : Int32) (M0 : sMem) : sC G l 8 yX11_late cX11_late 3 (some .int) [.ref v0, .int v1, .int v2] M0 rvI (f_X11_late v0 v1 v2 M0) := by
  refine sC_m (ls := [some (.ref v0), some (.int v1), some (.int v2)]) (by decide +kernel) rfl (Nat.le_of_ble_eq_true rfl) (fun r M' K hr => ?_)
  unfold f_X11_late
  refine sX_rc ?_
  refine sX_aload_n (i := 0) (by decide +kernel) rfl ?_
  refine sX_getR lf_X11_28 tk_11_2 (by decide +kernel) (fun x1 => ?_)
  refine sX_getR lf_X11_140 tk_1_4 (by decide +kernel) (fun x2 => ?_)
  refine sX_iload_n (i := 1) (by decide +kernel) rfl ?_
  refine sX_callVp (As := [.int v1]) (by decide +kernel) lm_X11_164 mf_X9_isThere mi_X9_isThere mc_9 (m_X9_isThere G l x2 v1 M0) (fun _ h => sRc_some h) (by decide) rfl rfl (Nat.le_of_ble_eq_true rfl) (fun x3 => ?_)
  refine sX_ifeq (o := 11) (t := 22) (by decide +kernel) (by decide) (fun _ => ?_) (fun _ => ?_)
  · refine sX_iconst (n := -1) (v := (-1 : Int32)) (by decide +kernel) (by decide) ?_
    exact sX_some (fun h _ => sW_iret (by decide +kernel) rfl (hr _ h).1.symm (hr _ h).2.symm)
  · refine sX_aload_n (i := 0) (by decide +kernel) rfl ?_
    refine sX_iload_n (i := 2) (by decide +kernel) rfl ?_
    refine sX_callV (As := [.int v2]) (by decide +kernel) lm_X11_230 mf_X11_goesAhead mi_X11_goesAhead mc_11 (m_X11_goesAhead G l v0 v2 M0) (fun _ h => sRc_some h) (by decide) rfl rfl (Nat.le_of_ble_eq_true rfl) (fun x4 M5 _ => ?_)
    refine sX_ifne (o := 5) (t := 24) (by decide +kernel) (by decide) (fun _ => ?_) (fun _ => ?_)
    · refine sX_iconst (n := -1) (v := (-1 : Int32)) (by decide +kernel) (by decide) ?_
      exact sX_some (fun h _ => sW_iret (by decide +kernel) rfl (hr _ h).1.symm (hr _ h).2.symm)
    · refine sX_aload_n (i := 0) (by decide +kernel) rfl ?_
      refine sX_getR lf_X11_42 tk_11_5 (by decide +kernel) (fun x6 => ?_)
      refine sX_getR lf_X11_174 tk_8_2 (by decide +kernel) (fun x7 => ?_)
      refine sX_iload_n (i := 1) (by decide +kernel) rfl ?_
      refine sX_iaload (by decide +kernel) (fun x8 => ?_)
      exact sX_some (fun h _ => sW_iret (by decide +kernel) rfl (hr _ h).1.symm (hr _ h).2.symm)
def f_X11_leastLift_B119 (v0 : Nat) (v1 : Int32) (v2 : Int32) (v3 : Int32) (v4 : Int32) (M : sMem) : Option ((Int32 × sMem) ⊕ (((Int32 × sMem)))) :=
  some (.inl ((((v4 + (1 : Int32))), M)))
def f_X11_leastLift_B104 (v0 : Nat) (v1 : Int32) (v2 : Int32) (v3 : Int32) (v4 : Int32) (v5 : Int32) (M : sMem) : Option ((Int32 × sMem) ⊕ (((Int32 × sMem)))) :=
  if v5 = (-1 : Int32) then
    f_X11_leastLift_B119 v0 v1 v2 v3 v4 M
  else
    if v2 < v5 then
      f_X11_leastLift_B119 v0 v1 v2 v3 v4 M
    else
      some (.inr ((v4, M)))
def f_X11_leastLift_K3 (v0 : Nat) (v1 : Int32) (v2 : Int32) (v3 : Int32) (v4 : Int32) (M : sMem) : Option ((Int32 × sMem) ⊕ (((Int32 × sMem)))) :=
  (gR 11 20 2 M v0).bind fun x1 =>
  (gR 1 10 1 M x1).bind fun x2 =>
  (gI 9 4 3 M x2).bind fun x3 =>
  if ((1 : Int32) <<< (x3 &&& 31)) ≤ v4 then
    some (.inr (((-1 : Int32), M)))
  else
    (f_J6_bitCount_0f7a4 v4 M).bind fun x4 =>
    if x4 = v3 then
      (gR 11 20 4 M v0).bind fun x5 =>
      (gI 8 8 1 M x5).bind fun x6 =>
      if (v4 &&& x6) = 0 then
        (gR 11 20 9 M v0).bind fun x7 =>
        (gR 0 7 1 M x7).bind fun x8 =>
        (gR 11 20 4 M v0).bind fun x9 =>
        (gR 11 20 4 M v0).bind fun x10 =>
        (gI 8 8 1 M x10).bind fun x11 =>
        (gR 11 20 11 M v0).bind fun x12 =>
        (f_X4_close x8 x9 ((x11 ||| v4)) ((-1 : Int32)) x12 M).bind fun M13 =>
        (gR 11 20 9 M13 v0).bind fun x14 =>
        (gR 11 20 4 M13 v0).bind fun x15 =>
        (gR 11 20 2 M13 v0).bind fun x16 =>
        (gR 1 10 5 M13 x16).bind fun x17 =>
        (f_X9_cell x17 v1 ((2 : Int32)) M13).bind fun x18 =>
        (gR 11 20 11 M13 v0).bind fun x19 =>
        (f_X0_arrivalFrom x14 x15 v1 x18 x19 M13).bind fun (x20, M21) =>
        f_X11_leastLift_B104 v0 v1 v2 v3 v4 x20 M21
      else
        f_X11_leastLift_B119 v0 v1 v2 v3 v4 M
    else
      f_X11_leastLift_B119 v0 v1 v2 v3 v4 M
def f_X11_leastLift_L3 (v0 : Nat) (v1 : Int32) (v2 : Int32) (v3 : Int32) (v4 : Int32) (M : sMem) : Option (Int32 × sMem) :=
  (sItr (fun a : (Int32 × sMem) => f_X11_leastLift_K3 v0 v1 v2 v3 a.1 a.2) sFuel (v4, M)).bind (fun b => some b)
def f_X11_leastLift (v0 : Nat) (v1 : Int32) (v2 : Int32) (v3 : Int32) (M0 : sMem) : Option (Int32 × sMem) :=
  sRc 11 20 M0 v0 (
    f_X11_leastLift_L3 v0 v1 v2 v3 ((0 : Int32)) M0)
set_option maxRecDepth 100000 in
set_option maxHeartbeats 4000000 in
theorem m_X11_leastLift (G : sG) (l : Launch) (v0 : Nat) (v1 : Int32) (v2 : Int32) (v3 : Int32) (M0 : sMem) : sC G l 6 yX11_leastLift cX11_leastLift 6 (some .int) [.ref v0, .int v1, .int v2, .int v3] M0 rvI (f_X11_leastLift v0 v1 v2 v3 M0) := by
  refine sC_m (ls := [some (.ref v0), some (.int v1), some (.int v2), some (.int v3), none, none]) (by decide +kernel) rfl (Nat.le_of_ble_eq_true rfl) (fun r M' K hr => ?_)
  unfold f_X11_leastLift
  have xL3 : ∀ (v0 : Nat) (v1 : Int32) (v2 : Int32) (v3 : Int32) (v4 : Int32) (M : sMem), sX G l 6 yX11_leastLift cX11_leastLift 6 (some .int) M0 r M' 3 [some (.ref v0), some (.int v1), some (.int v2), some (.int v3), some (.int v4), none] [] M (f_X11_leastLift_L3 v0 v1 v2 v3 v4 M) K := by
    intro v0 v1 v2 v3 v4 M
    unfold f_X11_leastLift_L3
    refine sX_bind ?_
    refine sX_loop (LS := fun a : (Int32 × sMem) => [some (.ref v0), some (.int v1), some (.int v2), some (.int v3), some (.int a.1), none]) (MM := fun a => a.2) (fun K1 hb1 he1 => ?_) sFuel ((v4, M))
    have xB119 : ∀ (v4 : Int32) (M : sMem), sX G l 6 yX11_leastLift cX11_leastLift 6 (some .int) M0 r M' 119 [some (.ref v0), some (.int v1), some (.int v2), some (.int v3), some (.int v4), none] [] M (f_X11_leastLift_B119 v0 v1 v2 v3 v4 M) K1 := by
      intro v4 M
      unfold f_X11_leastLift_B119
      refine sX_iinc (i := 4) (n := 1) (v := v4 + (1 : Int32)) (ls2 := [some (.ref v0), some (.int v1), some (.int v2), some (.int v3), some (.int (v4 + (1 : Int32))), none]) (by decide +kernel) rfl rfl (by decide) rfl ?_
      refine sX_goto (o := -119) (t := 3) (by decide +kernel) (by decide) ?_
      exact sX_back (a := (((v4 + (1 : Int32))), M)) hb1 rfl (sLe_s (sLe_s (sLe_s (sLe_s (sLe_s (sLe_n sLe_e))))))
    have xB104 : ∀ (v4 : Int32) (v5 : Int32) (M : sMem), sX G l 6 yX11_leastLift cX11_leastLift 6 (some .int) M0 r M' 104 [some (.ref v0), some (.int v1), some (.int v2), some (.int v3), some (.int v4), some (.int v5)] [] M (f_X11_leastLift_B104 v0 v1 v2 v3 v4 v5 M) K1 := by
      intro v4 v5 M
      unfold f_X11_leastLift_B104
      refine sX_iload (i := 5) (by decide +kernel) rfl ?_
      refine sX_iconst (n := -1) (v := (-1 : Int32)) (by decide +kernel) (by decide) ?_
      refine sX_iceq (o := 12) (t := 119) (by decide +kernel) (by decide) (fun _ => ?_) (fun _ => ?_)
      · exact sX.le (xB119 v4 M) (sLe_s (sLe_s (sLe_s (sLe_s (sLe_s (sLe_n sLe_e))))))
      · refine sX_iload (i := 5) (by decide +kernel) rfl ?_
        refine sX_iload_n (i := 2) (by decide +kernel) rfl ?_
        refine sX_icgt (o := 6) (t := 119) (by decide +kernel) (by decide) (fun _ => ?_) (fun _ => ?_)
        · exact sX.le (xB119 v4 M) (sLe_s (sLe_s (sLe_s (sLe_s (sLe_s (sLe_n sLe_e))))))
        · refine sX_iload (i := 4) (by decide +kernel) rfl ?_
          refine sX_exit he1 ?_
          exact sX_some (fun h _ => sW_iret (by decide +kernel) rfl (hr _ h).1.symm (hr _ h).2.symm)
    have xK3 : ∀ (v4 : Int32) (M : sMem), sX G l 6 yX11_leastLift cX11_leastLift 6 (some .int) M0 r M' 3 [some (.ref v0), some (.int v1), some (.int v2), some (.int v3), some (.int v4), none] [] M (f_X11_leastLift_K3 v0 v1 v2 v3 v4 M) K1 := by
      intro v4 M
      unfold f_X11_leastLift_K3
      refine sX_iload (i := 4) (by decide +kernel) rfl ?_
      refine sX_iconst (n := 1) (v := (1 : Int32)) (by decide +kernel) (by decide) ?_
      refine sX_aload_n (i := 0) (by decide +kernel) rfl ?_
      refine sX_getR lf_X11_28 tk_11_2 (by decide +kernel) (fun x1 => ?_)
      refine sX_getR lf_X11_125 tk_1_1 (by decide +kernel) (fun x2 => ?_)
      refine sX_getI lf_X11_129 tk_9_3 (by decide +kernel) (fun x3 => ?_)
      refine sX_ishl (by decide +kernel) ?_
      refine sX_icge (o := 108) (t := 125) (by decide +kernel) (by decide) (fun _ => ?_) (fun _ => ?_)
      · refine sX_iconst (n := -1) (v := (-1 : Int32)) (by decide +kernel) (by decide) ?_
        refine sX_exit he1 ?_
        exact sX_some (fun h _ => sW_iret (by decide +kernel) rfl (hr _ h).1.symm (hr _ h).2.symm)
      · refine sX_iload (i := 4) (by decide +kernel) rfl ?_
        refine sX_callSp (As := [.int v4]) (by decide +kernel) lm_X11_152 mf_J6_bitCount_0f7a4 ms_J6_bitCount_0f7a4 (m_J6_bitCount_0f7a4 G l v4 M) (by decide) rfl rfl (Nat.le_of_ble_eq_true rfl) (fun x4 => ?_)
        refine sX_iload_n (i := 3) (by decide +kernel) rfl ?_
        refine sX_icne (o := 93) (t := 119) (by decide +kernel) (by decide) (fun _ => ?_) (fun _ => ?_)
        · refine sX_iload (i := 4) (by decide +kernel) rfl ?_
          refine sX_aload_n (i := 0) (by decide +kernel) rfl ?_
          refine sX_getR lf_X11_38 tk_11_4 (by decide +kernel) (fun x5 => ?_)
          refine sX_getI lf_X11_149 tk_8_1 (by decide +kernel) (fun x6 => ?_)
          refine sX_iand (by decide +kernel) ?_
          refine sX_ifeq (o := 6) (t := 45) (by decide +kernel) (by decide) (fun _ => ?_) (fun _ => ?_)
          · refine sX_aload_n (i := 0) (by decide +kernel) rfl ?_
            refine sX_getR lf_X11_54 tk_11_9 (by decide +kernel) (fun x7 => ?_)
            refine sX_getR lf_X11_192 tk_0_1 (by decide +kernel) (fun x8 => ?_)
            refine sX_aload_n (i := 0) (by decide +kernel) rfl ?_
            refine sX_getR lf_X11_38 tk_11_4 (by decide +kernel) (fun x9 => ?_)
            refine sX_aload_n (i := 0) (by decide +kernel) rfl ?_
            refine sX_getR lf_X11_38 tk_11_4 (by decide +kernel) (fun x10 => ?_)
            refine sX_getI lf_X11_149 tk_8_1 (by decide +kernel) (fun x11 => ?_)
            refine sX_iload (i := 4) (by decide +kernel) rfl ?_
            refine sX_ior (by decide +kernel) ?_
            refine sX_iconst (n := -1) (v := (-1 : Int32)) (by decide +kernel) (by decide) ?_
            refine sX_aload_n (i := 0) (by decide +kernel) rfl ?_
            refine sX_getR lf_X11_65 tk_11_11 (by decide +kernel) (fun x12 => ?_)
            refine sX_callVv (As := [.ref x9, .int (x11 ||| v4), .int (-1 : Int32), .ref x12]) (by decide +kernel) lm_X11_340 mf_X4_close mi_X4_close mc_4 (m_X4_close G l x8 x9 ((x11 ||| v4)) ((-1 : Int32)) x12 M) (fun _ h => sRc_some h) (by decide) rfl rfl (Nat.le_of_ble_eq_true rfl) (fun M13 => ?_)
            refine sX_aload_n (i := 0) (by decide +kernel) rfl ?_
            refine sX_getR lf_X11_54 tk_11_9 (by decide +kernel) (fun x14 => ?_)
            refine sX_aload_n (i := 0) (by decide +kernel) rfl ?_
            refine sX_getR lf_X11_38 tk_11_4 (by decide +kernel) (fun x15 => ?_)
            refine sX_iload_n (i := 1) (by decide +kernel) rfl ?_
            refine sX_aload_n (i := 0) (by decide +kernel) rfl ?_
            refine sX_getR lf_X11_28 tk_11_2 (by decide +kernel) (fun x16 => ?_)
            refine sX_getR lf_X11_143 tk_1_5 (by decide +kernel) (fun x17 => ?_)
            refine sX_iload_n (i := 1) (by decide +kernel) rfl ?_
            refine sX_iconst (n := 2) (v := (2 : Int32)) (by decide +kernel) (by decide) ?_
            refine sX_callVp (As := [.int v1, .int (2 : Int32)]) (by decide +kernel) lm_X11_168 mf_X9_cell mi_X9_cell mc_9 (m_X9_cell G l x17 v1 ((2 : Int32)) M13) (fun _ h => sRc_some h) (by decide) rfl rfl (Nat.le_of_ble_eq_true rfl) (fun x18 => ?_)
            refine sX_aload_n (i := 0) (by decide +kernel) rfl ?_
            refine sX_getR lf_X11_65 tk_11_11 (by decide +kernel) (fun x19 => ?_)
            refine sX_callV (As := [.ref x15, .int v1, .int x18, .ref x19]) (by decide +kernel) lm_X11_236 mf_X0_arrivalFrom mi_X0_arrivalFrom mc_0 (m_X0_arrivalFrom G l x14 x15 v1 x18 x19 M13) (fun _ h => sRc_some h) (by decide) rfl rfl (Nat.le_of_ble_eq_true rfl) (fun x20 M21 _ => ?_)
            refine sX_istore (i := 5) (ls2 := [some (.ref v0), some (.int v1), some (.int v2), some (.int v3), some (.int v4), some (.int x20)]) (by decide +kernel) (by decide) rfl ?_
            exact sX.le (xB104 v4 x20 M21) (sLe_s (sLe_s (sLe_s (sLe_s (sLe_s (sLe_s sLe_e))))))
          · refine sX_goto (o := 77) (t := 119) (by decide +kernel) (by decide) ?_
            exact sX.le (xB119 v4 M) (sLe_s (sLe_s (sLe_s (sLe_s (sLe_s (sLe_n sLe_e))))))
        · exact sX.le (xB119 v4 M) (sLe_s (sLe_s (sLe_s (sLe_s (sLe_s (sLe_n sLe_e))))))
    exact fun a => xK3 a.1 a.2
  refine sX_rc ?_
  refine sX_iconst (n := 0) (v := (0 : Int32)) (by decide +kernel) (by decide) ?_
  refine sX_istore (i := 4) (ls2 := [some (.ref v0), some (.int v1), some (.int v2), some (.int v3), some (.int (0 : Int32)), none]) (by decide +kernel) (by decide) rfl ?_
  exact sX.le (xL3 v0 v1 v2 v3 ((0 : Int32)) M0) (sLe_s (sLe_s (sLe_s (sLe_s (sLe_s (sLe_n sLe_e))))))
def f_X11_lift_K25 (v0 : Nat) (v1 : Int32) (v2 : Int32) (v3 : Int32) (M : sMem) : Option ((Int32 × sMem) ⊕ (((Int32 × sMem)))) :=
  (gR 11 20 2 M v0).bind fun x1 =>
  (gR 1 10 1 M x1).bind fun x2 =>
  (gI 9 4 3 M x2).bind fun x3 =>
  if x3 < v3 then
    some (.inr (((-1 : Int32), M)))
  else
    (f_X11_leastLift v0 v1 v2 v3 M).bind fun (x4, M5) =>
    if x4 = (-1 : Int32) then
      some (.inl ((((v3 + (1 : Int32))), M5)))
    else
      some (.inr ((x4, M5)))
def f_X11_lift_L25 (v0 : Nat) (v1 : Int32) (v2 : Int32) (v3 : Int32) (M : sMem) : Option (Int32 × sMem) :=
  (sItr (fun a : (Int32 × sMem) => f_X11_lift_K25 v0 v1 v2 a.1 a.2) sFuel (v3, M)).bind (fun b => some b)
def f_X11_lift (v0 : Nat) (v1 : Int32) (v2 : Int32) (M0 : sMem) : Option (Int32 × sMem) :=
  sRc 11 20 M0 v0 (
    (gR 11 20 2 M0 v0).bind fun x6 =>
    (gR 1 10 5 M0 x6).bind fun x7 =>
    (f_X9_isThere x7 v1 M0).bind fun x8 =>
    if x8 = 0 then
      some (((-1 : Int32), M0))
    else
      (f_X11_isMinute v2 M0).bind fun x9 =>
      if x9 = 0 then
        some (((-1 : Int32), M0))
      else
        f_X11_lift_L25 v0 v1 v2 ((0 : Int32)) M0)
set_option maxRecDepth 100000 in
set_option maxHeartbeats 4000000 in
theorem m_X11_lift (G : sG) (l : Launch) (v0 : Nat) (v1 : Int32) (v2 : Int32) (M0 : sMem) : sC G l 7 yX11_lift cX11_lift 5 (some .int) [.ref v0, .int v1, .int v2] M0 rvI (f_X11_lift v0 v1 v2 M0) := by
  refine sC_m (ls := [some (.ref v0), some (.int v1), some (.int v2), none, none]) (by decide +kernel) rfl (Nat.le_of_ble_eq_true rfl) (fun r M' K hr => ?_)
  unfold f_X11_lift
  have xL25 : ∀ (v0 : Nat) (v1 : Int32) (v2 : Int32) (v3 : Int32) (M : sMem), sX G l 7 yX11_lift cX11_lift 5 (some .int) M0 r M' 25 [some (.ref v0), some (.int v1), some (.int v2), some (.int v3), none] [] M (f_X11_lift_L25 v0 v1 v2 v3 M) K := by
    intro v0 v1 v2 v3 M
    unfold f_X11_lift_L25
    refine sX_bind ?_
    refine sX_loop (LS := fun a : (Int32 × sMem) => [some (.ref v0), some (.int v1), some (.int v2), some (.int a.1), none]) (MM := fun a => a.2) (fun K1 hb1 he1 => ?_) sFuel ((v3, M))
    have xK25 : ∀ (v3 : Int32) (M : sMem), sX G l 7 yX11_lift cX11_lift 5 (some .int) M0 r M' 25 [some (.ref v0), some (.int v1), some (.int v2), some (.int v3), none] [] M (f_X11_lift_K25 v0 v1 v2 v3 M) K1 := by
      intro v3 M
      unfold f_X11_lift_K25
      refine sX_iload_n (i := 3) (by decide +kernel) rfl ?_
      refine sX_aload_n (i := 0) (by decide +kernel) rfl ?_
      refine sX_getR lf_X11_28 tk_11_2 (by decide +kernel) (fun x1 => ?_)
      refine sX_getR lf_X11_125 tk_1_1 (by decide +kernel) (fun x2 => ?_)
      refine sX_getI lf_X11_129 tk_9_3 (by decide +kernel) (fun x3 => ?_)
      refine sX_icgt (o := 27) (t := 63) (by decide +kernel) (by decide) (fun _ => ?_) (fun _ => ?_)
      · refine sX_iconst (n := -1) (v := (-1 : Int32)) (by decide +kernel) (by decide) ?_
        refine sX_exit he1 ?_
        exact sX_some (fun h _ => sW_iret (by decide +kernel) rfl (hr _ h).1.symm (hr _ h).2.symm)
      · refine sX_aload_n (i := 0) (by decide +kernel) rfl ?_
        refine sX_iload_n (i := 1) (by decide +kernel) rfl ?_
        refine sX_iload_n (i := 2) (by decide +kernel) rfl ?_
        refine sX_iload_n (i := 3) (by decide +kernel) rfl ?_
        refine sX_callV (As := [.int v1, .int v2, .int v3]) (by decide +kernel) lm_X11_233 mf_X11_leastLift mi_X11_leastLift mc_11 (m_X11_leastLift G l v0 v1 v2 v3 M) (fun _ h => sRc_some h) (by decide) rfl rfl (Nat.le_of_ble_eq_true rfl) (fun x4 M5 _ => ?_)
        refine sX_istore (i := 4) (ls2 := [some (.ref v0), some (.int v1), some (.int v2), some (.int v3), some (.int x4)]) (by decide +kernel) (by decide) rfl ?_
        refine sX_iload (i := 4) (by decide +kernel) rfl ?_
        refine sX_iconst (n := -1) (v := (-1 : Int32)) (by decide +kernel) (by decide) ?_
        refine sX_iceq (o := 6) (t := 57) (by decide +kernel) (by decide) (fun _ => ?_) (fun _ => ?_)
        · refine sX_iinc (i := 3) (n := 1) (v := v3 + (1 : Int32)) (ls2 := [some (.ref v0), some (.int v1), some (.int v2), some (.int (v3 + (1 : Int32))), some (.int x4)]) (by decide +kernel) rfl rfl (by decide) rfl ?_
          refine sX_goto (o := -35) (t := 25) (by decide +kernel) (by decide) ?_
          exact sX_back (a := (((v3 + (1 : Int32))), M5)) hb1 rfl (sLe_s (sLe_s (sLe_s (sLe_s (sLe_n sLe_e)))))
        · refine sX_iload (i := 4) (by decide +kernel) rfl ?_
          refine sX_exit he1 ?_
          exact sX_some (fun h _ => sW_iret (by decide +kernel) rfl (hr _ h).1.symm (hr _ h).2.symm)
    exact fun a => xK25 a.1 a.2
  refine sX_rc ?_
  refine sX_aload_n (i := 0) (by decide +kernel) rfl ?_
  refine sX_getR lf_X11_28 tk_11_2 (by decide +kernel) (fun x6 => ?_)
  refine sX_getR lf_X11_143 tk_1_5 (by decide +kernel) (fun x7 => ?_)
  refine sX_iload_n (i := 1) (by decide +kernel) rfl ?_
  refine sX_callVp (As := [.int v1]) (by decide +kernel) lm_X11_164 mf_X9_isThere mi_X9_isThere mc_9 (m_X9_isThere G l x7 v1 M0) (fun _ h => sRc_some h) (by decide) rfl rfl (Nat.le_of_ble_eq_true rfl) (fun x8 => ?_)
  refine sX_ifeq (o := 10) (t := 21) (by decide +kernel) (by decide) (fun _ => ?_) (fun _ => ?_)
  · refine sX_iconst (n := -1) (v := (-1 : Int32)) (by decide +kernel) (by decide) ?_
    exact sX_some (fun h _ => sW_iret (by decide +kernel) rfl (hr _ h).1.symm (hr _ h).2.symm)
  · refine sX_iload_n (i := 2) (by decide +kernel) rfl ?_
    refine sX_callSp (As := [.int v2]) (by decide +kernel) lm_X11_189 mf_X11_isMinute ms_X11_isMinute (m_X11_isMinute G l v2 M0) (by decide) rfl rfl (Nat.le_of_ble_eq_true rfl) (fun x9 => ?_)
    refine sX_ifne (o := 5) (t := 23) (by decide +kernel) (by decide) (fun _ => ?_) (fun _ => ?_)
    · refine sX_iconst (n := -1) (v := (-1 : Int32)) (by decide +kernel) (by decide) ?_
      exact sX_some (fun h _ => sW_iret (by decide +kernel) rfl (hr _ h).1.symm (hr _ h).2.symm)
    · refine sX_iconst (n := 0) (v := (0 : Int32)) (by decide +kernel) (by decide) ?_
      refine sX_istore_n (i := 3) (ls2 := [some (.ref v0), some (.int v1), some (.int v2), some (.int (0 : Int32)), none]) (by decide +kernel) (by decide) rfl ?_
      exact sX.le (xL25 v0 v1 v2 ((0 : Int32)) M0) (sLe_s (sLe_s (sLe_s (sLe_s (sLe_n sLe_e)))))
def f_X11_leave_B101 (v2 : Int32) (v3 : Int32) (v4 : Int32) (M : sMem) : Option (Int32 × sMem) :=
  if v2 = 0 then
    some ((v3, M))
  else
    some ((v4, M))
def f_X11_leave_B95 (v0 : Nat) (v1 : Int32) (v2 : Int32) (v3 : Int32) (v4 : Int32) (v5 : Int32) (M : sMem) : Option ((Int32 × Int32 × Int32 × sMem) ⊕ ((Int32 × Int32 × sMem))) :=
  some (.inl ((v3, v4, ((v5 + (1 : Int32))), M)))
def f_X11_leave_B85 (v0 : Nat) (v1 : Int32) (v2 : Int32) (v5 : Int32) (v6 : Int32) (M : sMem) : Option ((Int32 × Int32 × Int32 × sMem) ⊕ ((Int32 × Int32 × sMem))) :=
  f_X11_leave_B95 v0 v1 v2 v5 ((v6 - v5)) v5 M
def f_X11_leave_K37 (v0 : Nat) (v1 : Int32) (v2 : Int32) (v3 : Int32) (v4 : Int32) (v5 : Int32) (M : sMem) : Option ((Int32 × Int32 × Int32 × sMem) ⊕ ((Int32 × Int32 × sMem))) :=
  if (99 : Int32) < v5 then
    some (.inr ((v3, v4, M)))
  else
    (gR 11 20 9 M v0).bind fun x1 =>
    (gR 11 20 4 M v0).bind fun x2 =>
    (gR 11 20 11 M v0).bind fun x3 =>
    (f_X0_arrivalFrom x1 x2 v1 v5 x3 M).bind fun (x4, M5) =>
    if x4 = (-1 : Int32) then
      f_X11_leave_B95 v0 v1 v2 v3 v4 v5 M5
    else
      if v3 = (-1 : Int32) then
        f_X11_leave_B85 v0 v1 v2 v5 x4 M5
      else
        if v4 ≤ (x4 - v5) then
          f_X11_leave_B95 v0 v1 v2 v3 v4 v5 M5
        else
          f_X11_leave_B85 v0 v1 v2 v5 x4 M5
def f_X11_leave_L37 (v0 : Nat) (v1 : Int32) (v2 : Int32) (v3 : Int32) (v4 : Int32) (v5 : Int32) (M : sMem) : Option (Int32 × sMem) :=
  (sItr (fun a : (Int32 × Int32 × Int32 × sMem) => f_X11_leave_K37 v0 v1 v2 a.1 a.2.1 a.2.2.1 a.2.2.2) sFuel (v3, v4, v5, M)).bind (fun b => f_X11_leave_B101 v2 b.1 b.2.1 b.2.2)
def f_X11_leave (v0 : Nat) (v1 : Int32) (v2 : Int32) (M0 : sMem) : Option (Int32 × sMem) :=
  sRc 11 20 M0 v0 (
    (gR 11 20 2 M0 v0).bind fun x6 =>
    (gR 1 10 5 M0 x6).bind fun x7 =>
    (f_X9_isThere x7 v1 M0).bind fun x8 =>
    if x8 = 0 then
      some (((-1 : Int32), M0))
    else
      if v2 < 0 then
        some (((-1 : Int32), M0))
      else
        if v2 ≤ (1 : Int32) then
          (f_X11_closeNow v0 M0).bind fun M9 =>
          f_X11_leave_L37 v0 v1 v2 ((-1 : Int32)) ((-1 : Int32)) ((0 : Int32)) M9
        else
          some (((-1 : Int32), M0)))
set_option maxRecDepth 100000 in
set_option maxHeartbeats 4000000 in
theorem m_X11_leave (G : sG) (l : Launch) (v0 : Nat) (v1 : Int32) (v2 : Int32) (M0 : sMem) : sC G l 7 yX11_leave cX11_leave 7 (some .int) [.ref v0, .int v1, .int v2] M0 rvI (f_X11_leave v0 v1 v2 M0) := by
  refine sC_m (ls := [some (.ref v0), some (.int v1), some (.int v2), none, none, none, none]) (by decide +kernel) rfl (Nat.le_of_ble_eq_true rfl) (fun r M' K hr => ?_)
  unfold f_X11_leave
  have xB101 : ∀ (v2 : Int32) (v3 : Int32) (v4 : Int32) (M : sMem), sX G l 7 yX11_leave cX11_leave 7 (some .int) M0 r M' 101 [none, none, some (.int v2), some (.int v3), some (.int v4), none, none] [] M (f_X11_leave_B101 v2 v3 v4 M) K := by
    intro v2 v3 v4 M
    unfold f_X11_leave_B101
    refine sX_iload_n (i := 2) (by decide +kernel) rfl ?_
    refine sX_ifne (o := 7) (t := 109) (by decide +kernel) (by decide) (fun _ => ?_) (fun _ => ?_)
    · refine sX_iload_n (i := 3) (by decide +kernel) rfl ?_
      refine sX_goto (o := 5) (t := 111) (by decide +kernel) (by decide) ?_
      exact sX_some (fun h _ => sW_iret (by decide +kernel) rfl (hr _ h).1.symm (hr _ h).2.symm)
    · refine sX_iload (i := 4) (by decide +kernel) rfl ?_
      exact sX_some (fun h _ => sW_iret (by decide +kernel) rfl (hr _ h).1.symm (hr _ h).2.symm)
  have xL37 : ∀ (v0 : Nat) (v1 : Int32) (v2 : Int32) (v3 : Int32) (v4 : Int32) (v5 : Int32) (M : sMem), sX G l 7 yX11_leave cX11_leave 7 (some .int) M0 r M' 37 [some (.ref v0), some (.int v1), some (.int v2), some (.int v3), some (.int v4), some (.int v5), none] [] M (f_X11_leave_L37 v0 v1 v2 v3 v4 v5 M) K := by
    intro v0 v1 v2 v3 v4 v5 M
    unfold f_X11_leave_L37
    refine sX_bind ?_
    refine sX_loop (LS := fun a : (Int32 × Int32 × Int32 × sMem) => [some (.ref v0), some (.int v1), some (.int v2), some (.int a.1), some (.int a.2.1), some (.int a.2.2.1), none]) (MM := fun a => a.2.2.2) (fun K1 hb1 he1 => ?_) sFuel ((v3, v4, v5, M))
    have xB95 : ∀ (v3 : Int32) (v4 : Int32) (v5 : Int32) (M : sMem), sX G l 7 yX11_leave cX11_leave 7 (some .int) M0 r M' 95 [some (.ref v0), some (.int v1), some (.int v2), some (.int v3), some (.int v4), some (.int v5), none] [] M (f_X11_leave_B95 v0 v1 v2 v3 v4 v5 M) K1 := by
      intro v3 v4 v5 M
      unfold f_X11_leave_B95
      refine sX_iinc (i := 5) (n := 1) (v := v5 + (1 : Int32)) (ls2 := [some (.ref v0), some (.int v1), some (.int v2), some (.int v3), some (.int v4), some (.int (v5 + (1 : Int32))), none]) (by decide +kernel) rfl rfl (by decide) rfl ?_
      refine sX_goto (o := -61) (t := 37) (by decide +kernel) (by decide) ?_
      exact sX_back (a := (v3, v4, ((v5 + (1 : Int32))), M)) hb1 rfl (sLe_s (sLe_s (sLe_s (sLe_s (sLe_s (sLe_s (sLe_n sLe_e)))))))
    have xB85 : ∀ (v5 : Int32) (v6 : Int32) (M : sMem), sX G l 7 yX11_leave cX11_leave 7 (some .int) M0 r M' 85 [some (.ref v0), some (.int v1), some (.int v2), none, none, some (.int v5), some (.int v6)] [] M (f_X11_leave_B85 v0 v1 v2 v5 v6 M) K1 := by
      intro v5 v6 M
      unfold f_X11_leave_B85
      refine sX_iload (i := 5) (by decide +kernel) rfl ?_
      refine sX_istore_n (i := 3) (ls2 := [some (.ref v0), some (.int v1), some (.int v2), some (.int v5), none, some (.int v5), some (.int v6)]) (by decide +kernel) (by decide) rfl ?_
      refine sX_iload (i := 6) (by decide +kernel) rfl ?_
      refine sX_iload (i := 5) (by decide +kernel) rfl ?_
      refine sX_isub (by decide +kernel) ?_
      refine sX_istore (i := 4) (ls2 := [some (.ref v0), some (.int v1), some (.int v2), some (.int v5), some (.int (v6 - v5)), some (.int v5), some (.int v6)]) (by decide +kernel) (by decide) rfl ?_
      exact sX.le (xB95 v5 ((v6 - v5)) v5 M) (sLe_s (sLe_s (sLe_s (sLe_s (sLe_s (sLe_s (sLe_n sLe_e)))))))
    have xK37 : ∀ (v3 : Int32) (v4 : Int32) (v5 : Int32) (M : sMem), sX G l 7 yX11_leave cX11_leave 7 (some .int) M0 r M' 37 [some (.ref v0), some (.int v1), some (.int v2), some (.int v3), some (.int v4), some (.int v5), none] [] M (f_X11_leave_K37 v0 v1 v2 v3 v4 v5 M) K1 := by
      intro v3 v4 v5 M
      unfold f_X11_leave_K37
      refine sX_iload (i := 5) (by decide +kernel) rfl ?_
      refine sX_bipush (n := 99) (v := (99 : Int32)) (by decide +kernel) (by decide) ?_
      refine sX_icgt (o := 60) (t := 101) (by decide +kernel) (by decide) (fun _ => ?_) (fun _ => ?_)
      · refine sX_exit he1 ?_
        exact sX.le (xB101 v2 v3 v4 M) (sLe_n (sLe_n (sLe_s (sLe_s (sLe_s (sLe_n (sLe_n sLe_e)))))))
      · refine sX_aload_n (i := 0) (by decide +kernel) rfl ?_
        refine sX_getR lf_X11_54 tk_11_9 (by decide +kernel) (fun x1 => ?_)
        refine sX_aload_n (i := 0) (by decide +kernel) rfl ?_
        refine sX_getR lf_X11_38 tk_11_4 (by decide +kernel) (fun x2 => ?_)
        refine sX_iload_n (i := 1) (by decide +kernel) rfl ?_
        refine sX_iload (i := 5) (by decide +kernel) rfl ?_
        refine sX_aload_n (i := 0) (by decide +kernel) rfl ?_
        refine sX_getR lf_X11_65 tk_11_11 (by decide +kernel) (fun x3 => ?_)
        refine sX_callV (As := [.ref x2, .int v1, .int v5, .ref x3]) (by decide +kernel) lm_X11_236 mf_X0_arrivalFrom mi_X0_arrivalFrom mc_0 (m_X0_arrivalFrom G l x1 x2 v1 v5 x3 M) (fun _ h => sRc_some h) (by decide) rfl rfl (Nat.le_of_ble_eq_true rfl) (fun x4 M5 _ => ?_)
        refine sX_istore (i := 6) (ls2 := [some (.ref v0), some (.int v1), some (.int v2), some (.int v3), some (.int v4), some (.int v5), some (.int x4)]) (by decide +kernel) (by decide) rfl ?_
        refine sX_iload (i := 6) (by decide +kernel) rfl ?_
        refine sX_iconst (n := -1) (v := (-1 : Int32)) (by decide +kernel) (by decide) ?_
        refine sX_iceq (o := 28) (t := 95) (by decide +kernel) (by decide) (fun _ => ?_) (fun _ => ?_)
        · exact sX.le (xB95 v3 v4 v5 M5) (sLe_s (sLe_s (sLe_s (sLe_s (sLe_s (sLe_s (sLe_n sLe_e)))))))
        · refine sX_iload_n (i := 3) (by decide +kernel) rfl ?_
          refine sX_iconst (n := -1) (v := (-1 : Int32)) (by decide +kernel) (by decide) ?_
          refine sX_iceq (o := 13) (t := 85) (by decide +kernel) (by decide) (fun _ => ?_) (fun _ => ?_)
          · exact sX.le (xB85 v5 x4 M5) (sLe_s (sLe_s (sLe_s (sLe_n (sLe_n (sLe_s (sLe_s sLe_e)))))))
          · refine sX_iload (i := 6) (by decide +kernel) rfl ?_
            refine sX_iload (i := 5) (by decide +kernel) rfl ?_
            refine sX_isub (by decide +kernel) ?_
            refine sX_iload (i := 4) (by decide +kernel) rfl ?_
            refine sX_icge (o := 13) (t := 95) (by decide +kernel) (by decide) (fun _ => ?_) (fun _ => ?_)
            · exact sX.le (xB95 v3 v4 v5 M5) (sLe_s (sLe_s (sLe_s (sLe_s (sLe_s (sLe_s (sLe_n sLe_e)))))))
            · exact sX.le (xB85 v5 x4 M5) (sLe_s (sLe_s (sLe_s (sLe_n (sLe_n (sLe_s (sLe_s sLe_e)))))))
    exact fun a => xK37 a.1 a.2.1 a.2.2.1 a.2.2.2
  refine sX_rc ?_
  refine sX_aload_n (i := 0) (by decide +kernel) rfl ?_
  refine sX_getR lf_X11_28 tk_11_2 (by decide +kernel) (fun x6 => ?_)
  refine sX_getR lf_X11_143 tk_1_5 (by decide +kernel) (fun x7 => ?_)
  refine sX_iload_n (i := 1) (by decide +kernel) rfl ?_
  refine sX_callVp (As := [.int v1]) (by decide +kernel) lm_X11_164 mf_X9_isThere mi_X9_isThere mc_9 (m_X9_isThere G l x7 v1 M0) (fun _ h => sRc_some h) (by decide) rfl rfl (Nat.le_of_ble_eq_true rfl) (fun x8 => ?_)
  refine sX_ifeq (o := 12) (t := 23) (by decide +kernel) (by decide) (fun _ => ?_) (fun _ => ?_)
  · refine sX_iconst (n := -1) (v := (-1 : Int32)) (by decide +kernel) (by decide) ?_
    exact sX_some (fun h _ => sW_iret (by decide +kernel) rfl (hr _ h).1.symm (hr _ h).2.symm)
  · refine sX_iload_n (i := 2) (by decide +kernel) rfl ?_
    refine sX_iflt (o := 8) (t := 23) (by decide +kernel) (by decide) (fun _ => ?_) (fun _ => ?_)
    · refine sX_iconst (n := -1) (v := (-1 : Int32)) (by decide +kernel) (by decide) ?_
      exact sX_some (fun h _ => sW_iret (by decide +kernel) rfl (hr _ h).1.symm (hr _ h).2.symm)
    · refine sX_iload_n (i := 2) (by decide +kernel) rfl ?_
      refine sX_iconst (n := 1) (v := (1 : Int32)) (by decide +kernel) (by decide) ?_
      refine sX_icle (o := 5) (t := 25) (by decide +kernel) (by decide) (fun _ => ?_) (fun _ => ?_)
      · refine sX_aload_n (i := 0) (by decide +kernel) rfl ?_
        refine sX_callVv (As := []) (by decide +kernel) lm_X11_202 mf_X11_closeNow mi_X11_closeNow mc_11 (m_X11_closeNow G l v0 M0) (fun _ h => sRc_some h) (by decide) rfl rfl (Nat.le_of_ble_eq_true rfl) (fun M9 => ?_)
        refine sX_iconst (n := -1) (v := (-1 : Int32)) (by decide +kernel) (by decide) ?_
        refine sX_istore_n (i := 3) (ls2 := [some (.ref v0), some (.int v1), some (.int v2), some (.int (-1 : Int32)), none, none, none]) (by decide +kernel) (by decide) rfl ?_
        refine sX_iconst (n := -1) (v := (-1 : Int32)) (by decide +kernel) (by decide) ?_
        refine sX_istore (i := 4) (ls2 := [some (.ref v0), some (.int v1), some (.int v2), some (.int (-1 : Int32)), some (.int (-1 : Int32)), none, none]) (by decide +kernel) (by decide) rfl ?_
        refine sX_iconst (n := 0) (v := (0 : Int32)) (by decide +kernel) (by decide) ?_
        refine sX_istore (i := 5) (ls2 := [some (.ref v0), some (.int v1), some (.int v2), some (.int (-1 : Int32)), some (.int (-1 : Int32)), some (.int (0 : Int32)), none]) (by decide +kernel) (by decide) rfl ?_
        exact sX.le (xL37 v0 v1 v2 ((-1 : Int32)) ((-1 : Int32)) ((0 : Int32)) M9) (sLe_s (sLe_s (sLe_s (sLe_s (sLe_s (sLe_s (sLe_n sLe_e)))))))
      · refine sX_iconst (n := -1) (v := (-1 : Int32)) (by decide +kernel) (by decide) ?_
        exact sX_some (fun h _ => sW_iret (by decide +kernel) rfl (hr _ h).1.symm (hr _ h).2.symm)
def f_X11_firstClosed_K2 (v0 : Nat) (v1 : Int32) (v3 : Int32) (M0 : sMem) : Option ((Int32) ⊕ ((Int32))) :=
  if (200 : Int32) ≤ v3 then
    some (.inr ((-1 : Int32)))
  else
    (f_X11_isMarked v0 v1 v3 M0).bind fun x1 =>
    if x1 = 0 then
      some (.inl (((v3 + (1 : Int32)))))
    else
      some (.inr v3)
def f_X11_firstClosed_L2 (v0 : Nat) (v1 : Int32) (v3 : Int32) (M0 : sMem) : Option Int32 :=
  (sItr (fun a : (Int32) => f_X11_firstClosed_K2 v0 v1 a M0) sFuel v3).bind (fun b => some b)
def f_X11_firstClosed (v0 : Nat) (v1 : Int32) (v2 : Int32) (M0 : sMem) : Option Int32 :=
  f_X11_firstClosed_L2 v0 v1 v2 M0
set_option maxRecDepth 100000 in
set_option maxHeartbeats 4000000 in
theorem m_X11_firstClosed (G : sG) (l : Launch) (v0 : Nat) (v1 : Int32) (v2 : Int32) (M0 : sMem) : sCp G l 2 yX11_firstClosed cX11_firstClosed 4 (some .int) [.ref v0, .int v1, .int v2] M0 rvI (f_X11_firstClosed v0 v1 v2 M0) := by
  refine sC_p (ls := [some (.ref v0), some (.int v1), some (.int v2), none]) (by decide +kernel) rfl (Nat.le_of_ble_eq_true rfl) (fun r M' K hr => ?_)
  unfold f_X11_firstClosed
  have xL2 : ∀ (v0 : Nat) (v1 : Int32) (v3 : Int32), sX G l 2 yX11_firstClosed cX11_firstClosed 4 (some .int) M0 r M' 2 [some (.ref v0), some (.int v1), none, some (.int v3)] [] M0 (f_X11_firstClosed_L2 v0 v1 v3 M0) K := by
    intro v0 v1 v3
    unfold f_X11_firstClosed_L2
    refine sX_bind ?_
    refine sX_loop (LS := fun a : (Int32) => [some (.ref v0), some (.int v1), none, some (.int a)]) (MM := fun a => M0) (fun K1 hb1 he1 => ?_) sFuel v3
    have xK2 : ∀ (v3 : Int32), sX G l 2 yX11_firstClosed cX11_firstClosed 4 (some .int) M0 r M' 2 [some (.ref v0), some (.int v1), none, some (.int v3)] [] M0 (f_X11_firstClosed_K2 v0 v1 v3 M0) K1 := by
      intro v3
      unfold f_X11_firstClosed_K2
      refine sX_iload_n (i := 3) (by decide +kernel) rfl ?_
      refine sX_sipush (n := 200) (v := (200 : Int32)) (by decide +kernel) (by decide) ?_
      refine sX_icge (o := 20) (t := 26) (by decide +kernel) (by decide) (fun _ => ?_) (fun _ => ?_)
      · refine sX_iconst (n := -1) (v := (-1 : Int32)) (by decide +kernel) (by decide) ?_
        refine sX_exit he1 ?_
        exact sX_some (fun h _ => sW_iret (by decide +kernel) rfl (hr _ h).1.symm (hr _ h).2.symm)
      · refine sX_aload_n (i := 0) (by decide +kernel) rfl ?_
        refine sX_iload_n (i := 1) (by decide +kernel) rfl ?_
        refine sX_iload_n (i := 3) (by decide +kernel) rfl ?_
        refine sX_callSp (As := [.ref v0, .int v1, .int v3]) (by decide +kernel) lm_X11_205 mf_X11_isMarked ms_X11_isMarked (m_X11_isMarked G l v0 v1 v3 M0) (by decide) rfl rfl (Nat.le_of_ble_eq_true rfl) (fun x1 => ?_)
        refine sX_ifeq (o := 5) (t := 20) (by decide +kernel) (by decide) (fun _ => ?_) (fun _ => ?_)
        · refine sX_iinc (i := 3) (n := 1) (v := v3 + (1 : Int32)) (ls2 := [some (.ref v0), some (.int v1), none, some (.int (v3 + (1 : Int32)))]) (by decide +kernel) rfl rfl (by decide) rfl ?_
          refine sX_goto (o := -21) (t := 2) (by decide +kernel) (by decide) ?_
          exact sX_back (a := ((v3 + (1 : Int32)))) hb1 rfl (sLe_s (sLe_s (sLe_n (sLe_s sLe_e))))
        · refine sX_iload_n (i := 3) (by decide +kernel) rfl ?_
          refine sX_exit he1 ?_
          exact sX_some (fun h _ => sW_iret (by decide +kernel) rfl (hr _ h).1.symm (hr _ h).2.symm)
    exact fun a => xK2 a
  refine sX_iload_n (i := 2) (by decide +kernel) rfl ?_
  refine sX_istore_n (i := 3) (ls2 := [some (.ref v0), some (.int v1), some (.int v2), some (.int v2)]) (by decide +kernel) (by decide) rfl ?_
  exact sX.le (xL2 v0 v1 v2) (sLe_s (sLe_s (sLe_n (sLe_s sLe_e))))
def f_X11_lastOfClosing (v0 : Nat) (v1 : Int32) (v2 : Int32) (M0 : sMem) : Option Int32 :=
  sRc 11 20 M0 v0 (
    (gR 11 20 11 M0 v0).bind fun x1 =>
    (f_X11_firstOpen x1 v1 v2 M0).bind fun x2 =>
    if x2 = (-1 : Int32) then
      some ((199 : Int32))
    else
      some ((x2 - (1 : Int32))))
set_option maxRecDepth 100000 in
set_option maxHeartbeats 4000000 in
theorem m_X11_lastOfClosing (G : sG) (l : Launch) (v0 : Nat) (v1 : Int32) (v2 : Int32) (M0 : sMem) : sCp G l 3 yX11_lastOfClosing cX11_lastOfClosing 4 (some .int) [.ref v0, .int v1, .int v2] M0 rvI (f_X11_lastOfClosing v0 v1 v2 M0) := by
  refine sC_p (ls := [some (.ref v0), some (.int v1), some (.int v2), none]) (by decide +kernel) rfl (Nat.le_of_ble_eq_true rfl) (fun r M' K hr => ?_)
  unfold f_X11_lastOfClosing
  refine sX_rc ?_
  refine sX_aload_n (i := 0) (by decide +kernel) rfl ?_
  refine sX_getR lf_X11_65 tk_11_11 (by decide +kernel) (fun x1 => ?_)
  refine sX_iload_n (i := 1) (by decide +kernel) rfl ?_
  refine sX_iload_n (i := 2) (by decide +kernel) rfl ?_
  refine sX_callSp (As := [.ref x1, .int v1, .int v2]) (by decide +kernel) lm_X11_209 mf_X11_firstOpen ms_X11_firstOpen (m_X11_firstOpen G l x1 v1 v2 M0) (by decide) rfl rfl (Nat.le_of_ble_eq_true rfl) (fun x2 => ?_)
  refine sX_istore_n (i := 3) (ls2 := [some (.ref v0), some (.int v1), some (.int v2), some (.int x2)]) (by decide +kernel) (by decide) rfl ?_
  refine sX_iload_n (i := 3) (by decide +kernel) rfl ?_
  refine sX_iconst (n := -1) (v := (-1 : Int32)) (by decide +kernel) (by decide) ?_
  refine sX_icne (o := 9) (t := 21) (by decide +kernel) (by decide) (fun _ => ?_) (fun _ => ?_)
  · refine sX_sipush (n := 199) (v := (199 : Int32)) (by decide +kernel) (by decide) ?_
    refine sX_goto (o := 6) (t := 24) (by decide +kernel) (by decide) ?_
    exact sX_some (fun h _ => sW_iret (by decide +kernel) rfl (hr _ h).1.symm (hr _ h).2.symm)
  · refine sX_iload_n (i := 3) (by decide +kernel) rfl ?_
    refine sX_iconst (n := 1) (v := (1 : Int32)) (by decide +kernel) (by decide) ?_
    refine sX_isub (by decide +kernel) ?_
    exact sX_some (fun h _ => sW_iret (by decide +kernel) rfl (hr _ h).1.symm (hr _ h).2.symm)
def f_X11_countClosings_K15 (v0 : Nat) (v1 : Int32) (v2 : Int32) (v3 : Int32) (v4 : Int32) (M0 : sMem) : Option ((Int32 × Int32 × Int32) ⊕ ((Int32))) :=
  if (200 : Int32) ≤ v4 then
    some (.inr v2)
  else
    if v3 = (-1 : Int32) then
      some (.inr v2)
    else
      (gR 11 20 11 M0 v0).bind fun x1 =>
      (f_X11_lastOfClosing v0 v1 v3 M0).bind fun x2 =>
      (f_X11_firstClosed x1 v1 ((x2 + (1 : Int32))) M0).bind fun x3 =>
      some (.inl ((((v2 + (1 : Int32))), x3, ((v4 + (1 : Int32))))))
def f_X11_countClosings_L15 (v0 : Nat) (v1 : Int32) (v2 : Int32) (v3 : Int32) (v4 : Int32) (M0 : sMem) : Option Int32 :=
  (sItr (fun a : (Int32 × Int32 × Int32) => f_X11_countClosings_K15 v0 v1 a.1 a.2.1 a.2.2 M0) sFuel (v2, v3, v4)).bind (fun b => some b)
def f_X11_countClosings (v0 : Nat) (v1 : Int32) (M0 : sMem) : Option Int32 :=
  sRc 11 20 M0 v0 (
    (gR 11 20 11 M0 v0).bind fun x4 =>
    (f_X11_firstClosed x4 v1 ((0 : Int32)) M0).bind fun x5 =>
    f_X11_countClosings_L15 v0 v1 ((0 : Int32)) x5 ((0 : Int32)) M0)
set_option maxRecDepth 100000 in
set_option maxHeartbeats 4000000 in
theorem m_X11_countClosings (G : sG) (l : Launch) (v0 : Nat) (v1 : Int32) (M0 : sMem) : sCp G l 4 yX11_countClosings cX11_countClosings 5 (some .int) [.ref v0, .int v1] M0 rvI (f_X11_countClosings v0 v1 M0) := by
  refine sC_p (ls := [some (.ref v0), some (.int v1), none, none, none]) (by decide +kernel) rfl (Nat.le_of_ble_eq_true rfl) (fun r M' K hr => ?_)
  unfold f_X11_countClosings
  have xL15 : ∀ (v0 : Nat) (v1 : Int32) (v2 : Int32) (v3 : Int32) (v4 : Int32), sX G l 4 yX11_countClosings cX11_countClosings 5 (some .int) M0 r M' 15 [some (.ref v0), some (.int v1), some (.int v2), some (.int v3), some (.int v4)] [] M0 (f_X11_countClosings_L15 v0 v1 v2 v3 v4 M0) K := by
    intro v0 v1 v2 v3 v4
    unfold f_X11_countClosings_L15
    refine sX_bind ?_
    refine sX_loop (LS := fun a : (Int32 × Int32 × Int32) => [some (.ref v0), some (.int v1), some (.int a.1), some (.int a.2.1), some (.int a.2.2)]) (MM := fun a => M0) (fun K1 hb1 he1 => ?_) sFuel ((v2, v3, v4))
    have xK15 : ∀ (v2 : Int32) (v3 : Int32) (v4 : Int32), sX G l 4 yX11_countClosings cX11_countClosings 5 (some .int) M0 r M' 15 [some (.ref v0), some (.int v1), some (.int v2), some (.int v3), some (.int v4)] [] M0 (f_X11_countClosings_K15 v0 v1 v2 v3 v4 M0) K1 := by
      intro v2 v3 v4
      unfold f_X11_countClosings_K15
      refine sX_iload (i := 4) (by decide +kernel) rfl ?_
      refine sX_sipush (n := 200) (v := (200 : Int32)) (by decide +kernel) (by decide) ?_
      refine sX_icge (o := 34) (t := 54) (by decide +kernel) (by decide) (fun _ => ?_) (fun _ => ?_)
      · refine sX_iload_n (i := 2) (by decide +kernel) rfl ?_
        refine sX_exit he1 ?_
        exact sX_some (fun h _ => sW_iret (by decide +kernel) rfl (hr _ h).1.symm (hr _ h).2.symm)
      · refine sX_iload_n (i := 3) (by decide +kernel) rfl ?_
        refine sX_iconst (n := -1) (v := (-1 : Int32)) (by decide +kernel) (by decide) ?_
        refine sX_iceq (o := 29) (t := 54) (by decide +kernel) (by decide) (fun _ => ?_) (fun _ => ?_)
        · refine sX_iload_n (i := 2) (by decide +kernel) rfl ?_
          refine sX_exit he1 ?_
          exact sX_some (fun h _ => sW_iret (by decide +kernel) rfl (hr _ h).1.symm (hr _ h).2.symm)
        · refine sX_iinc (i := 2) (n := 1) (v := v2 + (1 : Int32)) (ls2 := [some (.ref v0), some (.int v1), some (.int (v2 + (1 : Int32))), some (.int v3), some (.int v4)]) (by decide +kernel) rfl rfl (by decide) rfl ?_
          refine sX_aload_n (i := 0) (by decide +kernel) rfl ?_
          refine sX_getR lf_X11_65 tk_11_11 (by decide +kernel) (fun x1 => ?_)
          refine sX_iload_n (i := 1) (by decide +kernel) rfl ?_
          refine sX_aload_n (i := 0) (by decide +kernel) rfl ?_
          refine sX_iload_n (i := 1) (by decide +kernel) rfl ?_
          refine sX_iload_n (i := 3) (by decide +kernel) rfl ?_
          refine sX_callVp (As := [.int v1, .int v3]) (by decide +kernel) lm_X11_246 mf_X11_lastOfClosing mi_X11_lastOfClosing mc_11 (m_X11_lastOfClosing G l v0 v1 v3 M0) (fun _ h => sRc_some h) (by decide) rfl rfl (Nat.le_of_ble_eq_true rfl) (fun x2 => ?_)
          refine sX_iconst (n := 1) (v := (1 : Int32)) (by decide +kernel) (by decide) ?_
          refine sX_iadd (by decide +kernel) ?_
          refine sX_callSp (As := [.ref x1, .int v1, .int (x2 + (1 : Int32))]) (by decide +kernel) lm_X11_243 mf_X11_firstClosed ms_X11_firstClosed (m_X11_firstClosed G l x1 v1 ((x2 + (1 : Int32))) M0) (by decide) rfl rfl (Nat.le_of_ble_eq_true rfl) (fun x3 => ?_)
          refine sX_istore_n (i := 3) (ls2 := [some (.ref v0), some (.int v1), some (.int (v2 + (1 : Int32))), some (.int x3), some (.int v4)]) (by decide +kernel) (by decide) rfl ?_
          refine sX_iinc (i := 4) (n := 1) (v := v4 + (1 : Int32)) (ls2 := [some (.ref v0), some (.int v1), some (.int (v2 + (1 : Int32))), some (.int x3), some (.int (v4 + (1 : Int32)))]) (by decide +kernel) rfl rfl (by decide) rfl ?_
          refine sX_goto (o := -36) (t := 15) (by decide +kernel) (by decide) ?_
          exact sX_back (a := (((v2 + (1 : Int32))), x3, ((v4 + (1 : Int32))))) hb1 rfl (sLe_s (sLe_s (sLe_s (sLe_s (sLe_s sLe_e)))))
    exact fun a => xK15 a.1 a.2.1 a.2.2
  refine sX_rc ?_
  refine sX_iconst (n := 0) (v := (0 : Int32)) (by decide +kernel) (by decide) ?_
  refine sX_istore_n (i := 2) (ls2 := [some (.ref v0), some (.int v1), some (.int (0 : Int32)), none, none]) (by decide +kernel) (by decide) rfl ?_
  refine sX_aload_n (i := 0) (by decide +kernel) rfl ?_
  refine sX_getR lf_X11_65 tk_11_11 (by decide +kernel) (fun x4 => ?_)
  refine sX_iload_n (i := 1) (by decide +kernel) rfl ?_
  refine sX_iconst (n := 0) (v := (0 : Int32)) (by decide +kernel) (by decide) ?_
  refine sX_callSp (As := [.ref x4, .int v1, .int (0 : Int32)]) (by decide +kernel) lm_X11_243 mf_X11_firstClosed ms_X11_firstClosed (m_X11_firstClosed G l x4 v1 ((0 : Int32)) M0) (by decide) rfl rfl (Nat.le_of_ble_eq_true rfl) (fun x5 => ?_)
  refine sX_istore_n (i := 3) (ls2 := [some (.ref v0), some (.int v1), some (.int (0 : Int32)), some (.int x5), none]) (by decide +kernel) (by decide) rfl ?_
  refine sX_iconst (n := 0) (v := (0 : Int32)) (by decide +kernel) (by decide) ?_
  refine sX_istore (i := 4) (ls2 := [some (.ref v0), some (.int v1), some (.int (0 : Int32)), some (.int x5), some (.int (0 : Int32))]) (by decide +kernel) (by decide) rfl ?_
  exact sX.le (xL15 v0 v1 ((0 : Int32)) x5 ((0 : Int32))) (sLe_s (sLe_s (sLe_s (sLe_s (sLe_s sLe_e)))))
def f_X11_closings (v0 : Nat) (v1 : Int32) (v2 : Int32) (M0 : sMem) : Option (Int32 × sMem) :=
  sRc 11 20 M0 v0 (
    (gR 11 20 2 M0 v0).bind fun x1 =>
    (gR 1 10 1 M0 x1).bind fun x2 =>
    (f_X9_isThere x2 v1 M0).bind fun x3 =>
    if x3 = 0 then
      some (((-1 : Int32), M0))
    else
      if v2 < 0 then
        some (((-1 : Int32), M0))
      else
        if v2 ≤ (2 : Int32) then
          (f_X11_closeNow v0 M0).bind fun M4 =>
          if v2 = 0 then
            (f_X11_countClosings v0 v1 M4).bind fun x5 =>
            some ((x5, M4))
          else
            (gR 11 20 11 M4 v0).bind fun x6 =>
            (f_X11_firstClosed x6 v1 ((0 : Int32)) M4).bind fun x7 =>
            if v2 = (1 : Int32) then
              some ((x7, M4))
            else
              if x7 = (-1 : Int32) then
                some ((x7, M4))
              else
                (f_X11_lastOfClosing v0 v1 x7 M4).bind fun x8 =>
                some ((x8, M4))
        else
          some (((-1 : Int32), M0)))
set_option maxRecDepth 100000 in
set_option maxHeartbeats 4000000 in
theorem m_X11_closings (G : sG) (l : Launch) (v0 : Nat) (v1 : Int32) (v2 : Int32) (M0 : sMem) : sC G l 7 yX11_closings cX11_closings 4 (some .int) [.ref v0, .int v1, .int v2] M0 rvI (f_X11_closings v0 v1 v2 M0) := by
  refine sC_m (ls := [some (.ref v0), some (.int v1), some (.int v2), none]) (by decide +kernel) rfl (Nat.le_of_ble_eq_true rfl) (fun r M' K hr => ?_)
  unfold f_X11_closings
  refine sX_rc ?_
  refine sX_aload_n (i := 0) (by decide +kernel) rfl ?_
  refine sX_getR lf_X11_28 tk_11_2 (by decide +kernel) (fun x1 => ?_)
  refine sX_getR lf_X11_125 tk_1_1 (by decide +kernel) (fun x2 => ?_)
  refine sX_iload_n (i := 1) (by decide +kernel) rfl ?_
  refine sX_callVp (As := [.int v1]) (by decide +kernel) lm_X11_164 mf_X9_isThere mi_X9_isThere mc_9 (m_X9_isThere G l x2 v1 M0) (fun _ h => sRc_some h) (by decide) rfl rfl (Nat.le_of_ble_eq_true rfl) (fun x3 => ?_)
  refine sX_ifeq (o := 12) (t := 23) (by decide +kernel) (by decide) (fun _ => ?_) (fun _ => ?_)
  · refine sX_iconst (n := -1) (v := (-1 : Int32)) (by decide +kernel) (by decide) ?_
    exact sX_some (fun h _ => sW_iret (by decide +kernel) rfl (hr _ h).1.symm (hr _ h).2.symm)
  · refine sX_iload_n (i := 2) (by decide +kernel) rfl ?_
    refine sX_iflt (o := 8) (t := 23) (by decide +kernel) (by decide) (fun _ => ?_) (fun _ => ?_)
    · refine sX_iconst (n := -1) (v := (-1 : Int32)) (by decide +kernel) (by decide) ?_
      exact sX_some (fun h _ => sW_iret (by decide +kernel) rfl (hr _ h).1.symm (hr _ h).2.symm)
    · refine sX_iload_n (i := 2) (by decide +kernel) rfl ?_
      refine sX_iconst (n := 2) (v := (2 : Int32)) (by decide +kernel) (by decide) ?_
      refine sX_icle (o := 5) (t := 25) (by decide +kernel) (by decide) (fun _ => ?_) (fun _ => ?_)
      · refine sX_aload_n (i := 0) (by decide +kernel) rfl ?_
        refine sX_callVv (As := []) (by decide +kernel) lm_X11_202 mf_X11_closeNow mi_X11_closeNow mc_11 (m_X11_closeNow G l v0 M0) (fun _ h => sRc_some h) (by decide) rfl rfl (Nat.le_of_ble_eq_true rfl) (fun M4 => ?_)
        refine sX_iload_n (i := 2) (by decide +kernel) rfl ?_
        refine sX_ifne (o := 9) (t := 39) (by decide +kernel) (by decide) (fun _ => ?_) (fun _ => ?_)
        · refine sX_aload_n (i := 0) (by decide +kernel) rfl ?_
          refine sX_iload_n (i := 1) (by decide +kernel) rfl ?_
          refine sX_callVp (As := [.int v1]) (by decide +kernel) lm_X11_240 mf_X11_countClosings mi_X11_countClosings mc_11 (m_X11_countClosings G l v0 v1 M4) (fun _ h => sRc_some h) (by decide) rfl rfl (Nat.le_of_ble_eq_true rfl) (fun x5 => ?_)
          exact sX_some (fun h _ => sW_iret (by decide +kernel) rfl (hr _ h).1.symm (hr _ h).2.symm)
        · refine sX_aload_n (i := 0) (by decide +kernel) rfl ?_
          refine sX_getR lf_X11_65 tk_11_11 (by decide +kernel) (fun x6 => ?_)
          refine sX_iload_n (i := 1) (by decide +kernel) rfl ?_
          refine sX_iconst (n := 0) (v := (0 : Int32)) (by decide +kernel) (by decide) ?_
          refine sX_callSp (As := [.ref x6, .int v1, .int (0 : Int32)]) (by decide +kernel) lm_X11_243 mf_X11_firstClosed ms_X11_firstClosed (m_X11_firstClosed G l x6 v1 ((0 : Int32)) M4) (by decide) rfl rfl (Nat.le_of_ble_eq_true rfl) (fun x7 => ?_)
          refine sX_istore_n (i := 3) (ls2 := [some (.ref v0), some (.int v1), some (.int v2), some (.int x7)]) (by decide +kernel) (by decide) rfl ?_
          refine sX_iload_n (i := 2) (by decide +kernel) rfl ?_
          refine sX_iconst (n := 1) (v := (1 : Int32)) (by decide +kernel) (by decide) ?_
          refine sX_iceq (o := 8) (t := 59) (by decide +kernel) (by decide) (fun _ => ?_) (fun _ => ?_)
          · refine sX_iload_n (i := 3) (by decide +kernel) rfl ?_
            exact sX_some (fun h _ => sW_iret (by decide +kernel) rfl (hr _ h).1.symm (hr _ h).2.symm)
          · refine sX_iload_n (i := 3) (by decide +kernel) rfl ?_
            refine sX_iconst (n := -1) (v := (-1 : Int32)) (by decide +kernel) (by decide) ?_
            refine sX_icne (o := 5) (t := 61) (by decide +kernel) (by decide) (fun _ => ?_) (fun _ => ?_)
            · refine sX_iload_n (i := 3) (by decide +kernel) rfl ?_
              exact sX_some (fun h _ => sW_iret (by decide +kernel) rfl (hr _ h).1.symm (hr _ h).2.symm)
            · refine sX_aload_n (i := 0) (by decide +kernel) rfl ?_
              refine sX_iload_n (i := 1) (by decide +kernel) rfl ?_
              refine sX_iload_n (i := 3) (by decide +kernel) rfl ?_
              refine sX_callVp (As := [.int v1, .int x7]) (by decide +kernel) lm_X11_246 mf_X11_lastOfClosing mi_X11_lastOfClosing mc_11 (m_X11_lastOfClosing G l v0 v1 x7 M4) (fun _ h => sRc_some h) (by decide) rfl rfl (Nat.le_of_ble_eq_true rfl) (fun x8 => ?_)
              exact sX_some (fun h _ => sW_iret (by decide +kernel) rfl (hr _ h).1.symm (hr _ h).2.symm)
      · refine sX_iconst (n := -1) (v := (-1 : Int32)) (by decide +kernel) (by decide) ?_
        exact sX_some (fun h _ => sW_iret (by decide +kernel) rfl (hr _ h).1.symm (hr _ h).2.symm)
def f_X11_isTold (v0 : Nat) (M0 : sMem) : Option Int32 :=
  sRc 11 20 M0 v0 (
    (gR 11 20 2 M0 v0).bind fun x1 =>
    (gI 1 10 0 M0 x1).bind fun x2 =>
    if x2 ≤ 0 then
      some ((0 : Int32))
    else
      some ((1 : Int32)))
set_option maxRecDepth 100000 in
set_option maxHeartbeats 4000000 in
theorem m_X11_isTold (G : sG) (l : Launch) (v0 : Nat) (M0 : sMem) : sCp G l 1 yX11_isTold cX11_isTold 1 (some .boolean) [.ref v0] M0 rvI (f_X11_isTold v0 M0) := by
  refine sC_p (ls := [some (.ref v0)]) (by decide +kernel) rfl (Nat.le_of_ble_eq_true rfl) (fun r M' K hr => ?_)
  unfold f_X11_isTold
  refine sX_rc ?_
  refine sX_aload_n (i := 0) (by decide +kernel) rfl ?_
  refine sX_getR lf_X11_28 tk_11_2 (by decide +kernel) (fun x1 => ?_)
  refine sX_getI lf_X11_122 tk_1_0 (by decide +kernel) (fun x2 => ?_)
  refine sX_ifle (o := 7) (t := 14) (by decide +kernel) (by decide) (fun _ => ?_) (fun _ => ?_)
  · refine sX_iconst (n := 0) (v := (0 : Int32)) (by decide +kernel) (by decide) ?_
    exact sX_some (fun h _ => sW_zret (by decide +kernel) rfl (by decide) (hr _ h).1.symm (hr _ h).2.symm)
  · refine sX_iconst (n := 1) (v := (1 : Int32)) (by decide +kernel) (by decide) ?_
    refine sX_goto (o := 4) (t := 15) (by decide +kernel) (by decide) ?_
    exact sX_some (fun h _ => sW_zret (by decide +kernel) rfl (by decide) (hr _ h).1.symm (hr _ h).2.symm)
