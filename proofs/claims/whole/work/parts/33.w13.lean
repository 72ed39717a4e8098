def f_X12_qAsksWord_B168 (M : sMem) : Option sMem :=
  some M
def f_X12_qAsksWord (v0 : Nat) (v1 : Int32) (M0 : sMem) : Option sMem :=
  sRc 12 127 M0 v0 (
    if v1 = (0 : Int32) then
      (gR 12 127 100 M0 v0).bind fun x29 =>
      (f_X12_asks v0 x29 M0).bind fun M30 =>
      some M30
    else
    if v1 = (1 : Int32) then
      (gR 12 127 101 M0 v0).bind fun x27 =>
      (f_X12_asks v0 x27 M0).bind fun M28 =>
      some M28
    else
    if v1 = (2 : Int32) then
      (gR 12 127 102 M0 v0).bind fun x25 =>
      (f_X12_asks v0 x25 M0).bind fun M26 =>
      some M26
    else
    if v1 = (3 : Int32) then
      (gR 12 127 103 M0 v0).bind fun x23 =>
      (f_X12_asks v0 x23 M0).bind fun M24 =>
      some M24
    else
    if v1 = (4 : Int32) then
      (gR 12 127 104 M0 v0).bind fun x21 =>
      (f_X12_asks v0 x21 M0).bind fun M22 =>
      some M22
    else
    if v1 = (5 : Int32) then
      (gR 12 127 105 M0 v0).bind fun x19 =>
      (f_X12_asks v0 x19 M0).bind fun M20 =>
      some M20
    else
    if v1 = (6 : Int32) then
      (gR 12 127 106 M0 v0).bind fun x17 =>
      (f_X12_asks v0 x17 M0).bind fun M18 =>
      some M18
    else
    if v1 = (7 : Int32) then
      (gR 12 127 107 M0 v0).bind fun x15 =>
      (f_X12_asks v0 x15 M0).bind fun M16 =>
      some M16
    else
    if v1 = (8 : Int32) then
      (gR 12 127 108 M0 v0).bind fun x13 =>
      (f_X12_asks v0 x13 M0).bind fun M14 =>
      f_X12_qAsksWord_B168 M14
    else
    if v1 = (9 : Int32) then
      (gR 12 127 109 M0 v0).bind fun x11 =>
      (f_X12_asks v0 x11 M0).bind fun M12 =>
      some M12
    else
    if v1 = (10 : Int32) then
      (gR 12 127 110 M0 v0).bind fun x9 =>
      (f_X12_asks v0 x9 M0).bind fun M10 =>
      some M10
    else
    if v1 = (11 : Int32) then
      (gR 12 127 111 M0 v0).bind fun x7 =>
      (f_X12_asks v0 x7 M0).bind fun M8 =>
      some M8
    else
    if v1 = (12 : Int32) then
      (gR 12 127 112 M0 v0).bind fun x5 =>
      (f_X12_asks v0 x5 M0).bind fun M6 =>
      some M6
    else
    if v1 = (13 : Int32) then
      (gR 12 127 113 M0 v0).bind fun x3 =>
      (f_X12_asks v0 x3 M0).bind fun M4 =>
      some M4
    else
    (gR 12 127 114 M0 v0).bind fun x1 =>
    (f_X12_asks v0 x1 M0).bind fun M2 =>
    some M2)
set_option maxRecDepth 100000 in
set_option maxHeartbeats 4000000 in
theorem m_X12_qAsksWord (G : sG) (l : Launch) (v0 : Nat) (v1 : Int32) (M0 : sMem) : sCv G l 5 yX12_qAsksWord cX12_qAsksWord 2 none [.ref v0, .int v1] M0 (f_X12_qAsksWord v0 v1 M0) := by
  refine sC_v (ls := [some (.ref v0), some (.int v1)]) (by decide +kernel) rfl (Nat.le_of_ble_eq_true rfl) (fun r M' K hr => ?_)
  unfold f_X12_qAsksWord
  have xB168 : ∀ (M : sMem), sX G l 5 yX12_qAsksWord cX12_qAsksWord 2 none M0 r M' 168 [none, none] [] M (f_X12_qAsksWord_B168 M) K := by
    intro M
    unfold f_X12_qAsksWord_B168
    refine sX_goto (o := 66) (t := 234) (by decide +kernel) (by decide) ?_
    exact sX_some (fun h _ => sW_vret (by decide +kernel) rfl (hr _ h).1.symm (hr _ h).2.symm)
  refine sX_rc ?_
  refine sX_iload_n (i := 1) (by decide +kernel) rfl ?_
  refine sX_if (fun hx => ?_) (fun n0 => ?_)
  · refine sX_tin (n := (0 : Int32)) (t := 72) (off := 71) (dflt := 225) (lo := 0) (hi := 13) (offs := #[71, 82, 93, 104, 115, 126, 137, 148, 159, 170, 181, 192, 203, 214]) (len := 71) (by decide +kernel) hx (by decide) (by decide) (by decide) (by decide) ?_
    refine sX_aload_n (i := 0) (by decide +kernel) rfl ?_
    refine sX_aload_n (i := 0) (by decide +kernel) rfl ?_
    refine sX_getR lf_X12_240 tk_12_100 (by decide +kernel) (fun x29 => ?_)
    refine sX_callVv (As := [.ref x29]) (by decide +kernel) lm_X12_373 mf_X12_asks mi_X12_asks mc_12 (m_X12_asks G l v0 x29 M0) (fun _ h => sRc_some h) (by decide) rfl rfl (Nat.le_of_ble_eq_true rfl) (fun M30 => ?_)
    refine sX_goto (o := 154) (t := 234) (by decide +kernel) (by decide) ?_
    exact sX_some (fun h _ => sW_vret (by decide +kernel) rfl (hr _ h).1.symm (hr _ h).2.symm)
  · refine sX_if (fun hx => ?_) (fun n1 => ?_)
    · refine sX_tin (n := (1 : Int32)) (t := 83) (off := 82) (dflt := 225) (lo := 0) (hi := 13) (offs := #[71, 82, 93, 104, 115, 126, 137, 148, 159, 170, 181, 192, 203, 214]) (len := 71) (by decide +kernel) hx (by decide) (by decide) (by decide) (by decide) ?_
      refine sX_aload_n (i := 0) (by decide +kernel) rfl ?_
      refine sX_aload_n (i := 0) (by decide +kernel) rfl ?_
      refine sX_getR lf_X12_243 tk_12_101 (by decide +kernel) (fun x27 => ?_)
      refine sX_callVv (As := [.ref x27]) (by decide +kernel) lm_X12_373 mf_X12_asks mi_X12_asks mc_12 (m_X12_asks G l v0 x27 M0) (fun _ h => sRc_some h) (by decide) rfl rfl (Nat.le_of_ble_eq_true rfl) (fun M28 => ?_)
      refine sX_goto (o := 143) (t := 234) (by decide +kernel) (by decide) ?_
      exact sX_some (fun h _ => sW_vret (by decide +kernel) rfl (hr _ h).1.symm (hr _ h).2.symm)
    · refine sX_if (fun hx => ?_) (fun n2 => ?_)
      · refine sX_tin (n := (2 : Int32)) (t := 94) (off := 93) (dflt := 225) (lo := 0) (hi := 13) (offs := #[71, 82, 93, 104, 115, 126, 137, 148, 159, 170, 181, 192, 203, 214]) (len := 71) (by decide +kernel) hx (by decide) (by decide) (by decide) (by decide) ?_
        refine sX_aload_n (i := 0) (by decide +kernel) rfl ?_
        refine sX_aload_n (i := 0) (by decide +kernel) rfl ?_
        refine sX_getR lf_X12_246 tk_12_102 (by decide +kernel) (fun x25 => ?_)
        refine sX_callVv (As := [.ref x25]) (by decide +kernel) lm_X12_373 mf_X12_asks mi_X12_asks mc_12 (m_X12_asks G l v0 x25 M0) (fun _ h => sRc_some h) (by decide) rfl rfl (Nat.le_of_ble_eq_true rfl) (fun M26 => ?_)
        refine sX_goto (o := 132) (t := 234) (by decide +kernel) (by decide) ?_
        exact sX_some (fun h _ => sW_vret (by decide +kernel) rfl (hr _ h).1.symm (hr _ h).2.symm)
      · refine sX_if (fun hx => ?_) (fun n3 => ?_)
        · refine sX_tin (n := (3 : Int32)) (t := 105) (off := 104) (dflt := 225) (lo := 0) (hi := 13) (offs := #[71, 82, 93, 104, 115, 126, 137, 148, 159, 170, 181, 192, 203, 214]) (len := 71) (by decide +kernel) hx (by decide) (by decide) (by decide) (by decide) ?_
          refine sX_aload_n (i := 0) (by decide +kernel) rfl ?_
          refine sX_aload_n (i := 0) (by decide +kernel) rfl ?_
          refine sX_getR lf_X12_249 tk_12_103 (by decide +kernel) (fun x23 => ?_)
          refine sX_callVv (As := [.ref x23]) (by decide +kernel) lm_X12_373 mf_X12_asks mi_X12_asks mc_12 (m_X12_asks G l v0 x23 M0) (fun _ h => sRc_some h) (by decide) rfl rfl (Nat.le_of_ble_eq_true rfl) (fun M24 => ?_)
          refine sX_goto (o := 121) (t := 234) (by decide +kernel) (by decide) ?_
          exact sX_some (fun h _ => sW_vret (by decide +kernel) rfl (hr _ h).1.symm (hr _ h).2.symm)
        · refine sX_if (fun hx => ?_) (fun n4 => ?_)
          · refine sX_tin (n := (4 : Int32)) (t := 116) (off := 115) (dflt := 225) (lo := 0) (hi := 13) (offs := #[71, 82, 93, 104, 115, 126, 137, 148, 159, 170, 181, 192, 203, 214]) (len := 71) (by decide +kernel) hx (by decide) (by decide) (by decide) (by decide) ?_
            refine sX_aload_n (i := 0) (by decide +kernel) rfl ?_
            refine sX_aload_n (i := 0) (by decide +kernel) rfl ?_
            refine sX_getR lf_X12_252 tk_12_104 (by decide +kernel) (fun x21 => ?_)
            refine sX_callVv (As := [.ref x21]) (by decide +kernel) lm_X12_373 mf_X12_asks mi_X12_asks mc_12 (m_X12_asks G l v0 x21 M0) (fun _ h => sRc_some h) (by decide) rfl rfl (Nat.le_of_ble_eq_true rfl) (fun M22 => ?_)
            refine sX_goto (o := 110) (t := 234) (by decide +kernel) (by decide) ?_
            exact sX_some (fun h _ => sW_vret (by decide +kernel) rfl (hr _ h).1.symm (hr _ h).2.symm)
          · refine sX_if (fun hx => ?_) (fun n5 => ?_)
            · refine sX_tin (n := (5 : Int32)) (t := 127) (off := 126) (dflt := 225) (lo := 0) (hi := 13) (offs := #[71, 82, 93, 104, 115, 126, 137, 148, 159, 170, 181, 192, 203, 214]) (len := 71) (by decide +kernel) hx (by decide) (by decide) (by decide) (by decide) ?_
              refine sX_aload_n (i := 0) (by decide +kernel) rfl ?_
              refine sX_aload_n (i := 0) (by decide +kernel) rfl ?_
              refine sX_getR lf_X12_255 tk_12_105 (by decide +kernel) (fun x19 => ?_)
              refine sX_callVv (As := [.ref x19]) (by decide +kernel) lm_X12_373 mf_X12_asks mi_X12_asks mc_12 (m_X12_asks G l v0 x19 M0) (fun _ h => sRc_some h) (by decide) rfl rfl (Nat.le_of_ble_eq_true rfl) (fun M20 => ?_)
              refine sX_goto (o := 99) (t := 234) (by decide +kernel) (by decide) ?_
              exact sX_some (fun h _ => sW_vret (by decide +kernel) rfl (hr _ h).1.symm (hr _ h).2.symm)
            · refine sX_if (fun hx => ?_) (fun n6 => ?_)
              · refine sX_tin (n := (6 : Int32)) (t := 138) (off := 137) (dflt := 225) (lo := 0) (hi := 13) (offs := #[71, 82, 93, 104, 115, 126, 137, 148, 159, 170, 181, 192, 203, 214]) (len := 71) (by decide +kernel) hx (by decide) (by decide) (by decide) (by decide) ?_
                refine sX_aload_n (i := 0) (by decide +kernel) rfl ?_
                refine sX_aload_n (i := 0) (by decide +kernel) rfl ?_
                refine sX_getR lf_X12_258 tk_12_106 (by decide +kernel) (fun x17 => ?_)
                refine sX_callVv (As := [.ref x17]) (by decide +kernel) lm_X12_373 mf_X12_asks mi_X12_asks mc_12 (m_X12_asks G l v0 x17 M0) (fun _ h => sRc_some h) (by decide) rfl rfl (Nat.le_of_ble_eq_true rfl) (fun M18 => ?_)
                refine sX_goto (o := 88) (t := 234) (by decide +kernel) (by decide) ?_
                exact sX_some (fun h _ => sW_vret (by decide +kernel) rfl (hr _ h).1.symm (hr _ h).2.symm)
              · refine sX_if (fun hx => ?_) (fun n7 => ?_)
                · refine sX_tin (n := (7 : Int32)) (t := 149) (off := 148) (dflt := 225) (lo := 0) (hi := 13) (offs := #[71, 82, 93, 104, 115, 126, 137, 148, 159, 170, 181, 192, 203, 214]) (len := 71) (by decide +kernel) hx (by decide) (by decide) (by decide) (by decide) ?_
                  refine sX_aload_n (i := 0) (by decide +kernel) rfl ?_
                  refine sX_aload_n (i := 0) (by decide +kernel) rfl ?_
                  refine sX_getR lf_X12_261 tk_12_107 (by decide +kernel) (fun x15 => ?_)
                  refine sX_callVv (As := [.ref x15]) (by decide +kernel) lm_X12_373 mf_X12_asks mi_X12_asks mc_12 (m_X12_asks G l v0 x15 M0) (fun _ h => sRc_some h) (by decide) rfl rfl (Nat.le_of_ble_eq_true rfl) (fun M16 => ?_)
                  refine sX_goto (o := 77) (t := 234) (by decide +kernel) (by decide) ?_
                  exact sX_some (fun h _ => sW_vret (by decide +kernel) rfl (hr _ h).1.symm (hr _ h).2.symm)
                · refine sX_if (fun hx => ?_) (fun n8 => ?_)
                  · refine sX_tin (n := (8 : Int32)) (t := 160) (off := 159) (dflt := 225) (lo := 0) (hi := 13) (offs := #[71, 82, 93, 104, 115, 126, 137, 148, 159, 170, 181, 192, 203, 214]) (len := 71) (by decide +kernel) hx (by decide) (by decide) (by decide) (by decide) ?_
                    refine sX_aload_n (i := 0) (by decide +kernel) rfl ?_
                    refine sX_aload_n (i := 0) (by decide +kernel) rfl ?_
                    refine sX_getR lf_X12_264 tk_12_108 (by decide +kernel) (fun x13 => ?_)
                    refine sX_callVv (As := [.ref x13]) (by decide +kernel) lm_X12_373 mf_X12_asks mi_X12_asks mc_12 (m_X12_asks G l v0 x13 M0) (fun _ h => sRc_some h) (by decide) rfl rfl (Nat.le_of_ble_eq_true rfl) (fun M14 => ?_)
                    exact sX.le (xB168 M14) (sLe_n (sLe_n sLe_e))
                  · refine sX_if (fun hx => ?_) (fun n9 => ?_)
                    · refine sX_tin (n := (9 : Int32)) (t := 171) (off := 170) (dflt := 225) (lo := 0) (hi := 13) (offs := #[71, 82, 93, 104, 115, 126, 137, 148, 159, 170, 181, 192, 203, 214]) (len := 71) (by decide +kernel) hx (by decide) (by decide) (by decide) (by decide) ?_
                      refine sX_aload_n (i := 0) (by decide +kernel) rfl ?_
                      refine sX_aload_n (i := 0) (by decide +kernel) rfl ?_
                      refine sX_getR lf_X12_267 tk_12_109 (by decide +kernel) (fun x11 => ?_)
                      refine sX_callVv (As := [.ref x11]) (by decide +kernel) lm_X12_373 mf_X12_asks mi_X12_asks mc_12 (m_X12_asks G l v0 x11 M0) (fun _ h => sRc_some h) (by decide) rfl rfl (Nat.le_of_ble_eq_true rfl) (fun M12 => ?_)
                      refine sX_goto (o := 55) (t := 234) (by decide +kernel) (by decide) ?_
                      exact sX_some (fun h _ => sW_vret (by decide +kernel) rfl (hr _ h).1.symm (hr _ h).2.symm)
                    · refine sX_if (fun hx => ?_) (fun n10 => ?_)
                      · refine sX_tin (n := (10 : Int32)) (t := 182) (off := 181) (dflt := 225) (lo := 0) (hi := 13) (offs := #[71, 82, 93, 104, 115, 126, 137, 148, 159, 170, 181, 192, 203, 214]) (len := 71) (by decide +kernel) hx (by decide) (by decide) (by decide) (by decide) ?_
                        refine sX_aload_n (i := 0) (by decide +kernel) rfl ?_
                        refine sX_aload_n (i := 0) (by decide +kernel) rfl ?_
                        refine sX_getR lf_X12_270 tk_12_110 (by decide +kernel) (fun x9 => ?_)
                        refine sX_callVv (As := [.ref x9]) (by decide +kernel) lm_X12_373 mf_X12_asks mi_X12_asks mc_12 (m_X12_asks G l v0 x9 M0) (fun _ h => sRc_some h) (by decide) rfl rfl (Nat.le_of_ble_eq_true rfl) (fun M10 => ?_)
                        refine sX_goto (o := 44) (t := 234) (by decide +kernel) (by decide) ?_
                        exact sX_some (fun h _ => sW_vret (by decide +kernel) rfl (hr _ h).1.symm (hr _ h).2.symm)
                      · refine sX_if (fun hx => ?_) (fun n11 => ?_)
                        · refine sX_tin (n := (11 : Int32)) (t := 193) (off := 192) (dflt := 225) (lo := 0) (hi := 13) (offs := #[71, 82, 93, 104, 115, 126, 137, 148, 159, 170, 181, 192, 203, 214]) (len := 71) (by decide +kernel) hx (by decide) (by decide) (by decide) (by decide) ?_
                          refine sX_aload_n (i := 0) (by decide +kernel) rfl ?_
                          refine sX_aload_n (i := 0) (by decide +kernel) rfl ?_
                          refine sX_getR lf_X12_273 tk_12_111 (by decide +kernel) (fun x7 => ?_)
                          refine sX_callVv (As := [.ref x7]) (by decide +kernel) lm_X12_373 mf_X12_asks mi_X12_asks mc_12 (m_X12_asks G l v0 x7 M0) (fun _ h => sRc_some h) (by decide) rfl rfl (Nat.le_of_ble_eq_true rfl) (fun M8 => ?_)
                          refine sX_goto (o := 33) (t := 234) (by decide +kernel) (by decide) ?_
                          exact sX_some (fun h _ => sW_vret (by decide +kernel) rfl (hr _ h).1.symm (hr _ h).2.symm)
                        · refine sX_if (fun hx => ?_) (fun n12 => ?_)
                          · refine sX_tin (n := (12 : Int32)) (t := 204) (off := 203) (dflt := 225) (lo := 0) (hi := 13) (offs := #[71, 82, 93, 104, 115, 126, 137, 148, 159, 170, 181, 192, 203, 214]) (len := 71) (by decide +kernel) hx (by decide) (by decide) (by decide) (by decide) ?_
                            refine sX_aload_n (i := 0) (by decide +kernel) rfl ?_
                            refine sX_aload_n (i := 0) (by decide +kernel) rfl ?_
                            refine sX_getR lf_X12_276 tk_12_112 (by decide +kernel) (fun x5 => ?_)
                            refine sX_callVv (As := [.ref x5]) (by decide +kernel) lm_X12_373 mf_X12_asks mi_X12_asks mc_12 (m_X12_asks G l v0 x5 M0) (fun _ h => sRc_some h) (by decide) rfl rfl (Nat.le_of_ble_eq_true rfl) (fun M6 => ?_)
                            refine sX_goto (o := 22) (t := 234) (by decide +kernel) (by decide) ?_
                            exact sX_some (fun h _ => sW_vret (by decide +kernel) rfl (hr _ h).1.symm (hr _ h).2.symm)
                          · refine sX_if (fun hx => ?_) (fun n13 => ?_)
                            · refine sX_tin (n := (13 : Int32)) (t := 215) (off := 214) (dflt := 225) (lo := 0) (hi := 13) (offs := #[71, 82, 93, 104, 115, 126, 137, 148, 159, 170, 181, 192, 203, 214]) (len := 71) (by decide +kernel) hx (by decide) (by decide) (by decide) (by decide) ?_
                              refine sX_aload_n (i := 0) (by decide +kernel) rfl ?_
                              refine sX_aload_n (i := 0) (by decide +kernel) rfl ?_
                              refine sX_getR lf_X12_279 tk_12_113 (by decide +kernel) (fun x3 => ?_)
                              refine sX_callVv (As := [.ref x3]) (by decide +kernel) lm_X12_373 mf_X12_asks mi_X12_asks mc_12 (m_X12_asks G l v0 x3 M0) (fun _ h => sRc_some h) (by decide) rfl rfl (Nat.le_of_ble_eq_true rfl) (fun M4 => ?_)
                              refine sX_goto (o := 11) (t := 234) (by decide +kernel) (by decide) ?_
                              exact sX_some (fun h _ => sW_vret (by decide +kernel) rfl (hr _ h).1.symm (hr _ h).2.symm)
                            · refine sX_tout (t := 226) (dflt := 225) (lo := 0) (hi := 13) (offs := #[71, 82, 93, 104, 115, 126, 137, 148, 159, 170, 181, 192, 203, 214]) (len := 71) (by decide +kernel) (by have e0 := sNe n0 (z := 0) (by decide); have e1 := sNe n1 (z := 1) (by decide); have e2 := sNe n2 (z := 2) (by decide); have e3 := sNe n3 (z := 3) (by decide); have e4 := sNe n4 (z := 4) (by decide); have e5 := sNe n5 (z := 5) (by decide); have e6 := sNe n6 (z := 6) (by decide); have e7 := sNe n7 (z := 7) (by decide); have e8 := sNe n8 (z := 8) (by decide); have e9 := sNe n9 (z := 9) (by decide); have e10 := sNe n10 (z := 10) (by decide); have e11 := sNe n11 (z := 11) (by decide); have e12 := sNe n12 (z := 12) (by decide); have e13 := sNe n13 (z := 13) (by decide); omega) (by decide) ?_
                              refine sX_aload_n (i := 0) (by decide +kernel) rfl ?_
                              refine sX_aload_n (i := 0) (by decide +kernel) rfl ?_
                              refine sX_getR lf_X12_282 tk_12_114 (by decide +kernel) (fun x1 => ?_)
                              refine sX_callVv (As := [.ref x1]) (by decide +kernel) lm_X12_373 mf_X12_asks mi_X12_asks mc_12 (m_X12_asks G l v0 x1 M0) (fun _ h => sRc_some h) (by decide) rfl rfl (Nat.le_of_ble_eq_true rfl) (fun M2 => ?_)
                              exact sX_some (fun h _ => sW_vret (by decide +kernel) rfl (hr _ h).1.symm (hr _ h).2.symm)
def f_X12_qDrops (v0 : Nat) (M0 : sMem) : Option sMem :=
  sRc 12 127 M0 v0 (
    (gI 12 127 118 M0 v0).bind fun x1 =>
    (pI 12 127 118 M0 v0 ((x1 - (1 : Int32)))).bind fun M2 =>
    (gR 12 127 117 M2 v0).bind fun x3 =>
    (gI 12 127 118 M2 v0).bind fun x4 =>
    (ldI 14 M2 x3 x4).bind fun x5 =>
    (f_X12_qCode v0 x5 M2).bind fun M6 =>
    some M6)
set_option maxRecDepth 100000 in
set_option maxHeartbeats 4000000 in
theorem m_X12_qDrops (G : sG) (l : Launch) (v0 : Nat) (M0 : sMem) : sCv G l 2 yX12_qDrops cX12_qDrops 1 none [.ref v0] M0 (f_X12_qDrops v0 M0) := by
  refine sC_v (ls := [some (.ref v0)]) (by decide +kernel) rfl (Nat.le_of_ble_eq_true rfl) (fun r M' K hr => ?_)
  unfold f_X12_qDrops
  refine sX_rc ?_
  refine sX_aload_n (i := 0) (by decide +kernel) rfl ?_
  refine sX_dup (by decide +kernel) rfl ?_
  refine sX_getI lf_X12_398 tk_12_118 (by decide +kernel) (fun x1 => ?_)
  refine sX_iconst (n := 1) (v := (1 : Int32)) (by decide +kernel) (by decide) ?_
  refine sX_isub (by decide +kernel) ?_
  refine sX_putI lf_X12_398 tp_12_118 (by decide +kernel) (by decide) (fun M2 => ?_)
  refine sX_aload_n (i := 0) (by decide +kernel) rfl ?_
  refine sX_aload_n (i := 0) (by decide +kernel) rfl ?_
  refine sX_getR lf_X12_288 tk_12_117 (by decide +kernel) (fun x3 => ?_)
  refine sX_aload_n (i := 0) (by decide +kernel) rfl ?_
  refine sX_getI lf_X12_398 tk_12_118 (by decide +kernel) (fun x4 => ?_)
  refine sX_iaload (by decide +kernel) (fun x5 => ?_)
  refine sX_callVv (As := [.int x5]) (by decide +kernel) lm_X12_675 mf_X12_qCode mi_X12_qCode mc_12 (m_X12_qCode G l v0 x5 M2) (fun _ h => sRc_some h) (by decide) rfl rfl (Nat.le_of_ble_eq_true rfl) (fun M6 => ?_)
  exact sX_some (fun h _ => sW_vret (by decide +kernel) rfl (hr _ h).1.symm (hr _ h).2.symm)
def f_X12_qEndsPart_K0 (v0 : Nat) (M : sMem) : Option ((sMem) ⊕ ((sMem))) :=
  (gI 12 127 5 M v0).bind fun x1 =>
  if x1 = 0 then
    (gI 12 127 118 M v0).bind fun x2 =>
    (gI 12 127 120 M v0).bind fun x3 =>
    if x2 ≤ x3 then
      some (.inr M)
    else
      (gR 12 127 117 M v0).bind fun x4 =>
      (gI 12 127 118 M v0).bind fun x5 =>
      (ldI 14 M x4 ((x5 - (1 : Int32)))).bind fun x6 =>
      if x6 < (60 : Int32) then
        some (.inr M)
      else
        (gI 12 127 119 M v0).bind fun x7 =>
        (pI 12 127 119 M v0 ((x7 - (1 : Int32)))).bind fun M8 =>
        (f_X12_qDrops v0 M8).bind fun M9 =>
        some (.inl M9)
  else
    some (.inr M)
def f_X12_qEndsPart_L0 (v0 : Nat) (M : sMem) : Option sMem :=
  (sItr (fun a : (sMem) => f_X12_qEndsPart_K0 v0 a) sFuel M).bind (fun b => some b)
def f_X12_qEndsPart (v0 : Nat) (M0 : sMem) : Option sMem :=
  sRc 12 127 M0 v0 (
    f_X12_qEndsPart_L0 v0 M0)
set_option maxRecDepth 100000 in
set_option maxHeartbeats 4000000 in
theorem m_X12_qEndsPart (G : sG) (l : Launch) (v0 : Nat) (M0 : sMem) : sCv G l 3 yX12_qEndsPart cX12_qEndsPart 1 none [.ref v0] M0 (f_X12_qEndsPart v0 M0) := by
  refine sC_v (ls := [some (.ref v0)]) (by decide +kernel) rfl (Nat.le_of_ble_eq_true rfl) (fun r M' K hr => ?_)
  unfold f_X12_qEndsPart
  have xL0 : ∀ (v0 : Nat) (M : sMem), sX G l 3 yX12_qEndsPart cX12_qEndsPart 1 none M0 r M' 0 [some (.ref v0)] [] M (f_X12_qEndsPart_L0 v0 M) K := by
    intro v0 M
    unfold f_X12_qEndsPart_L0
    refine sX_bind ?_
    refine sX_loop (LS := fun a : (sMem) => [some (.ref v0)]) (MM := fun a => a) (fun K1 hb1 he1 => ?_) sFuel M
    have xK0 : ∀  (M : sMem), sX G l 3 yX12_qEndsPart cX12_qEndsPart 1 none M0 r M' 0 [some (.ref v0)] [] M (f_X12_qEndsPart_K0 v0 M) K1 := by
      intro M
      unfold f_X12_qEndsPart_K0
      refine sX_aload_n (i := 0) (by decide +kernel) rfl ?_
      refine sX_getI lf_X12_300 tk_12_5 (by decide +kernel) (fun x1 => ?_)
      refine sX_ifne (o := 47) (t := 51) (by decide +kernel) (by decide) (fun _ => ?_) (fun _ => ?_)
      · refine sX_aload_n (i := 0) (by decide +kernel) rfl ?_
        refine sX_getI lf_X12_398 tk_12_118 (by decide +kernel) (fun x2 => ?_)
        refine sX_aload_n (i := 0) (by decide +kernel) rfl ?_
        refine sX_getI lf_X12_404 tk_12_120 (by decide +kernel) (fun x3 => ?_)
        refine sX_icle (o := 36) (t := 51) (by decide +kernel) (by decide) (fun _ => ?_) (fun _ => ?_)
        · refine sX_exit he1 ?_
          exact sX_some (fun h _ => sW_vret (by decide +kernel) rfl (hr _ h).1.symm (hr _ h).2.symm)
        · refine sX_aload_n (i := 0) (by decide +kernel) rfl ?_
          refine sX_getR lf_X12_288 tk_12_117 (by decide +kernel) (fun x4 => ?_)
          refine sX_aload_n (i := 0) (by decide +kernel) rfl ?_
          refine sX_getI lf_X12_398 tk_12_118 (by decide +kernel) (fun x5 => ?_)
          refine sX_iconst (n := 1) (v := (1 : Int32)) (by decide +kernel) (by decide) ?_
          refine sX_isub (by decide +kernel) ?_
          refine sX_iaload (by decide +kernel) (fun x6 => ?_)
          refine sX_bipush (n := 60) (v := (60 : Int32)) (by decide +kernel) (by decide) ?_
          refine sX_iclt (o := 20) (t := 51) (by decide +kernel) (by decide) (fun _ => ?_) (fun _ => ?_)
          · refine sX_exit he1 ?_
            exact sX_some (fun h _ => sW_vret (by decide +kernel) rfl (hr _ h).1.symm (hr _ h).2.symm)
          · refine sX_aload_n (i := 0) (by decide +kernel) rfl ?_
            refine sX_dup (by decide +kernel) rfl ?_
            refine sX_getI lf_X12_401 tk_12_119 (by decide +kernel) (fun x7 => ?_)
            refine sX_iconst (n := 1) (v := (1 : Int32)) (by decide +kernel) (by decide) ?_
            refine sX_isub (by decide +kernel) ?_
            refine sX_putI lf_X12_401 tp_12_119 (by decide +kernel) (by decide) (fun M8 => ?_)
            refine sX_aload_n (i := 0) (by decide +kernel) rfl ?_
            refine sX_callVv (As := []) (by decide +kernel) lm_X12_681 mf_X12_qDrops mi_X12_qDrops mc_12 (m_X12_qDrops G l v0 M8) (fun _ h => sRc_some h) (by decide) rfl rfl (Nat.le_of_ble_eq_true rfl) (fun M9 => ?_)
            refine sX_goto (o := -48) (t := 0) (by decide +kernel) (by decide) ?_
            exact sX_back (a := M9) hb1 rfl (sLe_s sLe_e)
      · refine sX_exit he1 ?_
        exact sX_some (fun h _ => sW_vret (by decide +kernel) rfl (hr _ h).1.symm (hr _ h).2.symm)
    exact fun a => xK0 a
  refine sX_rc ?_
  exact sX.le (xL0 v0 M0) (sLe_s sLe_e)
def f_X12_qPartTold_B237 (v0 : Nat) (s0 : Nat) (s1 : Int32) (M : sMem) : Option sMem :=
  (f_X12_qCode s0 s1 M).bind fun M1 =>
  (f_X12_qEndsPart v0 M1).bind fun M2 =>
  some M2
def f_X12_qPartTold_B212 (v0 : Nat) (v2 : Int32) (M : sMem) : Option sMem :=
  if v2 = (-1 : Int32) then
    (f_X12_number v0 ((0 : Int32)) ((9999 : Int32)) M).bind fun (x3, M4) =>
    f_X12_qPartTold_B237 v0 v0 (((1000 : Int32) + x3)) M4
  else
    f_X12_qPartTold_B237 v0 v0 (((40 : Int32) + v2)) M
def f_X12_qPartTold_B186 (v0 : Nat) (M : sMem) : Option sMem :=
  (gI 12 127 5 M v0).bind fun x5 =>
  if x5 = 0 then
    (f_X12_qWordOf v0 ((0 : Int32)) ((13 : Int32)) M).bind fun (x6, M7) =>
    if x6 = (-1 : Int32) then
      f_X12_qPartTold_B212 v0 x6 M7
    else
      (f_X12_qAsksWord v0 x6 M7).bind fun M8 =>
      f_X12_qPartTold_B212 v0 x6 M8
  else
    some M
def f_X12_qPartTold_B183 (v0 : Nat) (v1 : Int32) (M : sMem) : Option ((Int32 × sMem) ⊕ ((sMem))) :=
  some (.inl ((v1, M)))
def f_X12_qPartTold_B144 (v0 : Nat) (v1 : Int32) (M : sMem) : Option ((Int32 × sMem) ⊕ ((sMem))) :=
  (f_X12_asksSign v0 ((40 : Int32)) M).bind fun M9 =>
  f_X12_qPartTold_B183 v0 v1 M9
def f_X12_qPartTold_B139 (v0 : Nat) (v1 : Int32) (v5 : Int32) (s0 : Nat) (s1 : Int32) (M : sMem) : Option ((Int32 × sMem) ⊕ ((sMem))) :=
  (f_X12_qOpens s0 s1 v5 M).bind fun M10 =>
  f_X12_qPartTold_B144 v0 v1 M10
def f_X12_qPartTold_B118 (v0 : Nat) (v1 : Int32) (v4 : Int32) (s0 : Int32) (M : sMem) : Option ((Int32 × sMem) ⊕ ((sMem))) :=
  if s0 = (-1 : Int32) then
    f_X12_qPartTold_B144 v0 v1 M
  else
    if v4 = 0 then
      f_X12_qPartTold_B139 v0 v1 s0 v0 ((22 : Int32)) M
    else
      f_X12_qPartTold_B139 v0 v1 s0 v0 ((21 : Int32)) M
def f_X12_qPartTold_B101 (v0 : Nat) (v1 : Int32) (v4 : Int32) (M : sMem) : Option ((Int32 × sMem) ⊕ ((sMem))) :=
  (f_X12_look v0 M).bind fun (x11, M12) =>
  if x11 = (40 : Int32) then
    (gI 12 127 2 M12 v0).bind fun x13 =>
    f_X12_qPartTold_B118 v0 v1 v4 x13 M12
  else
    f_X12_qPartTold_B118 v0 v1 v4 ((-1 : Int32)) M12
def f_X12_qPartTold_B78 (v0 : Nat) (v1 : Int32) (M : sMem) : Option ((Int32 × sMem) ⊕ ((sMem))) :=
  (gR 12 127 98 M v0).bind fun x14 =>
  (f_X12_takes v0 x14 M).bind fun (x15, M16) =>
  if x15 = 0 then
    (gR 12 127 99 M16 v0).bind fun x17 =>
    (f_X12_asks v0 x17 M16).bind fun M18 =>
    f_X12_qPartTold_B101 v0 v1 x15 M18
  else
    f_X12_qPartTold_B101 v0 v1 x15 M16
def f_X12_qPartTold_K2 (v0 : Nat) (v1 : Int32) (M : sMem) : Option ((Int32 × sMem) ⊕ ((sMem))) :=
  if v1 = 0 then
    some (.inr M)
  else
    (gI 12 127 5 M v0).bind fun x19 =>
    if x19 = 0 then
      (f_X12_look v0 M).bind fun (x20, M21) =>
      (f_X12_qWordOf v0 ((13 : Int32)) ((15 : Int32)) M21).bind fun (x22, M23) =>
      if x20 = (40 : Int32) then
        (gI 12 127 2 M23 v0).bind fun x24 =>
        (f_X12_qOpens v0 ((20 : Int32)) x24 M23).bind fun M25 =>
        (gI 12 127 2 M25 v0).bind fun x26 =>
        (pI 12 127 2 M25 v0 ((x26 + (1 : Int32)))).bind fun M27 =>
        f_X12_qPartTold_B183 v0 v1 M27
      else
        (gR 12 127 98 M23 v0).bind fun x28 =>
        (f_X12_isHere v0 x28 M23).bind fun (x29, M30) =>
        if x29 = 0 then
          (gR 12 127 99 M30 v0).bind fun x31 =>
          (f_X12_isHere v0 x31 M30).bind fun (x32, M33) =>
          if x32 = 0 then
            if x22 = (-1 : Int32) then
              f_X12_qPartTold_B183 v0 ((0 : Int32)) M33
            else
              (gI 12 127 2 M33 v0).bind fun x34 =>
              (f_X12_qOpens v0 ((((60 : Int32) + x22) - (13 : Int32))) x34 M33).bind fun M35 =>
              (f_X12_qAsksWord v0 x22 M35).bind fun M36 =>
              f_X12_qPartTold_B183 v0 v1 M36
          else
            f_X12_qPartTold_B78 v0 v1 M33
        else
          f_X12_qPartTold_B78 v0 v1 M30
    else
      some (.inr M)
def f_X12_qPartTold_L2 (v0 : Nat) (v1 : Int32) (M : sMem) : Option sMem :=
  (sItr (fun a : (Int32 × sMem) => f_X12_qPartTold_K2 v0 a.1 a.2) sFuel (v1, M)).bind (fun b => f_X12_qPartTold_B186 v0 b)
def f_X12_qPartTold (v0 : Nat) (M0 : sMem) : Option sMem :=
  sRc 12 127 M0 v0 (
    f_X12_qPartTold_L2 v0 ((1 : Int32)) M0)
set_option maxRecDepth 100000 in
set_option maxHeartbeats 4000000 in
theorem m_X12_qPartTold (G : sG) (l : Launch) (v0 : Nat) (M0 : sMem) : sCv G l 6 yX12_qPartTold cX12_qPartTold 6 none [.ref v0] M0 (f_X12_qPartTold v0 M0) := by
  refine sC_v (ls := [some (.ref v0), none, none, none, none, none]) (by decide +kernel) rfl (Nat.le_of_ble_eq_true rfl) (fun r M' K hr => ?_)
  unfold f_X12_qPartTold
  have xB237 : ∀ (v0 : Nat) (s0 : Nat) (s1 : Int32) (M : sMem), sX G l 6 yX12_qPartTold cX12_qPartTold 6 none M0 r M' 237 [some (.ref v0), none, none, none, none, none] [.int s1, .ref s0] M (f_X12_qPartTold_B237 v0 s0 s1 M) K := by
    intro v0 s0 s1 M
    unfold f_X12_qPartTold_B237
    refine sX_callVv (As := [.int s1]) (by decide +kernel) lm_X12_675 mf_X12_qCode mi_X12_qCode mc_12 (m_X12_qCode G l s0 s1 M) (fun _ h => sRc_some h) (by decide) rfl rfl (Nat.le_of_ble_eq_true rfl) (fun M1 => ?_)
    refine sX_aload_n (i := 0) (by decide +kernel) rfl ?_
    refine sX_callVv (As := []) (by decide +kernel) lm_X12_699 mf_X12_qEndsPart mi_X12_qEndsPart mc_12 (m_X12_qEndsPart G l v0 M1) (fun _ h => sRc_some h) (by decide) rfl rfl (Nat.le_of_ble_eq_true rfl) (fun M2 => ?_)
    exact sX_some (fun h _ => sW_vret (by decide +kernel) rfl (hr _ h).1.symm (hr _ h).2.symm)
  have xB212 : ∀ (v0 : Nat) (v2 : Int32) (M : sMem), sX G l 6 yX12_qPartTold cX12_qPartTold 6 none M0 r M' 212 [some (.ref v0), none, some (.int v2), none, none, none] [] M (f_X12_qPartTold_B212 v0 v2 M) K := by
    intro v0 v2 M
    unfold f_X12_qPartTold_B212
    refine sX_aload_n (i := 0) (by decide +kernel) rfl ?_
    refine sX_iload_n (i := 2) (by decide +kernel) rfl ?_
    refine sX_iconst (n := -1) (v := (-1 : Int32)) (by decide +kernel) (by decide) ?_
    refine sX_iceq (o := 10) (t := 225) (by decide +kernel) (by decide) (fun _ => ?_) (fun _ => ?_)
    · refine sX_sipush (n := 1000) (v := (1000 : Int32)) (by decide +kernel) (by decide) ?_
      refine sX_aload_n (i := 0) (by decide +kernel) rfl ?_
      refine sX_iconst (n := 0) (v := (0 : Int32)) (by decide +kernel) (by decide) ?_
      refine sX_sipush (n := 9999) (v := (9999 : Int32)) (by decide +kernel) (by decide) ?_
      refine sX_callV (As := [.int (0 : Int32), .int (9999 : Int32)]) (by decide +kernel) lm_X12_377 mf_X12_number mi_X12_number mc_12 (m_X12_number G l v0 ((0 : Int32)) ((9999 : Int32)) M) (fun _ h => sRc_some h) (by decide) rfl rfl (Nat.le_of_ble_eq_true rfl) (fun x3 M4 _ => ?_)
      refine sX_iadd (by decide +kernel) ?_
      exact sX.le (xB237 v0 v0 (((1000 : Int32) + x3)) M4) (sLe_s (sLe_n (sLe_n (sLe_n (sLe_n (sLe_n sLe_e))))))
    · refine sX_bipush (n := 40) (v := (40 : Int32)) (by decide +kernel) (by decide) ?_
      refine sX_iload_n (i := 2) (by decide +kernel) rfl ?_
      refine sX_iadd (by decide +kernel) ?_
      refine sX_goto (o := 15) (t := 237) (by decide +kernel) (by decide) ?_
      exact sX.le (xB237 v0 v0 (((40 : Int32) + v2)) M) (sLe_s (sLe_n (sLe_n (sLe_n (sLe_n (sLe_n sLe_e))))))
  have xB186 : ∀ (v0 : Nat) (M : sMem), sX G l 6 yX12_qPartTold cX12_qPartTold 6 none M0 r M' 186 [some (.ref v0), none, none, none, none, none] [] M (f_X12_qPartTold_B186 v0 M) K := by
    intro v0 M
    unfold f_X12_qPartTold_B186
    refine sX_aload_n (i := 0) (by decide +kernel) rfl ?_
    refine sX_getI lf_X12_300 tk_12_5 (by decide +kernel) (fun x5 => ?_)
    refine sX_ifeq (o := 4) (t := 194) (by decide +kernel) (by decide) (fun _ => ?_) (fun _ => ?_)
    · refine sX_aload_n (i := 0) (by decide +kernel) rfl ?_
      refine sX_iconst (n := 0) (v := (0 : Int32)) (by decide +kernel) (by decide) ?_
      refine sX_bipush (n := 13) (v := (13 : Int32)) (by decide +kernel) (by decide) ?_
      refine sX_callV (As := [.int (0 : Int32), .int (13 : Int32)]) (by decide +kernel) lm_X12_690 mf_X12_qWordOf mi_X12_qWordOf mc_12 (m_X12_qWordOf G l v0 ((0 : Int32)) ((13 : Int32)) M) (fun _ h => sRc_some h) (by decide) rfl rfl (Nat.le_of_ble_eq_true rfl) (fun x6 M7 _ => ?_)
      refine sX_istore_n (i := 2) (ls2 := [some (.ref v0), none, some (.int x6), none, none, none]) (by decide +kernel) (by decide) rfl ?_
      refine sX_iload_n (i := 2) (by decide +kernel) rfl ?_
      refine sX_iconst (n := -1) (v := (-1 : Int32)) (by decide +kernel) (by decide) ?_
      refine sX_iceq (o := 8) (t := 212) (by decide +kernel) (by decide) (fun _ => ?_) (fun _ => ?_)
      · exact sX.le (xB212 v0 x6 M7) (sLe_s (sLe_n (sLe_s (sLe_n (sLe_n (sLe_n sLe_e))))))
      · refine sX_aload_n (i := 0) (by decide +kernel) rfl ?_
        refine sX_iload_n (i := 2) (by decide +kernel) rfl ?_
        refine sX_callVv (As := [.int x6]) (by decide +kernel) lm_X12_696 mf_X12_qAsksWord mi_X12_qAsksWord mc_12 (m_X12_qAsksWord G l v0 x6 M7) (fun _ h => sRc_some h) (by decide) rfl rfl (Nat.le_of_ble_eq_true rfl) (fun M8 => ?_)
        exact sX.le (xB212 v0 x6 M8) (sLe_s (sLe_n (sLe_s (sLe_n (sLe_n (sLe_n sLe_e))))))
    · exact sX_some (fun h _ => sW_vret (by decide +kernel) rfl (hr _ h).1.symm (hr _ h).2.symm)
  have xL2 : ∀ (v0 : Nat) (v1 : Int32) (M : sMem), sX G l 6 yX12_qPartTold cX12_qPartTold 6 none M0 r M' 2 [some (.ref v0), some (.int v1), none, none, none, none] [] M (f_X12_qPartTold_L2 v0 v1 M) K := by
    intro v0 v1 M
    unfold f_X12_qPartTold_L2
    refine sX_bind ?_
    refine sX_loop (LS := fun a : (Int32 × sMem) => [some (.ref v0), some (.int a.1), none, none, none, none]) (MM := fun a => a.2) (fun K1 hb1 he1 => ?_) sFuel ((v1, M))
    have xB183 : ∀ (v1 : Int32) (M : sMem), sX G l 6 yX12_qPartTold cX12_qPartTold 6 none M0 r M' 183 [some (.ref v0), some (.int v1), none, none, none, none] [] M (f_X12_qPartTold_B183 v0 v1 M) K1 := by
      intro v1 M
      unfold f_X12_qPartTold_B183
      refine sX_goto (o := -181) (t := 2) (by decide +kernel) (by decide) ?_
      exact sX_back (a := (v1, M)) hb1 rfl (sLe_s (sLe_s (sLe_n (sLe_n (sLe_n (sLe_n sLe_e))))))
    have xB144 : ∀ (v1 : Int32) (M : sMem), sX G l 6 yX12_qPartTold cX12_qPartTold 6 none M0 r M' 144 [some (.ref v0), some (.int v1), none, none, none, none] [] M (f_X12_qPartTold_B144 v0 v1 M) K1 := by
      intro v1 M
      unfold f_X12_qPartTold_B144
      refine sX_aload_n (i := 0) (by decide +kernel) rfl ?_
      refine sX_bipush (n := 40) (v := (40 : Int32)) (by decide +kernel) (by decide) ?_
      refine sX_callVv (As := [.int (40 : Int32)]) (by decide +kernel) lm_X12_381 mf_X12_asksSign mi_X12_asksSign mc_12 (m_X12_asksSign G l v0 ((40 : Int32)) M) (fun _ h => sRc_some h) (by decide) rfl rfl (Nat.le_of_ble_eq_true rfl) (fun M9 => ?_)
      refine sX_goto (o := 33) (t := 183) (by decide +kernel) (by decide) ?_
      exact sX.le (xB183 v1 M9) (sLe_s (sLe_s (sLe_n (sLe_n (sLe_n (sLe_n sLe_e))))))
    have xB139 : ∀ (v1 : Int32) (v5 : Int32) (s0 : Nat) (s1 : Int32) (M : sMem), sX G l 6 yX12_qPartTold cX12_qPartTold 6 none M0 r M' 139 [some (.ref v0), some (.int v1), none, none, none, some (.int v5)] [.int s1, .ref s0] M (f_X12_qPartTold_B139 v0 v1 v5 s0 s1 M) K1 := by
      intro v1 v5 s0 s1 M
      unfold f_X12_qPartTold_B139
      refine sX_iload (i := 5) (by decide +kernel) rfl ?_
      refine sX_callVv (As := [.int s1, .int v5]) (by decide +kernel) lm_X12_693 mf_X12_qOpens mi_X12_qOpens mc_12 (m_X12_qOpens G l s0 s1 v5 M) (fun _ h => sRc_some h) (by decide) rfl rfl (Nat.le_of_ble_eq_true rfl) (fun M10 => ?_)
      exact sX.le (xB144 v1 M10) (sLe_s (sLe_s (sLe_n (sLe_n (sLe_n (sLe_n sLe_e))))))
    have xB118 : ∀ (v1 : Int32) (v4 : Int32) (s0 : Int32) (M : sMem), sX G l 6 yX12_qPartTold cX12_qPartTold 6 none M0 r M' 118 [some (.ref v0), some (.int v1), none, none, some (.int v4), none] [.int s0] M (f_X12_qPartTold_B118 v0 v1 v4 s0 M) K1 := by
      intro v1 v4 s0 M
      unfold f_X12_qPartTold_B118
      refine sX_istore (i := 5) (ls2 := [some (.ref v0), some (.int v1), none, none, some (.int v4), some (.int s0)]) (by decide +kernel) (by decide) rfl ?_
      refine sX_iload (i := 5) (by decide +kernel) rfl ?_
      refine sX_iconst (n := -1) (v := (-1 : Int32)) (by decide +kernel) (by decide) ?_
      refine sX_iceq (o := 21) (t := 144) (by decide +kernel) (by decide) (fun _ => ?_) (fun _ => ?_)
      · exact sX.le (xB144 v1 M) (sLe_s (sLe_s (sLe_n (sLe_n (sLe_n (sLe_n sLe_e))))))
      · refine sX_aload_n (i := 0) (by decide +kernel) rfl ?_
        refine sX_iload (i := 4) (by decide +kernel) rfl ?_
        refine sX_ifeq (o := 8) (t := 137) (by decide +kernel) (by decide) (fun _ => ?_) (fun _ => ?_)
        · refine sX_bipush (n := 22) (v := (22 : Int32)) (by decide +kernel) (by decide) ?_
          exact sX.le (xB139 v1 s0 v0 ((22 : Int32)) M) (sLe_s (sLe_s (sLe_n (sLe_n (sLe_n (sLe_s sLe_e))))))
        · refine sX_bipush (n := 21) (v := (21 : Int32)) (by decide +kernel) (by decide) ?_
          refine sX_goto (o := 5) (t := 139) (by decide +kernel) (by decide) ?_
          exact sX.le (xB139 v1 s0 v0 ((21 : Int32)) M) (sLe_s (sLe_s (sLe_n (sLe_n (sLe_n (sLe_s sLe_e))))))
    have xB101 : ∀ (v1 : Int32) (v4 : Int32) (M : sMem), sX G l 6 yX12_qPartTold cX12_qPartTold 6 none M0 r M' 101 [some (.ref v0), some (.int v1), none, none, some (.int v4), none] [] M (f_X12_qPartTold_B101 v0 v1 v4 M) K1 := by
      intro v1 v4 M
      unfold f_X12_qPartTold_B101
      refine sX_aload_n (i := 0) (by decide +kernel) rfl ?_
      refine sX_callV (As := []) (by decide +kernel) lm_X12_312 mf_X12_look mi_X12_look mc_12 (m_X12_look G l v0 M) (fun _ h => sRc_some h) (by decide) rfl rfl (Nat.le_of_ble_eq_true rfl) (fun x11 M12 _ => ?_)
      refine sX_bipush (n := 40) (v := (40 : Int32)) (by decide +kernel) (by decide) ?_
      refine sX_icne (o := 10) (t := 117) (by decide +kernel) (by decide) (fun _ => ?_) (fun _ => ?_)
      · refine sX_aload_n (i := 0) (by decide +kernel) rfl ?_
        refine sX_getI lf_X12_306 tk_12_2 (by decide +kernel) (fun x13 => ?_)
        refine sX_goto (o := 4) (t := 118) (by decide +kernel) (by decide) ?_
        exact sX.le (xB118 v1 v4 x13 M12) (sLe_s (sLe_s (sLe_n (sLe_n (sLe_s (sLe_n sLe_e))))))
      · refine sX_iconst (n := -1) (v := (-1 : Int32)) (by decide +kernel) (by decide) ?_
        exact sX.le (xB118 v1 v4 ((-1 : Int32)) M12) (sLe_s (sLe_s (sLe_n (sLe_n (sLe_s (sLe_n sLe_e))))))
    have xB78 : ∀ (v1 : Int32) (M : sMem), sX G l 6 yX12_qPartTold cX12_qPartTold 6 none M0 r M' 78 [some (.ref v0), some (.int v1), none, none, none, none] [] M (f_X12_qPartTold_B78 v0 v1 M) K1 := by
      intro v1 M
      unfold f_X12_qPartTold_B78
      refine sX_aload_n (i := 0) (by decide +kernel) rfl ?_
      refine sX_aload_n (i := 0) (by decide +kernel) rfl ?_
      refine sX_getR lf_X12_234 tk_12_98 (by decide +kernel) (fun x14 => ?_)
      refine sX_callV (As := [.ref x14]) (by decide +kernel) lm_X12_327 mf_X12_takes mi_X12_takes mc_12 (m_X12_takes G l v0 x14 M) (fun _ h => sRc_some h) (by decide) rfl rfl (Nat.le_of_ble_eq_true rfl) (fun x15 M16 _ => ?_)
      refine sX_istore (i := 4) (ls2 := [some (.ref v0), some (.int v1), none, none, some (.int x15), none]) (by decide +kernel) (by decide) rfl ?_
      refine sX_iload (i := 4) (by decide +kernel) rfl ?_
      refine sX_ifne (o := 11) (t := 101) (by decide +kernel) (by decide) (fun _ => ?_) (fun _ => ?_)
      · refine sX_aload_n (i := 0) (by decide +kernel) rfl ?_
        refine sX_aload_n (i := 0) (by decide +kernel) rfl ?_
        refine sX_getR lf_X12_237 tk_12_99 (by decide +kernel) (fun x17 => ?_)
        refine sX_callVv (As := [.ref x17]) (by decide +kernel) lm_X12_373 mf_X12_asks mi_X12_asks mc_12 (m_X12_asks G l v0 x17 M16) (fun _ h => sRc_some h) (by decide) rfl rfl (Nat.le_of_ble_eq_true rfl) (fun M18 => ?_)
        exact sX.le (xB101 v1 x15 M18) (sLe_s (sLe_s (sLe_n (sLe_n (sLe_s (sLe_n sLe_e))))))
      · exact sX.le (xB101 v1 x15 M16) (sLe_s (sLe_s (sLe_n (sLe_n (sLe_s (sLe_n sLe_e))))))
    have xK2 : ∀ (v1 : Int32) (M : sMem), sX G l 6 yX12_qPartTold cX12_qPartTold 6 none M0 r M' 2 [some (.ref v0), some (.int v1), none, none, none, none] [] M (f_X12_qPartTold_K2 v0 v1 M) K1 := by
      intro v1 M
      unfold f_X12_qPartTold_K2
      refine sX_iload_n (i := 1) (by decide +kernel) rfl ?_
      refine sX_ifeq (o := 183) (t := 186) (by decide +kernel) (by decide) (fun _ => ?_) (fun _ => ?_)
      · refine sX_exit he1 ?_
        exact sX.le (xB186 v0 M) (sLe_s (sLe_n (sLe_n (sLe_n (sLe_n (sLe_n sLe_e))))))
      · refine sX_aload_n (i := 0) (by decide +kernel) rfl ?_
        refine sX_getI lf_X12_300 tk_12_5 (by decide +kernel) (fun x19 => ?_)
        refine sX_ifne (o := 176) (t := 186) (by decide +kernel) (by decide) (fun _ => ?_) (fun _ => ?_)
        · refine sX_aload_n (i := 0) (by decide +kernel) rfl ?_
          refine sX_callV (As := []) (by decide +kernel) lm_X12_312 mf_X12_look mi_X12_look mc_12 (m_X12_look G l v0 M) (fun _ h => sRc_some h) (by decide) rfl rfl (Nat.le_of_ble_eq_true rfl) (fun x20 M21 _ => ?_)
          refine sX_istore_n (i := 2) (ls2 := [some (.ref v0), some (.int v1), some (.int x20), none, none, none]) (by decide +kernel) (by decide) rfl ?_
          refine sX_aload_n (i := 0) (by decide +kernel) rfl ?_
          refine sX_bipush (n := 13) (v := (13 : Int32)) (by decide +kernel) (by decide) ?_
          refine sX_bipush (n := 15) (v := (15 : Int32)) (by decide +kernel) (by decide) ?_
          refine sX_callV (As := [.int (13 : Int32), .int (15 : Int32)]) (by decide +kernel) lm_X12_690 mf_X12_qWordOf mi_X12_qWordOf mc_12 (m_X12_qWordOf G l v0 ((13 : Int32)) ((15 : Int32)) M21) (fun _ h => sRc_some h) (by decide) rfl rfl (Nat.le_of_ble_eq_true rfl) (fun x22 M23 _ => ?_)
          refine sX_istore_n (i := 3) (ls2 := [some (.ref v0), some (.int v1), some (.int x20), some (.int x22), none, none]) (by decide +kernel) (by decide) rfl ?_
          refine sX_iload_n (i := 2) (by decide +kernel) rfl ?_
          refine sX_bipush (n := 40) (v := (40 : Int32)) (by decide +kernel) (by decide) ?_
          refine sX_icne (o := 26) (t := 56) (by decide +kernel) (by decide) (fun _ => ?_) (fun _ => ?_)
          · refine sX_aload_n (i := 0) (by decide +kernel) rfl ?_
            refine sX_bipush (n := 20) (v := (20 : Int32)) (by decide +kernel) (by decide) ?_
            refine sX_aload_n (i := 0) (by decide +kernel) rfl ?_
            refine sX_getI lf_X12_306 tk_12_2 (by decide +kernel) (fun x24 => ?_)
            refine sX_callVv (As := [.int (20 : Int32), .int x24]) (by decide +kernel) lm_X12_693 mf_X12_qOpens mi_X12_qOpens mc_12 (m_X12_qOpens G l v0 ((20 : Int32)) x24 M23) (fun _ h => sRc_some h) (by decide) rfl rfl (Nat.le_of_ble_eq_true rfl) (fun M25 => ?_)
            refine sX_aload_n (i := 0) (by decide +kernel) rfl ?_
            refine sX_dup (by decide +kernel) rfl ?_
            refine sX_getI lf_X12_306 tk_12_2 (by decide +kernel) (fun x26 => ?_)
            refine sX_iconst (n := 1) (v := (1 : Int32)) (by decide +kernel) (by decide) ?_
            refine sX_iadd (by decide +kernel) ?_
            refine sX_putI lf_X12_306 tp_12_2 (by decide +kernel) (by decide) (fun M27 => ?_)
            refine sX_goto (o := 130) (t := 183) (by decide +kernel) (by decide) ?_
            exact sX.le (xB183 v1 M27) (sLe_s (sLe_s (sLe_n (sLe_n (sLe_n (sLe_n sLe_e))))))
          · refine sX_aload_n (i := 0) (by decide +kernel) rfl ?_
            refine sX_aload_n (i := 0) (by decide +kernel) rfl ?_
            refine sX_getR lf_X12_234 tk_12_98 (by decide +kernel) (fun x28 => ?_)
            refine sX_callV (As := [.ref x28]) (by decide +kernel) lm_X12_323 mf_X12_isHere mi_X12_isHere mc_12 (m_X12_isHere G l v0 x28 M23) (fun _ h => sRc_some h) (by decide) rfl rfl (Nat.le_of_ble_eq_true rfl) (fun x29 M30 _ => ?_)
            refine sX_ifne (o := 14) (t := 78) (by decide +kernel) (by decide) (fun _ => ?_) (fun _ => ?_)
            · refine sX_aload_n (i := 0) (by decide +kernel) rfl ?_
              refine sX_aload_n (i := 0) (by decide +kernel) rfl ?_
              refine sX_getR lf_X12_237 tk_12_99 (by decide +kernel) (fun x31 => ?_)
              refine sX_callV (As := [.ref x31]) (by decide +kernel) lm_X12_323 mf_X12_isHere mi_X12_isHere mc_12 (m_X12_isHere G l v0 x31 M30) (fun _ h => sRc_some h) (by decide) rfl rfl (Nat.le_of_ble_eq_true rfl) (fun x32 M33 _ => ?_)
              refine sX_ifeq (o := 78) (t := 153) (by decide +kernel) (by decide) (fun _ => ?_) (fun _ => ?_)
              · refine sX_iload_n (i := 3) (by decide +kernel) rfl ?_
                refine sX_iconst (n := -1) (v := (-1 : Int32)) (by decide +kernel) (by decide) ?_
                refine sX_iceq (o := 26) (t := 181) (by decide +kernel) (by decide) (fun _ => ?_) (fun _ => ?_)
                · refine sX_iconst (n := 0) (v := (0 : Int32)) (by decide +kernel) (by decide) ?_
                  refine sX_istore_n (i := 1) (ls2 := [some (.ref v0), some (.int (0 : Int32)), some (.int x20), some (.int x22), none, none]) (by decide +kernel) (by decide) rfl ?_
                  exact sX.le (xB183 ((0 : Int32)) M33) (sLe_s (sLe_s (sLe_n (sLe_n (sLe_n (sLe_n sLe_e))))))
                · refine sX_aload_n (i := 0) (by decide +kernel) rfl ?_
                  refine sX_bipush (n := 60) (v := (60 : Int32)) (by decide +kernel) (by decide) ?_
                  refine sX_iload_n (i := 3) (by decide +kernel) rfl ?_
                  refine sX_iadd (by decide +kernel) ?_
                  refine sX_bipush (n := 13) (v := (13 : Int32)) (by decide +kernel) (by decide) ?_
                  refine sX_isub (by decide +kernel) ?_
                  refine sX_aload_n (i := 0) (by decide +kernel) rfl ?_
                  refine sX_getI lf_X12_306 tk_12_2 (by decide +kernel) (fun x34 => ?_)
                  refine sX_callVv (As := [.int (((60 : Int32) + x22) - (13 : Int32)), .int x34]) (by decide +kernel) lm_X12_693 mf_X12_qOpens mi_X12_qOpens mc_12 (m_X12_qOpens G l v0 ((((60 : Int32) + x22) - (13 : Int32))) x34 M33) (fun _ h => sRc_some h) (by decide) rfl rfl (Nat.le_of_ble_eq_true rfl) (fun M35 => ?_)
                  refine sX_aload_n (i := 0) (by decide +kernel) rfl ?_
                  refine sX_iload_n (i := 3) (by decide +kernel) rfl ?_
                  refine sX_callVv (As := [.int x22]) (by decide +kernel) lm_X12_696 mf_X12_qAsksWord mi_X12_qAsksWord mc_12 (m_X12_qAsksWord G l v0 x22 M35) (fun _ h => sRc_some h) (by decide) rfl rfl (Nat.le_of_ble_eq_true rfl) (fun M36 => ?_)
                  refine sX_goto (o := 5) (t := 183) (by decide +kernel) (by decide) ?_
                  exact sX.le (xB183 v1 M36) (sLe_s (sLe_s (sLe_n (sLe_n (sLe_n (sLe_n sLe_e))))))
              · exact sX.le (xB78 v1 M33) (sLe_s (sLe_s (sLe_n (sLe_n (sLe_n (sLe_n sLe_e))))))
            · exact sX.le (xB78 v1 M30) (sLe_s (sLe_s (sLe_n (sLe_n (sLe_n (sLe_n sLe_e))))))
        · refine sX_exit he1 ?_
          exact sX.le (xB186 v0 M) (sLe_s (sLe_n (sLe_n (sLe_n (sLe_n (sLe_n sLe_e))))))
    exact fun a => xK2 a.1 a.2
  refine sX_rc ?_
  refine sX_iconst (n := 1) (v := (1 : Int32)) (by decide +kernel) (by decide) ?_
  refine sX_istore_n (i := 1) (ls2 := [some (.ref v0), some (.int (1 : Int32)), none, none, none, none]) (by decide +kernel) (by decide) rfl ?_
  exact sX.le (xL2 v0 ((1 : Int32)) M0) (sLe_s (sLe_s (sLe_n (sLe_n (sLe_n (sLe_n sLe_e))))))
def f_X12_qIsBracket (v0 : Int32) (M0 : sMem) : Option Int32 :=
  if v0 < (20 : Int32) then
    some ((0 : Int32))
  else
    if (24 : Int32) < v0 then
      some ((0 : Int32))
    else
      some ((1 : Int32))
set_option maxRecDepth 100000 in
set_option maxHeartbeats 4000000 in
theorem m_X12_qIsBracket (G : sG) (l : Launch) (v0 : Int32) (M0 : sMem) : sCp G l 1 yX12_qIsBracket cX12_qIsBracket 1 (some .boolean) [.int v0] M0 rvI (f_X12_qIsBracket v0 M0) := by
  refine sC_p (ls := [some (.int v0)]) (by decide +kernel) rfl (Nat.le_of_ble_eq_true rfl) (fun r M' K hr => ?_)
  unfold f_X12_qIsBracket
  refine sX_iload_n (i := 0) (by decide +kernel) rfl ?_
  refine sX_bipush (n := 20) (v := (20 : Int32)) (by decide +kernel) (by decide) ?_
  refine sX_iclt (o := 13) (t := 16) (by decide +kernel) (by decide) (fun _ => ?_) (fun _ => ?_)
  · refine sX_iconst (n := 0) (v := (0 : Int32)) (by decide +kernel) (by decide) ?_
    exact sX_some (fun h _ => sW_zret (by decide +kernel) rfl (by decide) (hr _ h).1.symm (hr _ h).2.symm)
  · refine sX_iload_n (i := 0) (by decide +kernel) rfl ?_
    refine sX_bipush (n := 24) (v := (24 : Int32)) (by decide +kernel) (by decide) ?_
    refine sX_icgt (o := 7) (t := 16) (by decide +kernel) (by decide) (fun _ => ?_) (fun _ => ?_)
    · refine sX_iconst (n := 0) (v := (0 : Int32)) (by decide +kernel) (by decide) ?_
      exact sX_some (fun h _ => sW_zret (by decide +kernel) rfl (by decide) (hr _ h).1.symm (hr _ h).2.symm)
    · refine sX_iconst (n := 1) (v := (1 : Int32)) (by decide +kernel) (by decide) ?_
      refine sX_goto (o := 4) (t := 17) (by decide +kernel) (by decide) ?_
      exact sX_some (fun h _ => sW_zret (by decide +kernel) rfl (by decide) (hr _ h).1.symm (hr _ h).2.symm)
def f_X12_qBracket_B33 (v0 : Nat) (v1 : Int32) (M0 : sMem) : Option Int32 :=
  (gI 12 127 120 M0 v0).bind fun x1 =>
  if v1 < x1 then
    some ((-1 : Int32))
  else
    (gR 12 127 117 M0 v0).bind fun x2 =>
    (ldI 14 M0 x2 v1).bind fun x3 =>
    some x3
def f_X12_qBracket_K7 (v0 : Nat) (v1 : Int32) (M0 : sMem) : Option ((Int32) ⊕ ((Int32))) :=
  (gI 12 127 120 M0 v0).bind fun x4 =>
  if v1 < x4 then
    some (.inr v1)
  else
    (gR 12 127 117 M0 v0).bind fun x5 =>
    (ldI 14 M0 x5 v1).bind fun x6 =>
    (f_X12_qIsBracket x6 M0).bind fun x7 =>
    if x7 = 0 then
      some (.inl (((v1 + (-1 : Int32)))))
    else
      some (.inr v1)
def f_X12_qBracket_L7 (v0 : Nat) (v1 : Int32) (M0 : sMem) : Option Int32 :=
  (sItr (fun a : (Int32) => f_X12_qBracket_K7 v0 a M0) sFuel v1).bind (fun b => f_X12_qBracket_B33 v0 b M0)
def f_X12_qBracket (v0 : Nat) (M0 : sMem) : Option Int32 :=
  sRc 12 127 M0 v0 (
    (gI 12 127 118 M0 v0).bind fun x8 =>
    f_X12_qBracket_L7 v0 ((x8 - (1 : Int32))) M0)
set_option maxRecDepth 100000 in
set_option maxHeartbeats 4000000 in
theorem m_X12_qBracket (G : sG) (l : Launch) (v0 : Nat) (M0 : sMem) : sCp G l 2 yX12_qBracket cX12_qBracket 2 (some .int) [.ref v0] M0 rvI (f_X12_qBracket v0 M0) := by
  refine sC_p (ls := [some (.ref v0), none]) (by decide +kernel) rfl (Nat.le_of_ble_eq_true rfl) (fun r M' K hr => ?_)
  unfold f_X12_qBracket
  have xB33 : ∀ (v0 : Nat) (v1 : Int32), sX G l 2 yX12_qBracket cX12_qBracket 2 (some .int) M0 r M' 33 [some (.ref v0), some (.int v1)] [] M0 (f_X12_qBracket_B33 v0 v1 M0) K := by
    intro v0 v1
    unfold f_X12_qBracket_B33
    refine sX_iload_n (i := 1) (by decide +kernel) rfl ?_
    refine sX_aload_n (i := 0) (by decide +kernel) rfl ?_
    refine sX_getI lf_X12_404 tk_12_120 (by decide +kernel) (fun x1 => ?_)
    refine sX_iclt (o := 12) (t := 50) (by decide +kernel) (by decide) (fun _ => ?_) (fun _ => ?_)
    · refine sX_iconst (n := -1) (v := (-1 : Int32)) (by decide +kernel) (by decide) ?_
      exact sX_some (fun h _ => sW_iret (by decide +kernel) rfl (hr _ h).1.symm (hr _ h).2.symm)
    · refine sX_aload_n (i := 0) (by decide +kernel) rfl ?_
      refine sX_getR lf_X12_288 tk_12_117 (by decide +kernel) (fun x2 => ?_)
      refine sX_iload_n (i := 1) (by decide +kernel) rfl ?_
      refine sX_iaload (by decide +kernel) (fun x3 => ?_)
      refine sX_goto (o := 4) (t := 51) (by decide +kernel) (by decide) ?_
      exact sX_some (fun h _ => sW_iret (by decide +kernel) rfl (hr _ h).1.symm (hr _ h).2.symm)
  have xL7 : ∀ (v0 : Nat) (v1 : Int32), sX G l 2 yX12_qBracket cX12_qBracket 2 (some .int) M0 r M' 7 [some (.ref v0), some (.int v1)] [] M0 (f_X12_qBracket_L7 v0 v1 M0) K := by
    intro v0 v1
    unfold f_X12_qBracket_L7
    refine sX_bind ?_
    refine sX_loop (LS := fun a : (Int32) => [some (.ref v0), some (.int a)]) (MM := fun a => M0) (fun K1 hb1 he1 => ?_) sFuel v1
    have xK7 : ∀ (v1 : Int32), sX G l 2 yX12_qBracket cX12_qBracket 2 (some .int) M0 r M' 7 [some (.ref v0), some (.int v1)] [] M0 (f_X12_qBracket_K7 v0 v1 M0) K1 := by
      intro v1
      unfold f_X12_qBracket_K7
      refine sX_iload_n (i := 1) (by decide +kernel) rfl ?_
      refine sX_aload_n (i := 0) (by decide +kernel) rfl ?_
      refine sX_getI lf_X12_404 tk_12_120 (by decide +kernel) (fun x4 => ?_)
      refine sX_iclt (o := 21) (t := 33) (by decide +kernel) (by decide) (fun _ => ?_) (fun _ => ?_)
      · refine sX_exit he1 ?_
        exact sX.le (xB33 v0 v1) (sLe_s (sLe_s sLe_e))
      · refine sX_aload_n (i := 0) (by decide +kernel) rfl ?_
        refine sX_getR lf_X12_288 tk_12_117 (by decide +kernel) (fun x5 => ?_)
        refine sX_iload_n (i := 1) (by decide +kernel) rfl ?_
        refine sX_iaload (by decide +kernel) (fun x6 => ?_)
        refine sX_callSp (As := [.int x6]) (by decide +kernel) lm_X12_678 mf_X12_qIsBracket ms_X12_qIsBracket (m_X12_qIsBracket G l x6 M0) (by decide) rfl rfl (Nat.le_of_ble_eq_true rfl) (fun x7 => ?_)
        refine sX_ifne (o := 9) (t := 33) (by decide +kernel) (by decide) (fun _ => ?_) (fun _ => ?_)
        · refine sX_iinc (i := 1) (n := -1) (v := v1 + (-1 : Int32)) (ls2 := [some (.ref v0), some (.int (v1 + (-1 : Int32)))]) (by decide +kernel) rfl rfl (by decide) rfl ?_
          refine sX_goto (o := -23) (t := 7) (by decide +kernel) (by decide) ?_
          exact sX_back (a := ((v1 + (-1 : Int32)))) hb1 rfl (sLe_s (sLe_s sLe_e))
        · refine sX_exit he1 ?_
          exact sX.le (xB33 v0 v1) (sLe_s (sLe_s sLe_e))
    exact fun a => xK7 a
  refine sX_rc ?_
  refine sX_aload_n (i := 0) (by decide +kernel) rfl ?_
  refine sX_getI lf_X12_398 tk_12_118 (by decide +kernel) (fun x8 => ?_)
  refine sX_iconst (n := 1) (v := (1 : Int32)) (by decide +kernel) (by decide) ?_
  refine sX_isub (by decide +kernel) ?_
  refine sX_istore_n (i := 1) (ls2 := [some (.ref v0), some (.int (x8 - (1 : Int32)))]) (by decide +kernel) (by decide) rfl ?_
  exact sX.le (xL7 v0 ((x8 - (1 : Int32)))) (sLe_s (sLe_s sLe_e))
def f_X12_qDropsToBracket_K0 (v0 : Nat) (M : sMem) : Option ((sMem) ⊕ ((sMem))) :=
  (gI 12 127 118 M v0).bind fun x1 =>
  (gI 12 127 120 M v0).bind fun x2 =>
  if x1 ≤ x2 then
    some (.inr M)
  else
    (gR 12 127 117 M v0).bind fun x3 =>
    (gI 12 127 118 M v0).bind fun x4 =>
    (ldI 14 M x3 ((x4 - (1 : Int32)))).bind fun x5 =>
    (f_X12_qIsBracket x5 M).bind fun x6 =>
    if x6 = 0 then
      (f_X12_qDrops v0 M).bind fun M7 =>
      some (.inl M7)
    else
      some (.inr M)
def f_X12_qDropsToBracket_L0 (v0 : Nat) (M : sMem) : Option sMem :=
  (sItr (fun a : (sMem) => f_X12_qDropsToBracket_K0 v0 a) sFuel M).bind (fun b => some b)
def f_X12_qDropsToBracket (v0 : Nat) (M0 : sMem) : Option sMem :=
  sRc 12 127 M0 v0 (
    f_X12_qDropsToBracket_L0 v0 M0)
set_option maxRecDepth 100000 in
set_option maxHeartbeats 4000000 in
theorem m_X12_qDropsToBracket (G : sG) (l : Launch) (v0 : Nat) (M0 : sMem) : sCv G l 3 yX12_qDropsToBracket cX12_qDropsToBracket 1 none [.ref v0] M0 (f_X12_qDropsToBracket v0 M0) := by
  refine sC_v (ls := [some (.ref v0)]) (by decide +kernel) rfl (Nat.le_of_ble_eq_true rfl) (fun r M' K hr => ?_)
  unfold f_X12_qDropsToBracket
  have xL0 : ∀ (v0 : Nat) (M : sMem), sX G l 3 yX12_qDropsToBracket cX12_qDropsToBracket 1 none M0 r M' 0 [some (.ref v0)] [] M (f_X12_qDropsToBracket_L0 v0 M) K := by
    intro v0 M
    unfold f_X12_qDropsToBracket_L0
    refine sX_bind ?_
    refine sX_loop (LS := fun a : (sMem) => [some (.ref v0)]) (MM := fun a => a) (fun K1 hb1 he1 => ?_) sFuel M
    have xK0 : ∀  (M : sMem), sX G l 3 yX12_qDropsToBracket cX12_qDropsToBracket 1 none M0 r M' 0 [some (.ref v0)] [] M (f_X12_qDropsToBracket_K0 v0 M) K1 := by
      intro M
      unfold f_X12_qDropsToBracket_K0
      refine sX_aload_n (i := 0) (by decide +kernel) rfl ?_
      refine sX_getI lf_X12_398 tk_12_118 (by decide +kernel) (fun x1 => ?_)
      refine sX_aload_n (i := 0) (by decide +kernel) rfl ?_
      refine sX_getI lf_X12_404 tk_12_120 (by decide +kernel) (fun x2 => ?_)
      refine sX_icle (o := 27) (t := 35) (by decide +kernel) (by decide) (fun _ => ?_) (fun _ => ?_)
      · refine sX_exit he1 ?_
        exact sX_some (fun h _ => sW_vret (by decide +kernel) rfl (hr _ h).1.symm (hr _ h).2.symm)
      · refine sX_aload_n (i := 0) (by decide +kernel) rfl ?_
        refine sX_getR lf_X12_288 tk_12_117 (by decide +kernel) (fun x3 => ?_)
        refine sX_aload_n (i := 0) (by decide +kernel) rfl ?_
        refine sX_getI lf_X12_398 tk_12_118 (by decide +kernel) (fun x4 => ?_)
        refine sX_iconst (n := 1) (v := (1 : Int32)) (by decide +kernel) (by decide) ?_
        refine sX_isub (by decide +kernel) ?_
        refine sX_iaload (by decide +kernel) (fun x5 => ?_)
        refine sX_callSp (As := [.int x5]) (by decide +kernel) lm_X12_678 mf_X12_qIsBracket ms_X12_qIsBracket (m_X12_qIsBracket G l x5 M) (by decide) rfl rfl (Nat.le_of_ble_eq_true rfl) (fun x6 => ?_)
        refine sX_ifne (o := 10) (t := 35) (by decide +kernel) (by decide) (fun _ => ?_) (fun _ => ?_)
        · refine sX_aload_n (i := 0) (by decide +kernel) rfl ?_
          refine sX_callVv (As := []) (by decide +kernel) lm_X12_681 mf_X12_qDrops mi_X12_qDrops mc_12 (m_X12_qDrops G l v0 M) (fun _ h => sRc_some h) (by decide) rfl rfl (Nat.le_of_ble_eq_true rfl) (fun M7 => ?_)
          refine sX_goto (o := -32) (t := 0) (by decide +kernel) (by decide) ?_
          exact sX_back (a := M7) hb1 rfl (sLe_s sLe_e)
        · refine sX_exit he1 ?_
          exact sX_some (fun h _ => sW_vret (by decide +kernel) rfl (hr _ h).1.symm (hr _ h).2.symm)
    exact fun a => xK0 a
  refine sX_rc ?_
  exact sX.le (xL0 v0 M0) (sLe_s sLe_e)
def f_X12_qIsOn (v0 : Nat) (v1 : Int32) (M0 : sMem) : Option Int32 :=
  sRc 12 127 M0 v0 (
    (gI 12 127 118 M0 v0).bind fun x1 =>
    if x1 ≤ 0 then
      some ((0 : Int32))
    else
      (gR 12 127 117 M0 v0).bind fun x2 =>
      (gI 12 127 118 M0 v0).bind fun x3 =>
      (ldI 14 M0 x2 ((x3 - (1 : Int32)))).bind fun x4 =>
      if x4 = v1 then
        some ((1 : Int32))
      else
        some ((0 : Int32)))
set_option maxRecDepth 100000 in
set_option maxHeartbeats 4000000 in
theorem m_X12_qIsOn (G : sG) (l : Launch) (v0 : Nat) (v1 : Int32) (M0 : sMem) : sCp G l 1 yX12_qIsOn cX12_qIsOn 2 (some .boolean) [.ref v0, .int v1] M0 rvI (f_X12_qIsOn v0 v1 M0) := by
  refine sC_p (ls := [some (.ref v0), some (.int v1)]) (by decide +kernel) rfl (Nat.le_of_ble_eq_true rfl) (fun r M' K hr => ?_)
  unfold f_X12_qIsOn
  refine sX_rc ?_
  refine sX_aload_n (i := 0) (by decide +kernel) rfl ?_
  refine sX_getI lf_X12_398 tk_12_118 (by decide +kernel) (fun x1 => ?_)
  refine sX_ifle (o := 22) (t := 26) (by decide +kernel) (by decide) (fun _ => ?_) (fun _ => ?_)
  · refine sX_iconst (n := 0) (v := (0 : Int32)) (by decide +kernel) (by decide) ?_
    exact sX_some (fun h _ => sW_zret (by decide +kernel) rfl (by decide) (hr _ h).1.symm (hr _ h).2.symm)
  · refine sX_aload_n (i := 0) (by decide +kernel) rfl ?_
    refine sX_getR lf_X12_288 tk_12_117 (by decide +kernel) (fun x2 => ?_)
    refine sX_aload_n (i := 0) (by decide +kernel) rfl ?_
    refine sX_getI lf_X12_398 tk_12_118 (by decide +kernel) (fun x3 => ?_)
    refine sX_iconst (n := 1) (v := (1 : Int32)) (by decide +kernel) (by decide) ?_
    refine sX_isub (by decide +kernel) ?_
    refine sX_iaload (by decide +kernel) (fun x4 => ?_)
    refine sX_iload_n (i := 1) (by decide +kernel) rfl ?_
    refine sX_icne (o := 7) (t := 26) (by decide +kernel) (by decide) (fun _ => ?_) (fun _ => ?_)
    · refine sX_iconst (n := 1) (v := (1 : Int32)) (by decide +kernel) (by decide) ?_
      refine sX_goto (o := 4) (t := 27) (by decide +kernel) (by decide) ?_
      exact sX_some (fun h _ => sW_zret (by decide +kernel) rfl (by decide) (hr _ h).1.symm (hr _ h).2.symm)
    · refine sX_iconst (n := 0) (v := (0 : Int32)) (by decide +kernel) (by decide) ?_
      exact sX_some (fun h _ => sW_zret (by decide +kernel) rfl (by decide) (hr _ h).1.symm (hr _ h).2.symm)
def f_X12_qGoesOn_B185 (v0 : Nat) (v1 : Int32) (M : sMem) : Option (Int32 × sMem) :=
  (gR 12 127 117 M v0).bind fun x1 =>
  (gI 12 127 118 M v0).bind fun x2 =>
  (stI M x1 x2 v1).bind fun M3 =>
  (gI 12 127 118 M3 v0).bind fun x4 =>
  (pI 12 127 118 M3 v0 ((x4 + (1 : Int32)))).bind fun M5 =>
  some (((1 : Int32), M5))
def f_X12_qGoesOn_B178 (v0 : Nat) (v1 : Int32) (M : sMem) : Option ((sMem) ⊕ ((sMem))) :=
  (f_X12_qDrops v0 M).bind fun M6 =>
  some (.inl M6)
def f_X12_qGoesOn_K162 (v0 : Nat) (v1 : Int32) (M : sMem) : Option ((sMem) ⊕ ((sMem))) :=
  (f_X12_qIsOn v0 ((3 : Int32)) M).bind fun x7 =>
  if x7 = 0 then
    (f_X12_qIsOn v0 ((4 : Int32)) M).bind fun x8 =>
    if x8 = 0 then
      some (.inr M)
    else
      f_X12_qGoesOn_B178 v0 v1 M
  else
    f_X12_qGoesOn_B178 v0 v1 M
def f_X12_qGoesOn_L162 (v0 : Nat) (v1 : Int32) (M : sMem) : Option (Int32 × sMem) :=
  (sItr (fun a : (sMem) => f_X12_qGoesOn_K162 v0 v1 a) sFuel M).bind (fun b => f_X12_qGoesOn_B185 v0 v1 b)
def f_X12_qGoesOn_B161 (v0 : Nat) (s0 : Int32) (M : sMem) : Option (Int32 × sMem) :=
  f_X12_qGoesOn_L162 v0 s0 M
def f_X12_qGoesOn_B140 (v0 : Nat) (M : sMem) : Option (Int32 × sMem) :=
  (gR 12 127 0 M v0).bind fun x9 =>
  (gI 12 127 2 M v0).bind fun x10 =>
  (ldI 14 M x9 ((x10 - (1 : Int32)))).bind fun x11 =>
  if x11 = (42 : Int32) then
    f_X12_qGoesOn_B161 v0 ((3 : Int32)) M
  else
    f_X12_qGoesOn_B161 v0 ((4 : Int32)) M
def f_X12_qGoesOn_B286 (v0 : Nat) (v1 : Int32) (M : sMem) : Option (Int32 × sMem) :=
  (gR 12 127 117 M v0).bind fun x12 =>
  (gI 12 127 118 M v0).bind fun x13 =>
  (stI M x12 x13 v1).bind fun M14 =>
  (gI 12 127 118 M14 v0).bind fun x15 =>
  (pI 12 127 118 M14 v0 ((x15 + (1 : Int32)))).bind fun M16 =>
  some (((1 : Int32), M16))
def f_X12_qGoesOn_B279 (v0 : Nat) (v1 : Int32) (M : sMem) : Option ((sMem) ⊕ ((sMem))) :=
  (f_X12_qDrops v0 M).bind fun M17 =>
  some (.inl M17)
def f_X12_qGoesOn_K247 (v0 : Nat) (v1 : Int32) (M : sMem) : Option ((sMem) ⊕ ((sMem))) :=
  (f_X12_qIsOn v0 ((3 : Int32)) M).bind fun x18 =>
  if x18 = 0 then
    (f_X12_qIsOn v0 ((4 : Int32)) M).bind fun x19 =>
    if x19 = 0 then
      (f_X12_qIsOn v0 ((1 : Int32)) M).bind fun x20 =>
      if x20 = 0 then
        (f_X12_qIsOn v0 ((2 : Int32)) M).bind fun x21 =>
        if x21 = 0 then
          some (.inr M)
        else
          f_X12_qGoesOn_B279 v0 v1 M
      else
        f_X12_qGoesOn_B279 v0 v1 M
    else
      f_X12_qGoesOn_B279 v0 v1 M
  else
    f_X12_qGoesOn_B279 v0 v1 M
def f_X12_qGoesOn_L247 (v0 : Nat) (v1 : Int32) (M : sMem) : Option (Int32 × sMem) :=
  (sItr (fun a : (sMem) => f_X12_qGoesOn_K247 v0 v1 a) sFuel M).bind (fun b => f_X12_qGoesOn_B286 v0 v1 b)
def f_X12_qGoesOn_B246 (v0 : Nat) (s0 : Int32) (M : sMem) : Option (Int32 × sMem) :=
  f_X12_qGoesOn_L247 v0 s0 M
def f_X12_qGoesOn_B225 (v0 : Nat) (M : sMem) : Option (Int32 × sMem) :=
  (gR 12 127 0 M v0).bind fun x22 =>
  (gI 12 127 2 M v0).bind fun x23 =>
  (ldI 14 M x22 ((x23 - (1 : Int32)))).bind fun x24 =>
  if x24 = (43 : Int32) then
    f_X12_qGoesOn_B246 v0 ((1 : Int32)) M
  else
    f_X12_qGoesOn_B246 v0 ((2 : Int32)) M
def f_X12_qGoesOn_B326 (v0 : Nat) (M : sMem) : Option (Int32 × sMem) :=
  (f_X12_asksSign v0 ((44 : Int32)) M).bind fun M25 =>
  (gI 12 127 5 M25 v0).bind fun x26 =>
  if x26 = 0 then
    (f_X12_qDropsToBracket v0 M25).bind fun M27 =>
    (gR 12 127 117 M27 v0).bind fun x28 =>
    (gI 12 127 118 M27 v0).bind fun x29 =>
    (ldI 14 M27 x28 ((x29 - (1 : Int32)))).bind fun x30 =>
    (stI M27 x28 ((x29 - (1 : Int32))) ((x30 + (2 : Int32)))).bind fun M31 =>
    some (((1 : Int32), M31))
  else
    some (((0 : Int32), M25))
def f_X12_qGoesOn_B122 (v0 : Nat) (M : sMem) : Option (Int32 × sMem) :=
  (f_X12_takesSign v0 ((42 : Int32)) M).bind fun (x32, M33) =>
  if x32 = 0 then
    (f_X12_takesSign v0 ((47 : Int32)) M33).bind fun (x34, M35) =>
    if x34 = 0 then
      (f_X12_takesSign v0 ((43 : Int32)) M35).bind fun (x36, M37) =>
      if x36 = 0 then
        (f_X12_takesSign v0 ((45 : Int32)) M37).bind fun (x38, M39) =>
        if x38 = 0 then
          (f_X12_qBracket v0 M39).bind fun x40 =>
          if x40 = (21 : Int32) then
            f_X12_qGoesOn_B326 v0 M39
          else
            (f_X12_qBracket v0 M39).bind fun x41 =>
            if x41 = (22 : Int32) then
              f_X12_qGoesOn_B326 v0 M39
            else
              (f_X12_qBracket v0 M39).bind fun x42 =>
              if x42 = (-1 : Int32) then
                some (((0 : Int32), M39))
              else
                (gI 12 127 5 M39 v0).bind fun x43 =>
                if x43 = 0 then
                  (gI 12 127 2 M39 v0).bind fun x44 =>
                  (f_X12_fail v0 ((1 : Int32)) x44 M39).bind fun M45 =>
                  some (((0 : Int32), M45))
                else
                  some (((0 : Int32), M39))
        else
          f_X12_qGoesOn_B225 v0 M39
      else
        f_X12_qGoesOn_B225 v0 M37
    else
      f_X12_qGoesOn_B140 v0 M35
  else
    f_X12_qGoesOn_B140 v0 M33
def f_X12_qGoesOn_B115 (v0 : Nat) (M : sMem) : Option ((sMem) ⊕ ((sMem))) :=
  (f_X12_qEndsPart v0 M).bind fun M46 =>
  some (.inl M46)
def f_X12_qGoesOn_B112 (v0 : Nat) (s0 : Nat) (s1 : Int32) (M : sMem) : Option ((sMem) ⊕ ((sMem))) :=
  (f_X12_qCode s0 s1 M).bind fun M47 =>
  f_X12_qGoesOn_B115 v0 M47
def f_X12_qGoesOn_B43 (v0 : Nat) (M : sMem) : Option ((sMem) ⊕ ((sMem))) :=
  (gI 12 127 2 M v0).bind fun x48 =>
  (pI 12 127 2 M v0 ((x48 + (1 : Int32)))).bind fun M49 =>
  (f_X12_qDropsToBracket v0 M49).bind fun M50 =>
  (gI 12 127 118 M50 v0).bind fun x51 =>
  (pI 12 127 118 M50 v0 ((x51 - (1 : Int32)))).bind fun M52 =>
  (gI 12 127 119 M52 v0).bind fun x53 =>
  (pI 12 127 119 M52 v0 ((x53 - (1 : Int32)))).bind fun M54 =>
  (gR 12 127 117 M54 v0).bind fun x55 =>
  (gI 12 127 118 M54 v0).bind fun x56 =>
  (ldI 14 M54 x55 x56).bind fun x57 =>
  if x57 = (20 : Int32) then
    f_X12_qGoesOn_B115 v0 M54
  else
    (gR 12 127 117 M54 v0).bind fun x58 =>
    (gI 12 127 118 M54 v0).bind fun x59 =>
    (ldI 14 M54 x58 x59).bind fun x60 =>
    if x60 = (23 : Int32) then
      f_X12_qGoesOn_B112 v0 v0 ((5 : Int32)) M54
    else
      f_X12_qGoesOn_B112 v0 v0 ((6 : Int32)) M54
def f_X12_qGoesOn_K0 (v0 : Nat) (M : sMem) : Option ((sMem) ⊕ ((sMem))) :=
  (gI 12 127 5 M v0).bind fun x61 =>
  if x61 = 0 then
    (f_X12_look v0 M).bind fun (x62, M63) =>
    if x62 = (41 : Int32) then
      (f_X12_qBracket v0 M63).bind fun x64 =>
      if x64 = (20 : Int32) then
        f_X12_qGoesOn_B43 v0 M63
      else
        (f_X12_qBracket v0 M63).bind fun x65 =>
        if x65 = (23 : Int32) then
          f_X12_qGoesOn_B43 v0 M63
        else
          (f_X12_qBracket v0 M63).bind fun x66 =>
          if x66 = (24 : Int32) then
            f_X12_qGoesOn_B43 v0 M63
          else
            some (.inr M63)
    else
      some (.inr M63)
  else
    some (.inr M)
def f_X12_qGoesOn_L0 (v0 : Nat) (M : sMem) : Option (Int32 × sMem) :=
  (sItr (fun a : (sMem) => f_X12_qGoesOn_K0 v0 a) sFuel M).bind (fun b => f_X12_qGoesOn_B122 v0 b)
def f_X12_qGoesOn (v0 : Nat) (M0 : sMem) : Option (Int32 × sMem) :=
  sRc 12 127 M0 v0 (
    f_X12_qGoesOn_L0 v0 M0)
set_option maxRecDepth 100000 in
set_option maxHeartbeats 4000000 in
theorem m_X12_qGoesOn (G : sG) (l : Launch) (v0 : Nat) (M0 : sMem) : sC G l 4 yX12_qGoesOn cX12_qGoesOn 2 (some .boolean) [.ref v0] M0 rvI (f_X12_qGoesOn v0 M0) := by
  refine sC_m (ls := [some (.ref v0), none]) (by decide +kernel) rfl (Nat.le_of_ble_eq_true rfl) (fun r M' K hr => ?_)
  unfold f_X12_qGoesOn
  have xB185 : ∀ (v0 : Nat) (v1 : Int32) (M : sMem), sX G l 4 yX12_qGoesOn cX12_qGoesOn 2 (some .boolean) M0 r M' 185 [some (.ref v0), some (.int v1)] [] M (f_X12_qGoesOn_B185 v0 v1 M) K := by
    intro v0 v1 M
    unfold f_X12_qGoesOn_B185
    refine sX_aload_n (i := 0) (by decide +kernel) rfl ?_
    refine sX_getR lf_X12_288 tk_12_117 (by decide +kernel) (fun x1 => ?_)
    refine sX_aload_n (i := 0) (by decide +kernel) rfl ?_
    refine sX_getI lf_X12_398 tk_12_118 (by decide +kernel) (fun x2 => ?_)
    refine sX_iload_n (i := 1) (by decide +kernel) rfl ?_
    refine sX_iastore (by decide +kernel) (by decide) (fun M3 => ?_)
    refine sX_aload_n (i := 0) (by decide +kernel) rfl ?_
    refine sX_dup (by decide +kernel) rfl ?_
    refine sX_getI lf_X12_398 tk_12_118 (by decide +kernel) (fun x4 => ?_)
    refine sX_iconst (n := 1) (v := (1 : Int32)) (by decide +kernel) (by decide) ?_
    refine sX_iadd (by decide +kernel) ?_
    refine sX_putI lf_X12_398 tp_12_118 (by decide +kernel) (by decide) (fun M5 => ?_)
    refine sX_iconst (n := 1) (v := (1 : Int32)) (by decide +kernel) (by decide) ?_
    exact sX_some (fun h _ => sW_zret (by decide +kernel) rfl (by decide) (hr _ h).1.symm (hr _ h).2.symm)
  have xL162 : ∀ (v0 : Nat) (v1 : Int32) (M : sMem), sX G l 4 yX12_qGoesOn cX12_qGoesOn 2 (some .boolean) M0 r M' 162 [some (.ref v0), some (.int v1)] [] M (f_X12_qGoesOn_L162 v0 v1 M) K := by
    intro v0 v1 M
    unfold f_X12_qGoesOn_L162
    refine sX_bind ?_
    refine sX_loop (LS := fun a : (sMem) => [some (.ref v0), some (.int v1)]) (MM := fun a => a) (fun K1 hb1 he1 => ?_) sFuel M
    have xB178 : ∀ (M : sMem), sX G l 4 yX12_qGoesOn cX12_qGoesOn 2 (some .boolean) M0 r M' 178 [some (.ref v0), some (.int v1)] [] M (f_X12_qGoesOn_B178 v0 v1 M) K1 := by
      intro M
      unfold f_X12_qGoesOn_B178
      refine sX_aload_n (i := 0) (by decide +kernel) rfl ?_
      refine sX_callVv (As := []) (by decide +kernel) lm_X12_681 mf_X12_qDrops mi_X12_qDrops mc_12 (m_X12_qDrops G l v0 M) (fun _ h => sRc_some h) (by decide) rfl rfl (Nat.le_of_ble_eq_true rfl) (fun M6 => ?_)
      refine sX_goto (o := -20) (t := 162) (by decide +kernel) (by decide) ?_
      exact sX_back (a := M6) hb1 rfl (sLe_s (sLe_s sLe_e))
    have xK162 : ∀  (M : sMem), sX G l 4 yX12_qGoesOn cX12_qGoesOn 2 (some .boolean) M0 r M' 162 [some (.ref v0), some (.int v1)] [] M (f_X12_qGoesOn_K162 v0 v1 M) K1 := by
      intro M
      unfold f_X12_qGoesOn_K162
      refine sX_aload_n (i := 0) (by decide +kernel) rfl ?_
      refine sX_iconst (n := 3) (v := (3 : Int32)) (by decide +kernel) (by decide) ?_
      refine sX_callVp (As := [.int (3 : Int32)]) (by decide +kernel) lm_X12_708 mf_X12_qIsOn mi_X12_qIsOn mc_12 (m_X12_qIsOn G l v0 ((3 : Int32)) M) (fun _ h => sRc_some h) (by decide) rfl rfl (Nat.le_of_ble_eq_true rfl) (fun x7 => ?_)
      refine sX_ifne (o := 11) (t := 178) (by decide +kernel) (by decide) (fun _ => ?_) (fun _ => ?_)
      · refine sX_aload_n (i := 0) (by decide +kernel) rfl ?_
        refine sX_iconst (n := 4) (v := (4 : Int32)) (by decide +kernel) (by decide) ?_
        refine sX_callVp (As := [.int (4 : Int32)]) (by decide +kernel) lm_X12_708 mf_X12_qIsOn mi_X12_qIsOn mc_12 (m_X12_qIsOn G l v0 ((4 : Int32)) M) (fun _ h => sRc_some h) (by decide) rfl rfl (Nat.le_of_ble_eq_true rfl) (fun x8 => ?_)
        refine sX_ifeq (o := 10) (t := 185) (by decide +kernel) (by decide) (fun _ => ?_) (fun _ => ?_)
        · refine sX_exit he1 ?_
          exact sX.le (xB185 v0 v1 M) (sLe_s (sLe_s sLe_e))
        · exact sX.le (xB178 M) (sLe_s (sLe_s sLe_e))
      · exact sX.le (xB178 M) (sLe_s (sLe_s sLe_e))
    exact fun a => xK162 a
  have xB161 : ∀ (v0 : Nat) (s0 : Int32) (M : sMem), sX G l 4 yX12_qGoesOn cX12_qGoesOn 2 (some .boolean) M0 r M' 161 [some (.ref v0), none] [.int s0] M (f_X12_qGoesOn_B161 v0 s0 M) K := by
    intro v0 s0 M
    unfold f_X12_qGoesOn_B161
    refine sX_istore_n (i := 1) (ls2 := [some (.ref v0), some (.int s0)]) (by decide +kernel) (by decide) rfl ?_
    exact sX.le (xL162 v0 s0 M) (sLe_s (sLe_s sLe_e))
  have xB140 : ∀ (v0 : Nat) (M : sMem), sX G l 4 yX12_qGoesOn cX12_qGoesOn 2 (some .boolean) M0 r M' 140 [some (.ref v0), none] [] M (f_X12_qGoesOn_B140 v0 M) K := by
    intro v0 M
    unfold f_X12_qGoesOn_B140
    refine sX_aload_n (i := 0) (by decide +kernel) rfl ?_
    refine sX_getR lf_X12_7 tk_12_0 (by decide +kernel) (fun x9 => ?_)
    refine sX_aload_n (i := 0) (by decide +kernel) rfl ?_
    refine sX_getI lf_X12_306 tk_12_2 (by decide +kernel) (fun x10 => ?_)
    refine sX_iconst (n := 1) (v := (1 : Int32)) (by decide +kernel) (by decide) ?_
    refine sX_isub (by decide +kernel) ?_
    refine sX_iaload (by decide +kernel) (fun x11 => ?_)
    refine sX_bipush (n := 42) (v := (42 : Int32)) (by decide +kernel) (by decide) ?_
    refine sX_icne (o := 7) (t := 160) (by decide +kernel) (by decide) (fun _ => ?_) (fun _ => ?_)
    · refine sX_iconst (n := 3) (v := (3 : Int32)) (by decide +kernel) (by decide) ?_
      refine sX_goto (o := 4) (t := 161) (by decide +kernel) (by decide) ?_
      exact sX.le (xB161 v0 ((3 : Int32)) M) (sLe_s (sLe_n sLe_e))
    · refine sX_iconst (n := 4) (v := (4 : Int32)) (by decide +kernel) (by decide) ?_
      exact sX.le (xB161 v0 ((4 : Int32)) M) (sLe_s (sLe_n sLe_e))
  have xB286 : ∀ (v0 : Nat) (v1 : Int32) (M : sMem), sX G l 4 yX12_qGoesOn cX12_qGoesOn 2 (some .boolean) M0 r M' 286 [some (.ref v0), some (.int v1)] [] M (f_X12_qGoesOn_B286 v0 v1 M) K := by
    intro v0 v1 M
    unfold f_X12_qGoesOn_B286
    refine sX_aload_n (i := 0) (by decide +kernel) rfl ?_
    refine sX_getR lf_X12_288 tk_12_117 (by decide +kernel) (fun x12 => ?_)
    refine sX_aload_n (i := 0) (by decide +kernel) rfl ?_
    refine sX_getI lf_X12_398 tk_12_118 (by decide +kernel) (fun x13 => ?_)
    refine sX_iload_n (i := 1) (by decide +kernel) rfl ?_
    refine sX_iastore (by decide +kernel) (by decide) (fun M14 => ?_)
    refine sX_aload_n (i := 0) (by decide +kernel) rfl ?_
    refine sX_dup (by decide +kernel) rfl ?_
    refine sX_getI lf_X12_398 tk_12_118 (by decide +kernel) (fun x15 => ?_)
    refine sX_iconst (n := 1) (v := (1 : Int32)) (by decide +kernel) (by decide) ?_
    refine sX_iadd (by decide +kernel) ?_
    refine sX_putI lf_X12_398 tp_12_118 (by decide +kernel) (by decide) (fun M16 => ?_)
    refine sX_iconst (n := 1) (v := (1 : Int32)) (by decide +kernel) (by decide) ?_
    exact sX_some (fun h _ => sW_zret (by decide +kernel) rfl (by decide) (hr _ h).1.symm (hr _ h).2.symm)
  have xL247 : ∀ (v0 : Nat) (v1 : Int32) (M : sMem), sX G l 4 yX12_qGoesOn cX12_qGoesOn 2 (some .boolean) M0 r M' 247 [some (.ref v0), some (.int v1)] [] M (f_X12_qGoesOn_L247 v0 v1 M) K := by
    intro v0 v1 M
    unfold f_X12_qGoesOn_L247
    refine sX_bind ?_
    refine sX_loop (LS := fun a : (sMem) => [some (.ref v0), some (.int v1)]) (MM := fun a => a) (fun K1 hb1 he1 => ?_) sFuel M
    have xB279 : ∀ (M : sMem), sX G l 4 yX12_qGoesOn cX12_qGoesOn 2 (some .boolean) M0 r M' 279 [some (.ref v0), some (.int v1)] [] M (f_X12_qGoesOn_B279 v0 v1 M) K1 := by
      intro M
      unfold f_X12_qGoesOn_B279
      refine sX_aload_n (i := 0) (by decide +kernel) rfl ?_
      refine sX_callVv (As := []) (by decide +kernel) lm_X12_681 mf_X12_qDrops mi_X12_qDrops mc_12 (m_X12_qDrops G l v0 M) (fun _ h => sRc_some h) (by decide) rfl rfl (Nat.le_of_ble_eq_true rfl) (fun M17 => ?_)
      refine sX_goto (o := -36) (t := 247) (by decide +kernel) (by decide) ?_
      exact sX_back (a := M17) hb1 rfl (sLe_s (sLe_s sLe_e))
    have xK247 : ∀  (M : sMem), sX G l 4 yX12_qGoesOn cX12_qGoesOn 2 (some .boolean) M0 r M' 247 [some (.ref v0), some (.int v1)] [] M (f_X12_qGoesOn_K247 v0 v1 M) K1 := by
      intro M
      unfold f_X12_qGoesOn_K247
      refine sX_aload_n (i := 0) (by decide +kernel) rfl ?_
      refine sX_iconst (n := 3) (v := (3 : Int32)) (by decide +kernel) (by decide) ?_
      refine sX_callVp (As := [.int (3 : Int32)]) (by decide +kernel) lm_X12_708 mf_X12_qIsOn mi_X12_qIsOn mc_12 (m_X12_qIsOn G l v0 ((3 : Int32)) M) (fun _ h => sRc_some h) (by decide) rfl rfl (Nat.le_of_ble_eq_true rfl) (fun x18 => ?_)
      refine sX_ifne (o := 27) (t := 279) (by decide +kernel) (by decide) (fun _ => ?_) (fun _ => ?_)
      · refine sX_aload_n (i := 0) (by decide +kernel) rfl ?_
        refine sX_iconst (n := 4) (v := (4 : Int32)) (by decide +kernel) (by decide) ?_
        refine sX_callVp (As := [.int (4 : Int32)]) (by decide +kernel) lm_X12_708 mf_X12_qIsOn mi_X12_qIsOn mc_12 (m_X12_qIsOn G l v0 ((4 : Int32)) M) (fun _ h => sRc_some h) (by decide) rfl rfl (Nat.le_of_ble_eq_true rfl) (fun x19 => ?_)
        refine sX_ifne (o := 19) (t := 279) (by decide +kernel) (by decide) (fun _ => ?_) (fun _ => ?_)
        · refine sX_aload_n (i := 0) (by decide +kernel) rfl ?_
          refine sX_iconst (n := 1) (v := (1 : Int32)) (by decide +kernel) (by decide) ?_
          refine sX_callVp (As := [.int (1 : Int32)]) (by decide +kernel) lm_X12_708 mf_X12_qIsOn mi_X12_qIsOn mc_12 (m_X12_qIsOn G l v0 ((1 : Int32)) M) (fun _ h => sRc_some h) (by decide) rfl rfl (Nat.le_of_ble_eq_true rfl) (fun x20 => ?_)
          refine sX_ifne (o := 11) (t := 279) (by decide +kernel) (by decide) (fun _ => ?_) (fun _ => ?_)
          · refine sX_aload_n (i := 0) (by decide +kernel) rfl ?_
            refine sX_iconst (n := 2) (v := (2 : Int32)) (by decide +kernel) (by decide) ?_
            refine sX_callVp (As := [.int (2 : Int32)]) (by decide +kernel) lm_X12_708 mf_X12_qIsOn mi_X12_qIsOn mc_12 (m_X12_qIsOn G l v0 ((2 : Int32)) M) (fun _ h => sRc_some h) (by decide) rfl rfl (Nat.le_of_ble_eq_true rfl) (fun x21 => ?_)
            refine sX_ifeq (o := 10) (t := 286) (by decide +kernel) (by decide) (fun _ => ?_) (fun _ => ?_)
            · refine sX_exit he1 ?_
              exact sX.le (xB286 v0 v1 M) (sLe_s (sLe_s sLe_e))
            · exact sX.le (xB279 M) (sLe_s (sLe_s sLe_e))
          · exact sX.le (xB279 M) (sLe_s (sLe_s sLe_e))
        · exact sX.le (xB279 M) (sLe_s (sLe_s sLe_e))
      · exact sX.le (xB279 M) (sLe_s (sLe_s sLe_e))
    exact fun a => xK247 a
  have xB246 : ∀ (v0 : Nat) (s0 : Int32) (M : sMem), sX G l 4 yX12_qGoesOn cX12_qGoesOn 2 (some .boolean) M0 r M' 246 [some (.ref v0), none] [.int s0] M (f_X12_qGoesOn_B246 v0 s0 M) K := by
    intro v0 s0 M
    unfold f_X12_qGoesOn_B246
    refine sX_istore_n (i := 1) (ls2 := [some (.ref v0), some (.int s0)]) (by decide +kernel) (by decide) rfl ?_
    exact sX.le (xL247 v0 s0 M) (sLe_s (sLe_s sLe_e))
  have xB225 : ∀ (v0 : Nat) (M : sMem), sX G l 4 yX12_qGoesOn cX12_qGoesOn 2 (some .boolean) M0 r M' 225 [some (.ref v0), none] [] M (f_X12_qGoesOn_B225 v0 M) K := by
    intro v0 M
    unfold f_X12_qGoesOn_B225
    refine sX_aload_n (i := 0) (by decide +kernel) rfl ?_
    refine sX_getR lf_X12_7 tk_12_0 (by decide +kernel) (fun x22 => ?_)
    refine sX_aload_n (i := 0) (by decide +kernel) rfl ?_
    refine sX_getI lf_X12_306 tk_12_2 (by decide +kernel) (fun x23 => ?_)
    refine sX_iconst (n := 1) (v := (1 : Int32)) (by decide +kernel) (by decide) ?_
    refine sX_isub (by decide +kernel) ?_
    refine sX_iaload (by decide +kernel) (fun x24 => ?_)
    refine sX_bipush (n := 43) (v := (43 : Int32)) (by decide +kernel) (by decide) ?_
    refine sX_icne (o := 7) (t := 245) (by decide +kernel) (by decide) (fun _ => ?_) (fun _ => ?_)
    · refine sX_iconst (n := 1) (v := (1 : Int32)) (by decide +kernel) (by decide) ?_
      refine sX_goto (o := 4) (t := 246) (by decide +kernel) (by decide) ?_
      exact sX.le (xB246 v0 ((1 : Int32)) M) (sLe_s (sLe_n sLe_e))
    · refine sX_iconst (n := 2) (v := (2 : Int32)) (by decide +kernel) (by decide) ?_
      exact sX.le (xB246 v0 ((2 : Int32)) M) (sLe_s (sLe_n sLe_e))
  have xB326 : ∀ (v0 : Nat) (M : sMem), sX G l 4 yX12_qGoesOn cX12_qGoesOn 2 (some .boolean) M0 r M' 326 [some (.ref v0), none] [] M (f_X12_qGoesOn_B326 v0 M) K := by
    intro v0 M
    unfold f_X12_qGoesOn_B326
    refine sX_aload_n (i := 0) (by decide +kernel) rfl ?_
    refine sX_bipush (n := 44) (v := (44 : Int32)) (by decide +kernel) (by decide) ?_
    refine sX_callVv (As := [.int (44 : Int32)]) (by decide +kernel) lm_X12_381 mf_X12_asksSign mi_X12_asksSign mc_12 (m_X12_asksSign G l v0 ((44 : Int32)) M) (fun _ h => sRc_some h) (by decide) rfl rfl (Nat.le_of_ble_eq_true rfl) (fun M25 => ?_)
    refine sX_aload_n (i := 0) (by decide +kernel) rfl ?_
    refine sX_getI lf_X12_300 tk_12_5 (by decide +kernel) (fun x26 => ?_)
    refine sX_ifeq (o := 5) (t := 341) (by decide +kernel) (by decide) (fun _ => ?_) (fun _ => ?_)
    · refine sX_aload_n (i := 0) (by decide +kernel) rfl ?_
      refine sX_callVv (As := []) (by decide +kernel) lm_X12_705 mf_X12_qDropsToBracket mi_X12_qDropsToBracket mc_12 (m_X12_qDropsToBracket G l v0 M25) (fun _ h => sRc_some h) (by decide) rfl rfl (Nat.le_of_ble_eq_true rfl) (fun M27 => ?_)
      refine sX_aload_n (i := 0) (by decide +kernel) rfl ?_
      refine sX_getR lf_X12_288 tk_12_117 (by decide +kernel) (fun x28 => ?_)
      refine sX_aload_n (i := 0) (by decide +kernel) rfl ?_
      refine sX_getI lf_X12_398 tk_12_118 (by decide +kernel) (fun x29 => ?_)
      refine sX_iconst (n := 1) (v := (1 : Int32)) (by decide +kernel) (by decide) ?_
      refine sX_isub (by decide +kernel) ?_
      refine sX_dup2 (by decide +kernel) rfl rfl ?_
      refine sX_iaload (by decide +kernel) (fun x30 => ?_)
      refine sX_iconst (n := 2) (v := (2 : Int32)) (by decide +kernel) (by decide) ?_
      refine sX_iadd (by decide +kernel) ?_
      refine sX_iastore (by decide +kernel) (by decide) (fun M31 => ?_)
      refine sX_iconst (n := 1) (v := (1 : Int32)) (by decide +kernel) (by decide) ?_
      exact sX_some (fun h _ => sW_zret (by decide +kernel) rfl (by decide) (hr _ h).1.symm (hr _ h).2.symm)
    · refine sX_iconst (n := 0) (v := (0 : Int32)) (by decide +kernel) (by decide) ?_
      exact sX_some (fun h _ => sW_zret (by decide +kernel) rfl (by decide) (hr _ h).1.symm (hr _ h).2.symm)
  have xB122 : ∀ (v0 : Nat) (M : sMem), sX G l 4 yX12_qGoesOn cX12_qGoesOn 2 (some .boolean) M0 r M' 122 [some (.ref v0), none] [] M (f_X12_qGoesOn_B122 v0 M) K := by
    intro v0 M
    unfold f_X12_qGoesOn_B122
    refine sX_aload_n (i := 0) (by decide +kernel) rfl ?_
    refine sX_bipush (n := 42) (v := (42 : Int32)) (by decide +kernel) (by decide) ?_
    refine sX_callV (As := [.int (42 : Int32)]) (by decide +kernel) lm_X12_334 mf_X12_takesSign mi_X12_takesSign mc_12 (m_X12_takesSign G l v0 ((42 : Int32)) M) (fun _ h => sRc_some h) (by decide) rfl rfl (Nat.le_of_ble_eq_true rfl) (fun x32 M33 _ => ?_)
    refine sX_ifne (o := 12) (t := 140) (by decide +kernel) (by decide) (fun _ => ?_) (fun _ => ?_)
    · refine sX_aload_n (i := 0) (by decide +kernel) rfl ?_
      refine sX_bipush (n := 47) (v := (47 : Int32)) (by decide +kernel) (by decide) ?_
      refine sX_callV (As := [.int (47 : Int32)]) (by decide +kernel) lm_X12_334 mf_X12_takesSign mi_X12_takesSign mc_12 (m_X12_takesSign G l v0 ((47 : Int32)) M33) (fun _ h => sRc_some h) (by decide) rfl rfl (Nat.le_of_ble_eq_true rfl) (fun x34 M35 _ => ?_)
      refine sX_ifeq (o := 70) (t := 207) (by decide +kernel) (by decide) (fun _ => ?_) (fun _ => ?_)
      · refine sX_aload_n (i := 0) (by decide +kernel) rfl ?_
        refine sX_bipush (n := 43) (v := (43 : Int32)) (by decide +kernel) (by decide) ?_
        refine sX_callV (As := [.int (43 : Int32)]) (by decide +kernel) lm_X12_334 mf_X12_takesSign mi_X12_takesSign mc_12 (m_X12_takesSign G l v0 ((43 : Int32)) M35) (fun _ h => sRc_some h) (by decide) rfl rfl (Nat.le_of_ble_eq_true rfl) (fun x36 M37 _ => ?_)
        refine sX_ifne (o := 12) (t := 225) (by decide +kernel) (by decide) (fun _ => ?_) (fun _ => ?_)
        · refine sX_aload_n (i := 0) (by decide +kernel) rfl ?_
          refine sX_bipush (n := 45) (v := (45 : Int32)) (by decide +kernel) (by decide) ?_
          refine sX_callV (As := [.int (45 : Int32)]) (by decide +kernel) lm_X12_334 mf_X12_takesSign mi_X12_takesSign mc_12 (m_X12_takesSign G l v0 ((45 : Int32)) M37) (fun _ h => sRc_some h) (by decide) rfl rfl (Nat.le_of_ble_eq_true rfl) (fun x38 M39 _ => ?_)
          refine sX_ifeq (o := 86) (t := 308) (by decide +kernel) (by decide) (fun _ => ?_) (fun _ => ?_)
          · refine sX_aload_n (i := 0) (by decide +kernel) rfl ?_
            refine sX_callVp (As := []) (by decide +kernel) lm_X12_702 mf_X12_qBracket mi_X12_qBracket mc_12 (m_X12_qBracket G l v0 M39) (fun _ h => sRc_some h) (by decide) rfl rfl (Nat.le_of_ble_eq_true rfl) (fun x40 => ?_)
            refine sX_bipush (n := 21) (v := (21 : Int32)) (by decide +kernel) (by decide) ?_
            refine sX_iceq (o := 12) (t := 326) (by decide +kernel) (by decide) (fun _ => ?_) (fun _ => ?_)
            · exact sX.le (xB326 v0 M39) (sLe_s (sLe_n sLe_e))
            · refine sX_aload_n (i := 0) (by decide +kernel) rfl ?_
              refine sX_callVp (As := []) (by decide +kernel) lm_X12_702 mf_X12_qBracket mi_X12_qBracket mc_12 (m_X12_qBracket G l v0 M39) (fun _ h => sRc_some h) (by decide) rfl rfl (Nat.le_of_ble_eq_true rfl) (fun x41 => ?_)
              refine sX_bipush (n := 22) (v := (22 : Int32)) (by decide +kernel) (by decide) ?_
              refine sX_icne (o := 39) (t := 362) (by decide +kernel) (by decide) (fun _ => ?_) (fun _ => ?_)
              · exact sX.le (xB326 v0 M39) (sLe_s (sLe_n sLe_e))
              · refine sX_aload_n (i := 0) (by decide +kernel) rfl ?_
                refine sX_callVp (As := []) (by decide +kernel) lm_X12_702 mf_X12_qBracket mi_X12_qBracket mc_12 (m_X12_qBracket G l v0 M39) (fun _ h => sRc_some h) (by decide) rfl rfl (Nat.le_of_ble_eq_true rfl) (fun x42 => ?_)
                refine sX_iconst (n := -1) (v := (-1 : Int32)) (by decide +kernel) (by decide) ?_
                refine sX_iceq (o := 19) (t := 386) (by decide +kernel) (by decide) (fun _ => ?_) (fun _ => ?_)
                · refine sX_iconst (n := 0) (v := (0 : Int32)) (by decide +kernel) (by decide) ?_
                  exact sX_some (fun h _ => sW_zret (by decide +kernel) rfl (by decide) (hr _ h).1.symm (hr _ h).2.symm)
                · refine sX_aload_n (i := 0) (by decide +kernel) rfl ?_
                  refine sX_getI lf_X12_300 tk_12_5 (by decide +kernel) (fun x43 => ?_)
                  refine sX_ifne (o := 12) (t := 386) (by decide +kernel) (by decide) (fun _ => ?_) (fun _ => ?_)
                  · refine sX_aload_n (i := 0) (by decide +kernel) rfl ?_
                    refine sX_iconst (n := 1) (v := (1 : Int32)) (by decide +kernel) (by decide) ?_
                    refine sX_aload_n (i := 0) (by decide +kernel) rfl ?_
                    refine sX_getI lf_X12_306 tk_12_2 (by decide +kernel) (fun x44 => ?_)
                    refine sX_callVv (As := [.int (1 : Int32), .int x44]) (by decide +kernel) lm_X12_330 mf_X12_fail mi_X12_fail mc_12 (m_X12_fail G l v0 ((1 : Int32)) x44 M39) (fun _ h => sRc_some h) (by decide) rfl rfl (Nat.le_of_ble_eq_true rfl) (fun M45 => ?_)
                    refine sX_iconst (n := 0) (v := (0 : Int32)) (by decide +kernel) (by decide) ?_
                    exact sX_some (fun h _ => sW_zret (by decide +kernel) rfl (by decide) (hr _ h).1.symm (hr _ h).2.symm)
                  · refine sX_iconst (n := 0) (v := (0 : Int32)) (by decide +kernel) (by decide) ?_
                    exact sX_some (fun h _ => sW_zret (by decide +kernel) rfl (by decide) (hr _ h).1.symm (hr _ h).2.symm)
          · exact sX.le (xB225 v0 M39) (sLe_s (sLe_n sLe_e))
        · exact sX.le (xB225 v0 M37) (sLe_s (sLe_n sLe_e))
      · exact sX.le (xB140 v0 M35) (sLe_s (sLe_n sLe_e))
    · exact sX.le (xB140 v0 M33) (sLe_s (sLe_n sLe_e))
  have xL0 : ∀ (v0 : Nat) (M : sMem), sX G l 4 yX12_qGoesOn cX12_qGoesOn 2 (some .boolean) M0 r M' 0 [some (.ref v0), none] [] M (f_X12_qGoesOn_L0 v0 M) K := by
    intro v0 M
    unfold f_X12_qGoesOn_L0
    refine sX_bind ?_
    refine sX_loop (LS := fun a : (sMem) => [some (.ref v0), none]) (MM := fun a => a) (fun K1 hb1 he1 => ?_) sFuel M
    have xB115 : ∀ (M : sMem), sX G l 4 yX12_qGoesOn cX12_qGoesOn 2 (some .boolean) M0 r M' 115 [some (.ref v0), none] [] M (f_X12_qGoesOn_B115 v0 M) K1 := by
      intro M
      unfold f_X12_qGoesOn_B115
      refine sX_aload_n (i := 0) (by decide +kernel) rfl ?_
      refine sX_callVv (As := []) (by decide +kernel) lm_X12_699 mf_X12_qEndsPart mi_X12_qEndsPart mc_12 (m_X12_qEndsPart G l v0 M) (fun _ h => sRc_some h) (by decide) rfl rfl (Nat.le_of_ble_eq_true rfl) (fun M46 => ?_)
      refine sX_goto (o := -119) (t := 0) (by decide +kernel) (by decide) ?_
      exact sX_back (a := M46) hb1 rfl (sLe_s (sLe_n sLe_e))
    have xB112 : ∀ (s0 : Nat) (s1 : Int32) (M : sMem), sX G l 4 yX12_qGoesOn cX12_qGoesOn 2 (some .boolean) M0 r M' 112 [some (.ref v0), none] [.int s1, .ref s0] M (f_X12_qGoesOn_B112 v0 s0 s1 M) K1 := by
      intro s0 s1 M
      unfold f_X12_qGoesOn_B112
      refine sX_callVv (As := [.int s1]) (by decide +kernel) lm_X12_675 mf_X12_qCode mi_X12_qCode mc_12 (m_X12_qCode G l s0 s1 M) (fun _ h => sRc_some h) (by decide) rfl rfl (Nat.le_of_ble_eq_true rfl) (fun M47 => ?_)
      exact sX.le (xB115 M47) (sLe_s (sLe_n sLe_e))
    have xB43 : ∀ (M : sMem), sX G l 4 yX12_qGoesOn cX12_qGoesOn 2 (some .boolean) M0 r M' 43 [some (.ref v0), none] [] M (f_X12_qGoesOn_B43 v0 M) K1 := by
      intro M
      unfold f_X12_qGoesOn_B43
      refine sX_aload_n (i := 0) (by decide +kernel) rfl ?_
      refine sX_dup (by decide +kernel) rfl ?_
      refine sX_getI lf_X12_306 tk_12_2 (by decide +kernel) (fun x48 => ?_)
      refine sX_iconst (n := 1) (v := (1 : Int32)) (by decide +kernel) (by decide) ?_
      refine sX_iadd (by decide +kernel) ?_
      refine sX_putI lf_X12_306 tp_12_2 (by decide +kernel) (by decide) (fun M49 => ?_)
      refine sX_aload_n (i := 0) (by decide +kernel) rfl ?_
      refine sX_callVv (As := []) (by decide +kernel) lm_X12_705 mf_X12_qDropsToBracket mi_X12_qDropsToBracket mc_12 (m_X12_qDropsToBracket G l v0 M49) (fun _ h => sRc_some h) (by decide) rfl rfl (Nat.le_of_ble_eq_true rfl) (fun M50 => ?_)
      refine sX_aload_n (i := 0) (by decide +kernel) rfl ?_
      refine sX_dup (by decide +kernel) rfl ?_
      refine sX_getI lf_X12_398 tk_12_118 (by decide +kernel) (fun x51 => ?_)
      refine sX_iconst (n := 1) (v := (1 : Int32)) (by decide +kernel) (by decide) ?_
      refine sX_isub (by decide +kernel) ?_
      refine sX_putI lf_X12_398 tp_12_118 (by decide +kernel) (by decide) (fun M52 => ?_)
      refine sX_aload_n (i := 0) (by decide +kernel) rfl ?_
      refine sX_dup (by decide +kernel) rfl ?_
      refine sX_getI lf_X12_401 tk_12_119 (by decide +kernel) (fun x53 => ?_)
      refine sX_iconst (n := 1) (v := (1 : Int32)) (by decide +kernel) (by decide) ?_
      refine sX_isub (by decide +kernel) ?_
      refine sX_putI lf_X12_401 tp_12_119 (by decide +kernel) (by decide) (fun M54 => ?_)
      refine sX_aload_n (i := 0) (by decide +kernel) rfl ?_
      refine sX_getR lf_X12_288 tk_12_117 (by decide +kernel) (fun x55 => ?_)
      refine sX_aload_n (i := 0) (by decide +kernel) rfl ?_
      refine sX_getI lf_X12_398 tk_12_118 (by decide +kernel) (fun x56 => ?_)
      refine sX_iaload (by decide +kernel) (fun x57 => ?_)
      refine sX_bipush (n := 20) (v := (20 : Int32)) (by decide +kernel) (by decide) ?_
      refine sX_iceq (o := 27) (t := 115) (by decide +kernel) (by decide) (fun _ => ?_) (fun _ => ?_)
      · exact sX.le (xB115 M54) (sLe_s (sLe_n sLe_e))
      · refine sX_aload_n (i := 0) (by decide +kernel) rfl ?_
        refine sX_aload_n (i := 0) (by decide +kernel) rfl ?_
        refine sX_getR lf_X12_288 tk_12_117 (by decide +kernel) (fun x58 => ?_)
        refine sX_aload_n (i := 0) (by decide +kernel) rfl ?_
        refine sX_getI lf_X12_398 tk_12_118 (by decide +kernel) (fun x59 => ?_)
        refine sX_iaload (by decide +kernel) (fun x60 => ?_)
        refine sX_bipush (n := 23) (v := (23 : Int32)) (by decide +kernel) (by decide) ?_
        refine sX_icne (o := 7) (t := 110) (by decide +kernel) (by decide) (fun _ => ?_) (fun _ => ?_)
        · refine sX_iconst (n := 5) (v := (5 : Int32)) (by decide +kernel) (by decide) ?_
          refine sX_goto (o := 5) (t := 112) (by decide +kernel) (by decide) ?_
          exact sX.le (xB112 v0 ((5 : Int32)) M54) (sLe_s (sLe_n sLe_e))
        · refine sX_bipush (n := 6) (v := (6 : Int32)) (by decide +kernel) (by decide) ?_
          exact sX.le (xB112 v0 ((6 : Int32)) M54) (sLe_s (sLe_n sLe_e))
    have xK0 : ∀  (M : sMem), sX G l 4 yX12_qGoesOn cX12_qGoesOn 2 (some .boolean) M0 r M' 0 [some (.ref v0), none] [] M (f_X12_qGoesOn_K0 v0 M) K1 := by
      intro M
      unfold f_X12_qGoesOn_K0
      refine sX_aload_n (i := 0) (by decide +kernel) rfl ?_
      refine sX_getI lf_X12_300 tk_12_5 (by decide +kernel) (fun x61 => ?_)
      refine sX_ifne (o := 118) (t := 122) (by decide +kernel) (by decide) (fun _ => ?_) (fun _ => ?_)
      · refine sX_aload_n (i := 0) (by decide +kernel) rfl ?_
        refine sX_callV (As := []) (by decide +kernel) lm_X12_312 mf_X12_look mi_X12_look mc_12 (m_X12_look G l v0 M) (fun _ h => sRc_some h) (by decide) rfl rfl (Nat.le_of_ble_eq_true rfl) (fun x62 M63 _ => ?_)
        refine sX_bipush (n := 41) (v := (41 : Int32)) (by decide +kernel) (by decide) ?_
        refine sX_icne (o := 109) (t := 122) (by decide +kernel) (by decide) (fun _ => ?_) (fun _ => ?_)
        · refine sX_aload_n (i := 0) (by decide +kernel) rfl ?_
          refine sX_callVp (As := []) (by decide +kernel) lm_X12_702 mf_X12_qBracket mi_X12_qBracket mc_12 (m_X12_qBracket G l v0 M63) (fun _ h => sRc_some h) (by decide) rfl rfl (Nat.le_of_ble_eq_true rfl) (fun x64 => ?_)
          refine sX_bipush (n := 20) (v := (20 : Int32)) (by decide +kernel) (by decide) ?_
          refine sX_iceq (o := 21) (t := 43) (by decide +kernel) (by decide) (fun _ => ?_) (fun _ => ?_)
          · exact sX.le (xB43 M63) (sLe_s (sLe_n sLe_e))
          · refine sX_aload_n (i := 0) (by decide +kernel) rfl ?_
            refine sX_callVp (As := []) (by decide +kernel) lm_X12_702 mf_X12_qBracket mi_X12_qBracket mc_12 (m_X12_qBracket G l v0 M63) (fun _ h => sRc_some h) (by decide) rfl rfl (Nat.le_of_ble_eq_true rfl) (fun x65 => ?_)
            refine sX_bipush (n := 23) (v := (23 : Int32)) (by decide +kernel) (by decide) ?_
            refine sX_iceq (o := 12) (t := 43) (by decide +kernel) (by decide) (fun _ => ?_) (fun _ => ?_)
            · exact sX.le (xB43 M63) (sLe_s (sLe_n sLe_e))
            · refine sX_aload_n (i := 0) (by decide +kernel) rfl ?_
              refine sX_callVp (As := []) (by decide +kernel) lm_X12_702 mf_X12_qBracket mi_X12_qBracket mc_12 (m_X12_qBracket G l v0 M63) (fun _ h => sRc_some h) (by decide) rfl rfl (Nat.le_of_ble_eq_true rfl) (fun x66 => ?_)
              refine sX_bipush (n := 24) (v := (24 : Int32)) (by decide +kernel) (by decide) ?_
              refine sX_icne (o := 82) (t := 122) (by decide +kernel) (by decide) (fun _ => ?_) (fun _ => ?_)
              · exact sX.le (xB43 M63) (sLe_s (sLe_n sLe_e))
              · refine sX_exit he1 ?_
                exact sX.le (xB122 v0 M63) (sLe_s (sLe_n sLe_e))
        · refine sX_exit he1 ?_
          exact sX.le (xB122 v0 M63) (sLe_s (sLe_n sLe_e))
      · refine sX_exit he1 ?_
        exact sX.le (xB122 v0 M) (sLe_s (sLe_n sLe_e))
    exact fun a => xK0 a
  refine sX_rc ?_
  exact sX.le (xL0 v0 M0) (sLe_s (sLe_n sLe_e))
def f_X12_qSums_B78 (v0 : Nat) (v1 : Int32) (M : sMem) : Option sMem :=
  (pI 12 127 120 M v0 v1).bind fun M1 =>
  some M1
def f_X12_qSums_K53 (v0 : Nat) (v1 : Int32) (M : sMem) : Option ((sMem) ⊕ ((sMem))) :=
  (gI 12 127 5 M v0).bind fun x2 =>
  if x2 = 0 then
    (gI 12 127 118 M v0).bind fun x3 =>
    (gI 12 127 120 M v0).bind fun x4 =>
    if x3 ≤ x4 then
      some (.inr M)
    else
      (f_X12_qDrops v0 M).bind fun M5 =>
      some (.inl M5)
  else
    some (.inr M)
def f_X12_qSums_L53 (v0 : Nat) (v1 : Int32) (M : sMem) : Option sMem :=
  (sItr (fun a : (sMem) => f_X12_qSums_K53 v0 v1 a) sFuel M).bind (fun b => f_X12_qSums_B78 v0 v1 b)
def f_X12_qSums_B49 (v0 : Nat) (v1 : Int32) (s0 : Int32) (M : sMem) : Option ((Int32 × sMem) ⊕ ((sMem))) :=
  some (.inl ((s0, M)))
def f_X12_qSums_B48 (v0 : Nat) (v1 : Int32) (M : sMem) : Option ((Int32 × sMem) ⊕ ((sMem))) :=
  f_X12_qSums_B49 v0 v1 ((0 : Int32)) M
def f_X12_qSums_K15 (v0 : Nat) (v1 : Int32) (v2 : Int32) (M : sMem) : Option ((Int32 × sMem) ⊕ ((sMem))) :=
  if v2 = 0 then
    some (.inr M)
  else
    (gI 12 127 5 M v0).bind fun x6 =>
    if x6 = 0 then
      (f_X12_qPartTold v0 M).bind fun M7 =>
      (gI 12 127 5 M7 v0).bind fun x8 =>
      if x8 = 0 then
        (f_X12_qGoesOn v0 M7).bind fun (x9, M10) =>
        if x9 = 0 then
          f_X12_qSums_B48 v0 v1 M10
        else
          f_X12_qSums_B49 v0 v1 ((1 : Int32)) M10
      else
        f_X12_qSums_B48 v0 v1 M7
    else
      some (.inr M)
def f_X12_qSums_L15 (v0 : Nat) (v1 : Int32) (v2 : Int32) (M : sMem) : Option sMem :=
  (sItr (fun a : (Int32 × sMem) => f_X12_qSums_K15 v0 v1 a.1 a.2) sFuel (v2, M)).bind (fun b => f_X12_qSums_L53 v0 v1 b)
def f_X12_qSums (v0 : Nat) (M0 : sMem) : Option sMem :=
  sRc 12 127 M0 v0 (
    (gI 12 127 120 M0 v0).bind fun x11 =>
    (gI 12 127 118 M0 v0).bind fun x12 =>
    (pI 12 127 120 M0 v0 x12).bind fun M13 =>
    f_X12_qSums_L15 v0 x11 ((1 : Int32)) M13)
set_option maxRecDepth 100000 in
set_option maxHeartbeats 4000000 in
theorem m_X12_qSums (G : sG) (l : Launch) (v0 : Nat) (M0 : sMem) : sCv G l 7 yX12_qSums cX12_qSums 3 none [.ref v0] M0 (f_X12_qSums v0 M0) := by
  refine sC_v (ls := [some (.ref v0), none, none]) (by decide +kernel) rfl (Nat.le_of_ble_eq_true rfl) (fun r M' K hr => ?_)
  unfold f_X12_qSums
  have xB78 : ∀ (v0 : Nat) (v1 : Int32) (M : sMem), sX G l 7 yX12_qSums cX12_qSums 3 none M0 r M' 78 [some (.ref v0), some (.int v1), none] [] M (f_X12_qSums_B78 v0 v1 M) K := by
    intro v0 v1 M
    unfold f_X12_qSums_B78
    refine sX_aload_n (i := 0) (by decide +kernel) rfl ?_
    refine sX_iload_n (i := 1) (by decide +kernel) rfl ?_
    refine sX_putI lf_X12_404 tp_12_120 (by decide +kernel) (by decide) (fun M1 => ?_)
    exact sX_some (fun h _ => sW_vret (by decide +kernel) rfl (hr _ h).1.symm (hr _ h).2.symm)
  have xL53 : ∀ (v0 : Nat) (v1 : Int32) (M : sMem), sX G l 7 yX12_qSums cX12_qSums 3 none M0 r M' 53 [some (.ref v0), some (.int v1), none] [] M (f_X12_qSums_L53 v0 v1 M) K := by
    intro v0 v1 M
    unfold f_X12_qSums_L53
    refine sX_bind ?_
    refine sX_loop (LS := fun a : (sMem) => [some (.ref v0), some (.int v1), none]) (MM := fun a => a) (fun K1 hb1 he1 => ?_) sFuel M
    have xK53 : ∀  (M : sMem), sX G l 7 yX12_qSums cX12_qSums 3 none M0 r M' 53 [some (.ref v0), some (.int v1), none] [] M (f_X12_qSums_K53 v0 v1 M) K1 := by
      intro M
      unfold f_X12_qSums_K53
      refine sX_aload_n (i := 0) (by decide +kernel) rfl ?_
      refine sX_getI lf_X12_300 tk_12_5 (by decide +kernel) (fun x2 => ?_)
      refine sX_ifne (o := 21) (t := 78) (by decide +kernel) (by decide) (fun _ => ?_) (fun _ => ?_)
      · refine sX_aload_n (i := 0) (by decide +kernel) rfl ?_
        refine sX_getI lf_X12_398 tk_12_118 (by decide +kernel) (fun x3 => ?_)
        refine sX_aload_n (i := 0) (by decide +kernel) rfl ?_
        refine sX_getI lf_X12_404 tk_12_120 (by decide +kernel) (fun x4 => ?_)
        refine sX_icle (o := 10) (t := 78) (by decide +kernel) (by decide) (fun _ => ?_) (fun _ => ?_)
        · refine sX_exit he1 ?_
          exact sX.le (xB78 v0 v1 M) (sLe_s (sLe_s (sLe_n sLe_e)))
        · refine sX_aload_n (i := 0) (by decide +kernel) rfl ?_
          refine sX_callVv (As := []) (by decide +kernel) lm_X12_681 mf_X12_qDrops mi_X12_qDrops mc_12 (m_X12_qDrops G l v0 M) (fun _ h => sRc_some h) (by decide) rfl rfl (Nat.le_of_ble_eq_true rfl) (fun M5 => ?_)
          refine sX_goto (o := -22) (t := 53) (by decide +kernel) (by decide) ?_
          exact sX_back (a := M5) hb1 rfl (sLe_s (sLe_s (sLe_n sLe_e)))
      · refine sX_exit he1 ?_
        exact sX.le (xB78 v0 v1 M) (sLe_s (sLe_s (sLe_n sLe_e)))
    exact fun a => xK53 a
  have xL15 : ∀ (v0 : Nat) (v1 : Int32) (v2 : Int32) (M : sMem), sX G l 7 yX12_qSums cX12_qSums 3 none M0 r M' 15 [some (.ref v0), some (.int v1), some (.int v2)] [] M (f_X12_qSums_L15 v0 v1 v2 M) K := by
    intro v0 v1 v2 M
    unfold f_X12_qSums_L15
    refine sX_bind ?_
    refine sX_loop (LS := fun a : (Int32 × sMem) => [some (.ref v0), some (.int v1), some (.int a.1)]) (MM := fun a => a.2) (fun K1 hb1 he1 => ?_) sFuel ((v2, M))
    have xB49 : ∀ (s0 : Int32) (M : sMem), sX G l 7 yX12_qSums cX12_qSums 3 none M0 r M' 49 [some (.ref v0), some (.int v1), none] [.int s0] M (f_X12_qSums_B49 v0 v1 s0 M) K1 := by
      intro s0 M
      unfold f_X12_qSums_B49
      refine sX_istore_n (i := 2) (ls2 := [some (.ref v0), some (.int v1), some (.int s0)]) (by decide +kernel) (by decide) rfl ?_
      refine sX_goto (o := -35) (t := 15) (by decide +kernel) (by decide) ?_
      exact sX_back (a := (s0, M)) hb1 rfl (sLe_s (sLe_s (sLe_s sLe_e)))
    have xB48 : ∀ (M : sMem), sX G l 7 yX12_qSums cX12_qSums 3 none M0 r M' 48 [some (.ref v0), some (.int v1), none] [] M (f_X12_qSums_B48 v0 v1 M) K1 := by
      intro M
      unfold f_X12_qSums_B48
      refine sX_iconst (n := 0) (v := (0 : Int32)) (by decide +kernel) (by decide) ?_
      exact sX.le (xB49 ((0 : Int32)) M) (sLe_s (sLe_s (sLe_n sLe_e)))
    have xK15 : ∀ (v2 : Int32) (M : sMem), sX G l 7 yX12_qSums cX12_qSums 3 none M0 r M' 15 [some (.ref v0), some (.int v1), some (.int v2)] [] M (f_X12_qSums_K15 v0 v1 v2 M) K1 := by
      intro v2 M
      unfold f_X12_qSums_K15
      refine sX_iload_n (i := 2) (by decide +kernel) rfl ?_
      refine sX_ifeq (o := 37) (t := 53) (by decide +kernel) (by decide) (fun _ => ?_) (fun _ => ?_)
      · refine sX_exit he1 ?_
        exact sX.le (xL53 v0 v1 M) (sLe_s (sLe_s (sLe_n sLe_e)))
      · refine sX_aload_n (i := 0) (by decide +kernel) rfl ?_
        refine sX_getI lf_X12_300 tk_12_5 (by decide +kernel) (fun x6 => ?_)
        refine sX_ifne (o := 30) (t := 53) (by decide +kernel) (by decide) (fun _ => ?_) (fun _ => ?_)
        · refine sX_aload_n (i := 0) (by decide +kernel) rfl ?_
          refine sX_callVv (As := []) (by decide +kernel) lm_X12_711 mf_X12_qPartTold mi_X12_qPartTold mc_12 (m_X12_qPartTold G l v0 M) (fun _ h => sRc_some h) (by decide) rfl rfl (Nat.le_of_ble_eq_true rfl) (fun M7 => ?_)
          refine sX_aload_n (i := 0) (by decide +kernel) rfl ?_
          refine sX_getI lf_X12_300 tk_12_5 (by decide +kernel) (fun x8 => ?_)
          refine sX_ifne (o := 14) (t := 48) (by decide +kernel) (by decide) (fun _ => ?_) (fun _ => ?_)
          · refine sX_aload_n (i := 0) (by decide +kernel) rfl ?_
            refine sX_callV (As := []) (by decide +kernel) lm_X12_714 mf_X12_qGoesOn mi_X12_qGoesOn mc_12 (m_X12_qGoesOn G l v0 M7) (fun _ h => sRc_some h) (by decide) rfl rfl (Nat.le_of_ble_eq_true rfl) (fun x9 M10 _ => ?_)
            refine sX_ifeq (o := 7) (t := 48) (by decide +kernel) (by decide) (fun _ => ?_) (fun _ => ?_)
            · exact sX.le (xB48 M10) (sLe_s (sLe_s (sLe_n sLe_e)))
            · refine sX_iconst (n := 1) (v := (1 : Int32)) (by decide +kernel) (by decide) ?_
              refine sX_goto (o := 4) (t := 49) (by decide +kernel) (by decide) ?_
              exact sX.le (xB49 ((1 : Int32)) M10) (sLe_s (sLe_s (sLe_n sLe_e)))
          · exact sX.le (xB48 M7) (sLe_s (sLe_s (sLe_n sLe_e)))
        · refine sX_exit he1 ?_
          exact sX.le (xL53 v0 v1 M) (sLe_s (sLe_s (sLe_n sLe_e)))
    exact fun a => xK15 a.1 a.2
  refine sX_rc ?_
  refine sX_aload_n (i := 0) (by decide +kernel) rfl ?_
  refine sX_getI lf_X12_404 tk_12_120 (by decide +kernel) (fun x11 => ?_)
  refine sX_istore_n (i := 1) (ls2 := [some (.ref v0), some (.int x11), none]) (by decide +kernel) (by decide) rfl ?_
  refine sX_aload_n (i := 0) (by decide +kernel) rfl ?_
  refine sX_aload_n (i := 0) (by decide +kernel) rfl ?_
  refine sX_getI lf_X12_398 tk_12_118 (by decide +kernel) (fun x12 => ?_)
  refine sX_putI lf_X12_404 tp_12_120 (by decide +kernel) (by decide) (fun M13 => ?_)
  refine sX_iconst (n := 1) (v := (1 : Int32)) (by decide +kernel) (by decide) ?_
  refine sX_istore_n (i := 2) (ls2 := [some (.ref v0), some (.int x11), some (.int (1 : Int32))]) (by decide +kernel) (by decide) rfl ?_
  exact sX.le (xL15 v0 x11 ((1 : Int32)) M13) (sLe_s (sLe_s (sLe_s sLe_e)))
def f_X12_qFact_B102 (s0 : Nat) (s1 : Int32) (M : sMem) : Option sMem :=
  (f_X12_qCode s0 s1 M).bind fun M1 =>
  some M1
def f_X12_qFact_B63 (v0 : Nat) (v1 : Int32) (M : sMem) : Option sMem :=
  (gI 12 127 2 M v0).bind fun x2 =>
  (pI 12 127 2 M v0 ((x2 + (1 : Int32)))).bind fun M3 =>
  (f_X12_qSums v0 M3).bind fun M4 =>
  if v1 = (60 : Int32) then
    f_X12_qFact_B102 v0 ((7 : Int32)) M4
  else
    if v1 = (62 : Int32) then
      f_X12_qFact_B102 v0 ((8 : Int32)) M4
    else
      f_X12_qFact_B102 v0 ((9 : Int32)) M4
def f_X12_qFact (v0 : Nat) (M0 : sMem) : Option sMem :=
  sRc 12 127 M0 v0 (
    (gR 12 127 97 M0 v0).bind fun x5 =>
    (f_X12_takes v0 x5 M0).bind fun (x6, M7) =>
    if x6 = 0 then
      (f_X12_qSums v0 M7).bind fun M8 =>
      (gI 12 127 5 M8 v0).bind fun x9 =>
      if x9 = 0 then
        (f_X12_look v0 M8).bind fun (x10, M11) =>
        if x10 = (60 : Int32) then
          f_X12_qFact_B63 v0 x10 M11
        else
          if x10 = (62 : Int32) then
            f_X12_qFact_B63 v0 x10 M11
          else
            if x10 = (61 : Int32) then
              f_X12_qFact_B63 v0 x10 M11
            else
              (gI 12 127 2 M11 v0).bind fun x12 =>
              (f_X12_fail v0 ((1 : Int32)) x12 M11).bind fun M13 =>
              some M13
      else
        some M8
    else
      (f_X12_qCode v0 ((13 : Int32)) M7).bind fun M14 =>
      some M14)
set_option maxRecDepth 100000 in
set_option maxHeartbeats 4000000 in
theorem m_X12_qFact (G : sG) (l : Launch) (v0 : Nat) (M0 : sMem) : sCv G l 8 yX12_qFact cX12_qFact 2 none [.ref v0] M0 (f_X12_qFact v0 M0) := by
  refine sC_v (ls := [some (.ref v0), none]) (by decide +kernel) rfl (Nat.le_of_ble_eq_true rfl) (fun r M' K hr => ?_)
  unfold f_X12_qFact
  have xB102 : ∀ (s0 : Nat) (s1 : Int32) (M : sMem), sX G l 8 yX12_qFact cX12_qFact 2 none M0 r M' 102 [none, none] [.int s1, .ref s0] M (f_X12_qFact_B102 s0 s1 M) K := by
    intro s0 s1 M
    unfold f_X12_qFact_B102
    refine sX_callVv (As := [.int s1]) (by decide +kernel) lm_X12_675 mf_X12_qCode mi_X12_qCode mc_12 (m_X12_qCode G l s0 s1 M) (fun _ h => sRc_some h) (by decide) rfl rfl (Nat.le_of_ble_eq_true rfl) (fun M1 => ?_)
    exact sX_some (fun h _ => sW_vret (by decide +kernel) rfl (hr _ h).1.symm (hr _ h).2.symm)
  have xB63 : ∀ (v0 : Nat) (v1 : Int32) (M : sMem), sX G l 8 yX12_qFact cX12_qFact 2 none M0 r M' 63 [some (.ref v0), some (.int v1)] [] M (f_X12_qFact_B63 v0 v1 M) K := by
    intro v0 v1 M
    unfold f_X12_qFact_B63
    refine sX_aload_n (i := 0) (by decide +kernel) rfl ?_
    refine sX_dup (by decide +kernel) rfl ?_
    refine sX_getI lf_X12_306 tk_12_2 (by decide +kernel) (fun x2 => ?_)
    refine sX_iconst (n := 1) (v := (1 : Int32)) (by decide +kernel) (by decide) ?_
    refine sX_iadd (by decide +kernel) ?_
    refine sX_putI lf_X12_306 tp_12_2 (by decide +kernel) (by decide) (fun M3 => ?_)
    refine sX_aload_n (i := 0) (by decide +kernel) rfl ?_
    refine sX_callVv (As := []) (by decide +kernel) lm_X12_410 mf_X12_qSums mi_X12_qSums mc_12 (m_X12_qSums G l v0 M3) (fun _ h => sRc_some h) (by decide) rfl rfl (Nat.le_of_ble_eq_true rfl) (fun M4 => ?_)
    refine sX_aload_n (i := 0) (by decide +kernel) rfl ?_
    refine sX_iload_n (i := 1) (by decide +kernel) rfl ?_
    refine sX_bipush (n := 60) (v := (60 : Int32)) (by decide +kernel) (by decide) ?_
    refine sX_icne (o := 8) (t := 89) (by decide +kernel) (by decide) (fun _ => ?_) (fun _ => ?_)
    · refine sX_bipush (n := 7) (v := (7 : Int32)) (by decide +kernel) (by decide) ?_
      refine sX_goto (o := 16) (t := 102) (by decide +kernel) (by decide) ?_
      exact sX.le (xB102 v0 ((7 : Int32)) M4) (sLe_n (sLe_n sLe_e))
    · refine sX_iload_n (i := 1) (by decide +kernel) rfl ?_
      refine sX_bipush (n := 62) (v := (62 : Int32)) (by decide +kernel) (by decide) ?_
      refine sX_icne (o := 8) (t := 100) (by decide +kernel) (by decide) (fun _ => ?_) (fun _ => ?_)
      · refine sX_bipush (n := 8) (v := (8 : Int32)) (by decide +kernel) (by decide) ?_
        refine sX_goto (o := 5) (t := 102) (by decide +kernel) (by decide) ?_
        exact sX.le (xB102 v0 ((8 : Int32)) M4) (sLe_n (sLe_n sLe_e))
      · refine sX_bipush (n := 9) (v := (9 : Int32)) (by decide +kernel) (by decide) ?_
        exact sX.le (xB102 v0 ((9 : Int32)) M4) (sLe_n (sLe_n sLe_e))
  refine sX_rc ?_
  refine sX_aload_n (i := 0) (by decide +kernel) rfl ?_
  refine sX_aload_n (i := 0) (by decide +kernel) rfl ?_
  refine sX_getR lf_X12_231 tk_12_97 (by decide +kernel) (fun x5 => ?_)
  refine sX_callV (As := [.ref x5]) (by decide +kernel) lm_X12_327 mf_X12_takes mi_X12_takes mc_12 (m_X12_takes G l v0 x5 M0) (fun _ h => sRc_some h) (by decide) rfl rfl (Nat.le_of_ble_eq_true rfl) (fun x6 M7 _ => ?_)
  refine sX_ifeq (o := 10) (t := 18) (by decide +kernel) (by decide) (fun _ => ?_) (fun _ => ?_)
  · refine sX_aload_n (i := 0) (by decide +kernel) rfl ?_
    refine sX_callVv (As := []) (by decide +kernel) lm_X12_410 mf_X12_qSums mi_X12_qSums mc_12 (m_X12_qSums G l v0 M7) (fun _ h => sRc_some h) (by decide) rfl rfl (Nat.le_of_ble_eq_true rfl) (fun M8 => ?_)
    refine sX_aload_n (i := 0) (by decide +kernel) rfl ?_
    refine sX_getI lf_X12_300 tk_12_5 (by decide +kernel) (fun x9 => ?_)
    refine sX_ifeq (o := 4) (t := 30) (by decide +kernel) (by decide) (fun _ => ?_) (fun _ => ?_)
    · refine sX_aload_n (i := 0) (by decide +kernel) rfl ?_
      refine sX_callV (As := []) (by decide +kernel) lm_X12_312 mf_X12_look mi_X12_look mc_12 (m_X12_look G l v0 M8) (fun _ h => sRc_some h) (by decide) rfl rfl (Nat.le_of_ble_eq_true rfl) (fun x10 M11 _ => ?_)
      refine sX_istore_n (i := 1) (ls2 := [some (.ref v0), some (.int x10)]) (by decide +kernel) (by decide) rfl ?_
      refine sX_iload_n (i := 1) (by decide +kernel) rfl ?_
      refine sX_bipush (n := 60) (v := (60 : Int32)) (by decide +kernel) (by decide) ?_
      refine sX_iceq (o := 25) (t := 63) (by decide +kernel) (by decide) (fun _ => ?_) (fun _ => ?_)
      · exact sX.le (xB63 v0 x10 M11) (sLe_s (sLe_s sLe_e))
      · refine sX_iload_n (i := 1) (by decide +kernel) rfl ?_
        refine sX_bipush (n := 62) (v := (62 : Int32)) (by decide +kernel) (by decide) ?_
        refine sX_iceq (o := 19) (t := 63) (by decide +kernel) (by decide) (fun _ => ?_) (fun _ => ?_)
        · exact sX.le (xB63 v0 x10 M11) (sLe_s (sLe_s sLe_e))
        · refine sX_iload_n (i := 1) (by decide +kernel) rfl ?_
          refine sX_bipush (n := 61) (v := (61 : Int32)) (by decide +kernel) (by decide) ?_
          refine sX_iceq (o := 13) (t := 63) (by decide +kernel) (by decide) (fun _ => ?_) (fun _ => ?_)
          · exact sX.le (xB63 v0 x10 M11) (sLe_s (sLe_s sLe_e))
          · refine sX_aload_n (i := 0) (by decide +kernel) rfl ?_
            refine sX_iconst (n := 1) (v := (1 : Int32)) (by decide +kernel) (by decide) ?_
            refine sX_aload_n (i := 0) (by decide +kernel) rfl ?_
            refine sX_getI lf_X12_306 tk_12_2 (by decide +kernel) (fun x12 => ?_)
            refine sX_callVv (As := [.int (1 : Int32), .int x12]) (by decide +kernel) lm_X12_330 mf_X12_fail mi_X12_fail mc_12 (m_X12_fail G l v0 ((1 : Int32)) x12 M11) (fun _ h => sRc_some h) (by decide) rfl rfl (Nat.le_of_ble_eq_true rfl) (fun M13 => ?_)
            exact sX_some (fun h _ => sW_vret (by decide +kernel) rfl (hr _ h).1.symm (hr _ h).2.symm)
    · exact sX_some (fun h _ => sW_vret (by decide +kernel) rfl (hr _ h).1.symm (hr _ h).2.symm)
  · refine sX_aload_n (i := 0) (by decide +kernel) rfl ?_
    refine sX_bipush (n := 13) (v := (13 : Int32)) (by decide +kernel) (by decide) ?_
    refine sX_callVv (As := [.int (13 : Int32)]) (by decide +kernel) lm_X12_675 mf_X12_qCode mi_X12_qCode mc_12 (m_X12_qCode G l v0 ((13 : Int32)) M7) (fun _ h => sRc_some h) (by decide) rfl rfl (Nat.le_of_ble_eq_true rfl) (fun M14 => ?_)
    exact sX_some (fun h _ => sW_vret (by decide +kernel) rfl (hr _ h).1.symm (hr _ h).2.symm)
def f_X12_qDropsNots_K0 (v0 : Nat) (M : sMem) : Option ((sMem) ⊕ ((sMem))) :=
  (gI 12 127 5 M v0).bind fun x1 =>
  if x1 = 0 then
    (f_X12_qIsOn v0 ((12 : Int32)) M).bind fun x2 =>
    if x2 = 0 then
      some (.inr M)
    else
      (gI 12 127 119 M v0).bind fun x3 =>
      (pI 12 127 119 M v0 ((x3 - (1 : Int32)))).bind fun M4 =>
      (f_X12_qDrops v0 M4).bind fun M5 =>
      some (.inl M5)
  else
    some (.inr M)
def f_X12_qDropsNots_L0 (v0 : Nat) (M : sMem) : Option sMem :=
  (sItr (fun a : (sMem) => f_X12_qDropsNots_K0 v0 a) sFuel M).bind (fun b => some b)
def f_X12_qDropsNots (v0 : Nat) (M0 : sMem) : Option sMem :=
  sRc 12 127 M0 v0 (
    f_X12_qDropsNots_L0 v0 M0)
set_option maxRecDepth 100000 in
set_option maxHeartbeats 4000000 in
theorem m_X12_qDropsNots (G : sG) (l : Launch) (v0 : Nat) (M0 : sMem) : sCv G l 3 yX12_qDropsNots cX12_qDropsNots 1 none [.ref v0] M0 (f_X12_qDropsNots v0 M0) := by
  refine sC_v (ls := [some (.ref v0)]) (by decide +kernel) rfl (Nat.le_of_ble_eq_true rfl) (fun r M' K hr => ?_)
  unfold f_X12_qDropsNots
  have xL0 : ∀ (v0 : Nat) (M : sMem), sX G l 3 yX12_qDropsNots cX12_qDropsNots 1 none M0 r M' 0 [some (.ref v0)] [] M (f_X12_qDropsNots_L0 v0 M) K := by
    intro v0 M
    unfold f_X12_qDropsNots_L0
    refine sX_bind ?_
    refine sX_loop (LS := fun a : (sMem) => [some (.ref v0)]) (MM := fun a => a) (fun K1 hb1 he1 => ?_) sFuel M
    have xK0 : ∀  (M : sMem), sX G l 3 yX12_qDropsNots cX12_qDropsNots 1 none M0 r M' 0 [some (.ref v0)] [] M (f_X12_qDropsNots_K0 v0 M) K1 := by
      intro M
      unfold f_X12_qDropsNots_K0
      refine sX_aload_n (i := 0) (by decide +kernel) rfl ?_
      refine sX_getI lf_X12_300 tk_12_5 (by decide +kernel) (fun x1 => ?_)
      refine sX_ifne (o := 29) (t := 33) (by decide +kernel) (by decide) (fun _ => ?_) (fun _ => ?_)
      · refine sX_aload_n (i := 0) (by decide +kernel) rfl ?_
        refine sX_bipush (n := 12) (v := (12 : Int32)) (by decide +kernel) (by decide) ?_
        refine sX_callVp (As := [.int (12 : Int32)]) (by decide +kernel) lm_X12_708 mf_X12_qIsOn mi_X12_qIsOn mc_12 (m_X12_qIsOn G l v0 ((12 : Int32)) M) (fun _ h => sRc_some h) (by decide) rfl rfl (Nat.le_of_ble_eq_true rfl) (fun x2 => ?_)
        refine sX_ifeq (o := 20) (t := 33) (by decide +kernel) (by decide) (fun _ => ?_) (fun _ => ?_)
        · refine sX_exit he1 ?_
          exact sX_some (fun h _ => sW_vret (by decide +kernel) rfl (hr _ h).1.symm (hr _ h).2.symm)
        · refine sX_aload_n (i := 0) (by decide +kernel) rfl ?_
          refine sX_dup (by decide +kernel) rfl ?_
          refine sX_getI lf_X12_401 tk_12_119 (by decide +kernel) (fun x3 => ?_)
          refine sX_iconst (n := 1) (v := (1 : Int32)) (by decide +kernel) (by decide) ?_
          refine sX_isub (by decide +kernel) ?_
          refine sX_putI lf_X12_401 tp_12_119 (by decide +kernel) (by decide) (fun M4 => ?_)
          refine sX_aload_n (i := 0) (by decide +kernel) rfl ?_
          refine sX_callVv (As := []) (by decide +kernel) lm_X12_681 mf_X12_qDrops mi_X12_qDrops mc_12 (m_X12_qDrops G l v0 M4) (fun _ h => sRc_some h) (by decide) rfl rfl (Nat.le_of_ble_eq_true rfl) (fun M5 => ?_)
          refine sX_goto (o := -30) (t := 0) (by decide +kernel) (by decide) ?_
          exact sX_back (a := M5) hb1 rfl (sLe_s sLe_e)
      · refine sX_exit he1 ?_
        exact sX_some (fun h _ => sW_vret (by decide +kernel) rfl (hr _ h).1.symm (hr _ h).2.symm)
    exact fun a => xK0 a
  refine sX_rc ?_
  exact sX.le (xL0 v0 M0) (sLe_s sLe_e)
def f_X12_qHasSquare_K2 (v0 : Nat) (v1 : Int32) (M0 : sMem) : Option ((Int32) ⊕ ((Int32))) :=
  (gI 12 127 118 M0 v0).bind fun x1 =>
  if x1 ≤ v1 then
    some (.inr ((0 : Int32)))
  else
    (gR 12 127 117 M0 v0).bind fun x2 =>
    (ldI 14 M0 x2 v1).bind fun x3 =>
    if x3 = (25 : Int32) then
      some (.inr ((1 : Int32)))
    else
      some (.inl (((v1 + (1 : Int32)))))
def f_X12_qHasSquare_L2 (v0 : Nat) (v1 : Int32) (M0 : sMem) : Option Int32 :=
  (sItr (fun a : (Int32) => f_X12_qHasSquare_K2 v0 a M0) sFuel v1).bind (fun b => some b)
def f_X12_qHasSquare (v0 : Nat) (M0 : sMem) : Option Int32 :=
  sRc 12 127 M0 v0 (
    f_X12_qHasSquare_L2 v0 ((0 : Int32)) M0)
set_option maxRecDepth 100000 in
set_option maxHeartbeats 4000000 in
theorem m_X12_qHasSquare (G : sG) (l : Launch) (v0 : Nat) (M0 : sMem) : sCp G l 1 yX12_qHasSquare cX12_qHasSquare 2 (some .boolean) [.ref v0] M0 rvI (f_X12_qHasSquare v0 M0) := by
  refine sC_p (ls := [some (.ref v0), none]) (by decide +kernel) rfl (Nat.le_of_ble_eq_true rfl) (fun r M' K hr => ?_)
  unfold f_X12_qHasSquare
  have xL2 : ∀ (v0 : Nat) (v1 : Int32), sX G l 1 yX12_qHasSquare cX12_qHasSquare 2 (some .boolean) M0 r M' 2 [some (.ref v0), some (.int v1)] [] M0 (f_X12_qHasSquare_L2 v0 v1 M0) K := by
    intro v0 v1
    unfold f_X12_qHasSquare_L2
    refine sX_bind ?_
    refine sX_loop (LS := fun a : (Int32) => [some (.ref v0), some (.int a)]) (MM := fun a => M0) (fun K1 hb1 he1 => ?_) sFuel v1
    have xK2 : ∀ (v1 : Int32), sX G l 1 yX12_qHasSquare cX12_qHasSquare 2 (some .boolean) M0 r M' 2 [some (.ref v0), some (.int v1)] [] M0 (f_X12_qHasSquare_K2 v0 v1 M0) K1 := by
      intro v1
      unfold f_X12_qHasSquare_K2
      refine sX_iload_n (i := 1) (by decide +kernel) rfl ?_
      refine sX_aload_n (i := 0) (by decide +kernel) rfl ?_
      refine sX_getI lf_X12_398 tk_12_118 (by decide +kernel) (fun x1 => ?_)
      refine sX_icge (o := 22) (t := 29) (by decide +kernel) (by decide) (fun _ => ?_) (fun _ => ?_)
      · refine sX_iconst (n := 0) (v := (0 : Int32)) (by decide +kernel) (by decide) ?_
        refine sX_exit he1 ?_
        exact sX_some (fun h _ => sW_zret (by decide +kernel) rfl (by decide) (hr _ h).1.symm (hr _ h).2.symm)
      · refine sX_aload_n (i := 0) (by decide +kernel) rfl ?_
        refine sX_getR lf_X12_288 tk_12_117 (by decide +kernel) (fun x2 => ?_)
        refine sX_iload_n (i := 1) (by decide +kernel) rfl ?_
        refine sX_iaload (by decide +kernel) (fun x3 => ?_)
        refine sX_bipush (n := 25) (v := (25 : Int32)) (by decide +kernel) (by decide) ?_
        refine sX_icne (o := 5) (t := 23) (by decide +kernel) (by decide) (fun _ => ?_) (fun _ => ?_)
        · refine sX_iconst (n := 1) (v := (1 : Int32)) (by decide +kernel) (by decide) ?_
          refine sX_exit he1 ?_
          exact sX_some (fun h _ => sW_zret (by decide +kernel) rfl (by decide) (hr _ h).1.symm (hr _ h).2.symm)
        · refine sX_iinc (i := 1) (n := 1) (v := v1 + (1 : Int32)) (ls2 := [some (.ref v0), some (.int (v1 + (1 : Int32)))]) (by decide +kernel) rfl rfl (by decide) rfl ?_
          refine sX_goto (o := -24) (t := 2) (by decide +kernel) (by decide) ?_
          exact sX_back (a := ((v1 + (1 : Int32)))) hb1 rfl (sLe_s (sLe_s sLe_e))
    exact fun a => xK2 a
  refine sX_rc ?_
  refine sX_iconst (n := 0) (v := (0 : Int32)) (by decide +kernel) (by decide) ?_
  refine sX_istore_n (i := 1) (ls2 := [some (.ref v0), some (.int (0 : Int32))]) (by decide +kernel) (by decide) rfl ?_
  exact sX.le (xL2 v0 ((0 : Int32))) (sLe_s (sLe_s sLe_e))
