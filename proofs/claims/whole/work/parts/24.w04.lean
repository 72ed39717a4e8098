def f_X5_readPart_B243 (F : Nat → Nat → Nat → Int64 → Int32 → Int32 → sMem → Option sMem) (s0 : Nat) (s1 : Int32) (M : sMem) : Option sMem :=
  (f_X6_add s0 s1 M).bind fun M1 =>
  some M1
def f_X5_readPart_B207 (F : Nat → Nat → Nat → Int64 → Int32 → Int32 → sMem → Option sMem) (v0 : Nat) (v1 : Nat) (v2 : Int64) (v4 : Int32) (v5 : Int32) (v6 : Int32) (M : sMem) : Option sMem :=
  (f_X5_mayOpen v0 v4 v5 M).bind fun (x2, M3) =>
  if x2 = 0 then
    some M3
  else
    (F 5 v0 v1 v2 ((v4 + (1 : Int32))) (0 : Int32) M3).bind fun M4 =>
    if v6 = (25 : Int32) then
      f_X5_readPart_B243 F v1 ((-13 : Int32)) M4
    else
      f_X5_readPart_B243 F v1 ((-14 : Int32)) M4
def f_X5_readPart_B174 (F : Nat → Nat → Nat → Int64 → Int32 → Int32 → sMem → Option sMem) (s0 : Nat) (s1 : Nat) (s2 : Int64) (s3 : Int32) (s4 : Int32) (M : sMem) : Option sMem :=
  (F 6 s0 s1 s2 s3 s4 M).bind fun M5 =>
  some M5
def f_X5_readPart_B141 (F : Nat → Nat → Nat → Int64 → Int32 → Int32 → sMem → Option sMem) (v0 : Nat) (v1 : Nat) (v2 : Int64) (v4 : Int32) (v5 : Int32) (v6 : Int32) (v7 : Int32) (M : sMem) : Option sMem :=
  (gR 5 2 0 M v0).bind fun x6 =>
  (f_X10_needWord x6 v6 M).bind fun M7 =>
  if v7 = 0 then
    if v6 = (31 : Int32) then
      f_X5_readPart_B174 F v0 v1 v2 v4 ((-10 : Int32)) M7
    else
      f_X5_readPart_B174 F v0 v1 v2 v4 ((-11 : Int32)) M7
  else
    if v6 = (25 : Int32) then
      f_X5_readPart_B207 F v0 v1 v2 v4 v5 v6 M7
    else
      if v6 = (26 : Int32) then
        f_X5_readPart_B207 F v0 v1 v2 v4 v5 v6 M7
      else
        (f_X6_add v1 (((10000 : Int32) + v6)) M7).bind fun M8 =>
        some M8
def f_X5_readPart_B109 (F : Nat → Nat → Nat → Int64 → Int32 → Int32 → sMem → Option sMem) (v0 : Nat) (v1 : Nat) (v2 : Int64) (v4 : Int32) (v5 : Int32) (v6 : Int32) (s0 : Int32) (M : sMem) : Option sMem :=
  if s0 = 0 then
    if v6 = (31 : Int32) then
      f_X5_readPart_B141 F v0 v1 v2 v4 v5 v6 s0 M
    else
      if v6 = (32 : Int32) then
        f_X5_readPart_B141 F v0 v1 v2 v4 v5 v6 s0 M
      else
        (gR 5 2 0 M v0).bind fun x9 =>
        (f_X10_fail x9 ((1 : Int32)) v5 M).bind fun M10 =>
        some M10
  else
    f_X5_readPart_B141 F v0 v1 v2 v4 v5 v6 s0 M
def f_X5_readPart_B108 (F : Nat → Nat → Nat → Int64 → Int32 → Int32 → sMem → Option sMem) (v0 : Nat) (v1 : Nat) (v2 : Int64) (v4 : Int32) (v5 : Int32) (v6 : Int32) (M : sMem) : Option sMem :=
  f_X5_readPart_B109 F v0 v1 v2 v4 v5 v6 ((0 : Int32)) M
def f_X5_readPart_B93 (F : Nat → Nat → Nat → Int64 → Int32 → Int32 → sMem → Option sMem) (v0 : Nat) (v1 : Nat) (v2 : Int64) (v4 : Int32) (v5 : Int32) (v6 : Int32) (M : sMem) : Option sMem :=
  if ((v2 >>> (v6.toInt64 &&& 63)) &&& (1 : Int64)) = (1 : Int64) then
    f_X5_readPart_B109 F v0 v1 v2 v4 v5 v6 ((1 : Int32)) M
  else
    f_X5_readPart_B108 F v0 v1 v2 v4 v5 v6 M
def f_X5_readPart (F : Nat → Nat → Nat → Int64 → Int32 → Int32 → sMem → Option sMem) (v0 : Nat) (v1 : Nat) (v2 : Int64) (v4 : Int32) (M0 : sMem) : Option sMem :=
  sRc 5 2 M0 v0 (
    (gR 5 2 0 M0 v0).bind fun x11 =>
    (f_X10_isAtNumber x11 M0).bind fun x12 =>
    if x12 = 0 then
      (gR 5 2 0 M0 v0).bind fun x13 =>
      (f_X10_place x13 M0).bind fun x14 =>
      (gR 5 2 0 M0 v0).bind fun x15 =>
      (f_X10_takesSign x15 ((40 : Int32)) M0).bind fun (x16, M17) =>
      if x16 = 0 then
        (gR 5 2 0 M17 v0).bind fun x18 =>
        (f_X10_word x18 M17).bind fun x19 =>
        if x19 = (-1 : Int32) then
          f_X5_readPart_B108 F v0 v1 v2 v4 x14 x19 M17
        else
          f_X5_readPart_B93 F v0 v1 v2 v4 x14 x19 M17
      else
        (f_X5_mayOpen v0 v4 x14 M17).bind fun (x20, M21) =>
        if x20 = 0 then
          some M21
        else
          (F 3 v0 v1 v2 ((v4 + (1 : Int32))) (0 : Int32) M21).bind fun M22 =>
          (gR 5 2 0 M22 v0).bind fun x23 =>
          (f_X10_needSign x23 ((41 : Int32)) M22).bind fun M24 =>
          some M24
    else
      (gR 5 2 0 M0 v0).bind fun x25 =>
      (f_X10_number x25 ((0 : Int32)) ((9999 : Int32)) M0).bind fun (x26, M27) =>
      (f_X6_add v1 x26 M27).bind fun M28 =>
      some M28)
set_option maxRecDepth 100000 in
set_option maxHeartbeats 4000000 in
theorem m_X5_readPart (F : Nat → Nat → Nat → Int64 → Int32 → Int32 → sMem → Option sMem) (d : Nat) (G : sG) (l : Launch) (hF0 : ∀ (v0 v1 : Nat) (v2 : Int64) (v4 : Int32) (M : sMem), sCv G l (d - 1) yX5_readTest cX5_readTest 6 none [.ref v0, .ref v1, .long v2, .int v4] M (F 0 v0 v1 v2 v4 (0 : Int32) M) ∧ ∀ z, F 0 v0 v1 v2 v4 (0 : Int32) M = some z → M.1[v0]? = some (5, 2)) (hF1 : ∀ (v0 v1 : Nat) (v2 : Int64) (v4 : Int32) (M : sMem), sCv G l (d - 1) yX5_readBoth cX5_readBoth 6 none [.ref v0, .ref v1, .long v2, .int v4] M (F 1 v0 v1 v2 v4 (0 : Int32) M) ∧ ∀ z, F 1 v0 v1 v2 v4 (0 : Int32) M = some z → M.1[v0]? = some (5, 2)) (hF2 : ∀ (v0 v1 : Nat) (v2 : Int64) (v4 : Int32) (M : sMem), sCv G l (d - 1) yX5_readFact cX5_readFact 7 none [.ref v0, .ref v1, .long v2, .int v4] M (F 2 v0 v1 v2 v4 (0 : Int32) M) ∧ ∀ z, F 2 v0 v1 v2 v4 (0 : Int32) M = some z → M.1[v0]? = some (5, 2)) (hF3 : ∀ (v0 v1 : Nat) (v2 : Int64) (v4 : Int32) (M : sMem), sCv G l (d - 1) yX5_readSum cX5_readSum 8 none [.ref v0, .ref v1, .long v2, .int v4] M (F 3 v0 v1 v2 v4 (0 : Int32) M) ∧ ∀ z, F 3 v0 v1 v2 v4 (0 : Int32) M = some z → M.1[v0]? = some (5, 2)) (hF4 : ∀ (v0 v1 : Nat) (v2 : Int64) (v4 : Int32) (M : sMem), sCv G l (d - 1) yX5_readProduct cX5_readProduct 8 none [.ref v0, .ref v1, .long v2, .int v4] M (F 4 v0 v1 v2 v4 (0 : Int32) M) ∧ ∀ z, F 4 v0 v1 v2 v4 (0 : Int32) M = some z → M.1[v0]? = some (5, 2)) (hF5 : ∀ (v0 v1 : Nat) (v2 : Int64) (v4 : Int32) (M : sMem), sCv G l (d - 1) yX5_readPart cX5_readPart 8 none [.ref v0, .ref v1, .long v2, .int v4] M (F 5 v0 v1 v2 v4 (0 : Int32) M) ∧ ∀ z, F 5 v0 v1 v2 v4 (0 : Int32) M = some z → M.1[v0]? = some (5, 2)) (hF6 : ∀ (v0 v1 : Nat) (v2 : Int64) (v4 : Int32) (v5 : Int32) (M : sMem), sCv G l (d - 1) yX5_readPair cX5_readPair 7 none [.ref v0, .ref v1, .long v2, .int v4, .int v5] M (F 6 v0 v1 v2 v4 v5 M) ∧ ∀ z, F 6 v0 v1 v2 v4 v5 M = some z → M.1[v0]? = some (5, 2)) (hd : 5 ≤ d) (v0 : Nat) (v1 : Nat) (v2 : Int64) (v4 : Int32) (M0 : sMem) : sCv G l d yX5_readPart cX5_readPart 8 none [.ref v0, .ref v1, .long v2, .int v4] M0 (f_X5_readPart F v0 v1 v2 v4 M0) := by
  refine sC_v (ls := [some (.ref v0), some (.ref v1), some (.long v2), none, some (.int v4), none, none, none]) (by decide +kernel) rfl (Nat.le_of_ble_eq_true rfl) (fun r M' K hr => ?_)
  unfold f_X5_readPart
  have xB243 : ∀ (s0 : Nat) (s1 : Int32) (M : sMem), sX G l d yX5_readPart cX5_readPart 8 none M0 r M' 243 [none, none, none, none, none, none, none, none] [.int s1, .ref s0] M (f_X5_readPart_B243 F s0 s1 M) K := by
    intro s0 s1 M
    unfold f_X5_readPart_B243
    refine sX_callVv (As := [.int s1]) (by decide +kernel) lm_X5_182 mf_X6_add mi_X6_add mc_6 (m_X6_add G l s0 s1 M) (fun _ h => sRc_some h) (by omega) rfl rfl (Nat.le_of_ble_eq_true rfl) (fun M1 => ?_)
    exact sX_some (fun h _ => sW_vret (by decide +kernel) rfl (hr _ h).1.symm (hr _ h).2.symm)
  have xB207 : ∀ (v0 : Nat) (v1 : Nat) (v2 : Int64) (v4 : Int32) (v5 : Int32) (v6 : Int32) (M : sMem), sX G l d yX5_readPart cX5_readPart 8 none M0 r M' 207 [some (.ref v0), some (.ref v1), some (.long v2), none, some (.int v4), some (.int v5), some (.int v6), none] [] M (f_X5_readPart_B207 F v0 v1 v2 v4 v5 v6 M) K := by
    intro v0 v1 v2 v4 v5 v6 M
    unfold f_X5_readPart_B207
    refine sX_aload_n (i := 0) (by decide +kernel) rfl ?_
    refine sX_iload (i := 4) (by decide +kernel) rfl ?_
    refine sX_iload (i := 5) (by decide +kernel) rfl ?_
    refine sX_callV (As := [.int v4, .int v5]) (by decide +kernel) lm_X5_187 mf_X5_mayOpen mi_X5_mayOpen mc_5 (m_X5_mayOpen G l v0 v4 v5 M) (fun _ h => sRc_some h) (by omega) rfl rfl (Nat.le_of_ble_eq_true rfl) (fun x2 M3 _ => ?_)
    refine sX_ifeq (o := 31) (t := 246) (by decide +kernel) (by decide) (fun _ => ?_) (fun _ => ?_)
    · exact sX_some (fun h _ => sW_vret (by decide +kernel) rfl (hr _ h).1.symm (hr _ h).2.symm)
    · refine sX_aload_n (i := 0) (by decide +kernel) rfl ?_
      refine sX_aload_n (i := 1) (by decide +kernel) rfl ?_
      refine sX_lload_n (i := 2) (by decide +kernel) rfl ?_
      refine sX_iload (i := 4) (by decide +kernel) rfl ?_
      refine sX_iconst (n := 1) (v := (1 : Int32)) (by decide +kernel) (by decide) ?_
      refine sX_iadd (by decide +kernel) ?_
      refine sX_callVv (As := [.ref v1, .long v2, .int (v4 + (1 : Int32))]) (by decide +kernel) lm_X5_201 mf_X5_readPart mi_X5_readPart mc_5 (hF5 v0 v1 v2 ((v4 + (1 : Int32))) M3).1 (hF5 v0 v1 v2 ((v4 + (1 : Int32))) M3).2 (by omega) rfl rfl (Nat.le_of_ble_eq_true rfl) (fun M4 => ?_)
      refine sX_aload_n (i := 1) (by decide +kernel) rfl ?_
      refine sX_iload (i := 6) (by decide +kernel) rfl ?_
      refine sX_bipush (n := 25) (v := (25 : Int32)) (by decide +kernel) (by decide) ?_
      refine sX_icne (o := 8) (t := 241) (by decide +kernel) (by decide) (fun _ => ?_) (fun _ => ?_)
      · refine sX_bipush (n := -13) (v := (-13 : Int32)) (by decide +kernel) (by decide) ?_
        refine sX_goto (o := 5) (t := 243) (by decide +kernel) (by decide) ?_
        exact sX.le (xB243 v1 ((-13 : Int32)) M4) (sLe_n (sLe_n (sLe_n (sLe_n (sLe_n (sLe_n (sLe_n (sLe_n sLe_e))))))))
      · refine sX_bipush (n := -14) (v := (-14 : Int32)) (by decide +kernel) (by decide) ?_
        exact sX.le (xB243 v1 ((-14 : Int32)) M4) (sLe_n (sLe_n (sLe_n (sLe_n (sLe_n (sLe_n (sLe_n (sLe_n sLe_e))))))))
  have xB174 : ∀ (s0 : Nat) (s1 : Nat) (s2 : Int64) (s3 : Int32) (s4 : Int32) (M : sMem), sX G l d yX5_readPart cX5_readPart 8 none M0 r M' 174 [none, none, none, none, none, none, none, none] [.int s4, .int s3, .long s2, .ref s1, .ref s0] M (f_X5_readPart_B174 F s0 s1 s2 s3 s4 M) K := by
    intro s0 s1 s2 s3 s4 M
    unfold f_X5_readPart_B174
    refine sX_callVv (As := [.ref s1, .long s2, .int s3, .int s4]) (by decide +kernel) lm_X5_207 mf_X5_readPair mi_X5_readPair mc_5 (hF6 s0 s1 s2 s3 s4 M).1 (hF6 s0 s1 s2 s3 s4 M).2 (by omega) rfl rfl (Nat.le_of_ble_eq_true rfl) (fun M5 => ?_)
    refine sX_goto (o := 69) (t := 246) (by decide +kernel) (by decide) ?_
    exact sX_some (fun h _ => sW_vret (by decide +kernel) rfl (hr _ h).1.symm (hr _ h).2.symm)
  have xB141 : ∀ (v0 : Nat) (v1 : Nat) (v2 : Int64) (v4 : Int32) (v5 : Int32) (v6 : Int32) (v7 : Int32) (M : sMem), sX G l d yX5_readPart cX5_readPart 8 none M0 r M' 141 [some (.ref v0), some (.ref v1), some (.long v2), none, some (.int v4), some (.int v5), some (.int v6), some (.int v7)] [] M (f_X5_readPart_B141 F v0 v1 v2 v4 v5 v6 v7 M) K := by
    intro v0 v1 v2 v4 v5 v6 v7 M
    unfold f_X5_readPart_B141
    refine sX_aload_n (i := 0) (by decide +kernel) rfl ?_
    refine sX_getR lf_X5_18 tk_5_0 (by decide +kernel) (fun x6 => ?_)
    refine sX_iload (i := 6) (by decide +kernel) rfl ?_
    refine sX_callVv (As := [.int v6]) (by decide +kernel) lm_X5_65 mf_X10_needWord mi_X10_needWord mc_10 (m_X10_needWord G l x6 v6 M) (fun _ h => sRc_some h) (by omega) rfl rfl (Nat.le_of_ble_eq_true rfl) (fun M7 => ?_)
    refine sX_iload (i := 7) (by decide +kernel) rfl ?_
    refine sX_ifne (o := 28) (t := 180) (by decide +kernel) (by decide) (fun _ => ?_) (fun _ => ?_)
    · refine sX_aload_n (i := 0) (by decide +kernel) rfl ?_
      refine sX_aload_n (i := 1) (by decide +kernel) rfl ?_
      refine sX_lload_n (i := 2) (by decide +kernel) rfl ?_
      refine sX_iload (i := 4) (by decide +kernel) rfl ?_
      refine sX_iload (i := 6) (by decide +kernel) rfl ?_
      refine sX_bipush (n := 31) (v := (31 : Int32)) (by decide +kernel) (by decide) ?_
      refine sX_icne (o := 8) (t := 172) (by decide +kernel) (by decide) (fun _ => ?_) (fun _ => ?_)
      · refine sX_bipush (n := -10) (v := (-10 : Int32)) (by decide +kernel) (by decide) ?_
        refine sX_goto (o := 5) (t := 174) (by decide +kernel) (by decide) ?_
        exact sX.le (xB174 v0 v1 v2 v4 ((-10 : Int32)) M7) (sLe_n (sLe_n (sLe_n (sLe_n (sLe_n (sLe_n (sLe_n (sLe_n sLe_e))))))))
      · refine sX_bipush (n := -11) (v := (-11 : Int32)) (by decide +kernel) (by decide) ?_
        exact sX.le (xB174 v0 v1 v2 v4 ((-11 : Int32)) M7) (sLe_n (sLe_n (sLe_n (sLe_n (sLe_n (sLe_n (sLe_n (sLe_n sLe_e))))))))
    · refine sX_iload (i := 6) (by decide +kernel) rfl ?_
      refine sX_bipush (n := 25) (v := (25 : Int32)) (by decide +kernel) (by decide) ?_
      refine sX_iceq (o := 23) (t := 207) (by decide +kernel) (by decide) (fun _ => ?_) (fun _ => ?_)
      · exact sX.le (xB207 v0 v1 v2 v4 v5 v6 M7) (sLe_s (sLe_s (sLe_s (sLe_n (sLe_s (sLe_s (sLe_s (sLe_n sLe_e))))))))
      · refine sX_iload (i := 6) (by decide +kernel) rfl ?_
        refine sX_bipush (n := 26) (v := (26 : Int32)) (by decide +kernel) (by decide) ?_
        refine sX_iceq (o := 16) (t := 207) (by decide +kernel) (by decide) (fun _ => ?_) (fun _ => ?_)
        · exact sX.le (xB207 v0 v1 v2 v4 v5 v6 M7) (sLe_s (sLe_s (sLe_s (sLe_n (sLe_s (sLe_s (sLe_s (sLe_n sLe_e))))))))
        · refine sX_aload_n (i := 1) (by decide +kernel) rfl ?_
          refine sX_sipush (n := 10000) (v := (10000 : Int32)) (by decide +kernel) (by decide) ?_
          refine sX_iload (i := 6) (by decide +kernel) rfl ?_
          refine sX_iadd (by decide +kernel) ?_
          refine sX_callVv (As := [.int ((10000 : Int32) + v6)]) (by decide +kernel) lm_X5_182 mf_X6_add mi_X6_add mc_6 (m_X6_add G l v1 (((10000 : Int32) + v6)) M7) (fun _ h => sRc_some h) (by omega) rfl rfl (Nat.le_of_ble_eq_true rfl) (fun M8 => ?_)
          refine sX_goto (o := 42) (t := 246) (by decide +kernel) (by decide) ?_
          exact sX_some (fun h _ => sW_vret (by decide +kernel) rfl (hr _ h).1.symm (hr _ h).2.symm)
  have xB109 : ∀ (v0 : Nat) (v1 : Nat) (v2 : Int64) (v4 : Int32) (v5 : Int32) (v6 : Int32) (s0 : Int32) (M : sMem), sX G l d yX5_readPart cX5_readPart 8 none M0 r M' 109 [some (.ref v0), some (.ref v1), some (.long v2), none, some (.int v4), some (.int v5), some (.int v6), none] [.int s0] M (f_X5_readPart_B109 F v0 v1 v2 v4 v5 v6 s0 M) K := by
    intro v0 v1 v2 v4 v5 v6 s0 M
    unfold f_X5_readPart_B109
    refine sX_istore (i := 7) (ls2 := [some (.ref v0), some (.ref v1), some (.long v2), none, some (.int v4), some (.int v5), some (.int v6), some (.int s0)]) (by decide +kernel) (by decide) rfl ?_
    refine sX_iload (i := 7) (by decide +kernel) rfl ?_
    refine sX_ifne (o := 28) (t := 141) (by decide +kernel) (by decide) (fun _ => ?_) (fun _ => ?_)
    · refine sX_iload (i := 6) (by decide +kernel) rfl ?_
      refine sX_bipush (n := 31) (v := (31 : Int32)) (by decide +kernel) (by decide) ?_
      refine sX_iceq (o := 21) (t := 141) (by decide +kernel) (by decide) (fun _ => ?_) (fun _ => ?_)
      · exact sX.le (xB141 v0 v1 v2 v4 v5 v6 s0 M) (sLe_s (sLe_s (sLe_s (sLe_n (sLe_s (sLe_s (sLe_s (sLe_s sLe_e))))))))
      · refine sX_iload (i := 6) (by decide +kernel) rfl ?_
        refine sX_bipush (n := 32) (v := (32 : Int32)) (by decide +kernel) (by decide) ?_
        refine sX_iceq (o := 14) (t := 141) (by decide +kernel) (by decide) (fun _ => ?_) (fun _ => ?_)
        · exact sX.le (xB141 v0 v1 v2 v4 v5 v6 s0 M) (sLe_s (sLe_s (sLe_s (sLe_n (sLe_s (sLe_s (sLe_s (sLe_s sLe_e))))))))
        · refine sX_aload_n (i := 0) (by decide +kernel) rfl ?_
          refine sX_getR lf_X5_18 tk_5_0 (by decide +kernel) (fun x9 => ?_)
          refine sX_iconst (n := 1) (v := (1 : Int32)) (by decide +kernel) (by decide) ?_
          refine sX_iload (i := 5) (by decide +kernel) rfl ?_
          refine sX_callVv (As := [.int (1 : Int32), .int v5]) (by decide +kernel) lm_X5_48 mf_X10_fail mi_X10_fail mc_10 (m_X10_fail G l x9 ((1 : Int32)) v5 M) (fun _ h => sRc_some h) (by omega) rfl rfl (Nat.le_of_ble_eq_true rfl) (fun M10 => ?_)
          exact sX_some (fun h _ => sW_vret (by decide +kernel) rfl (hr _ h).1.symm (hr _ h).2.symm)
    · exact sX.le (xB141 v0 v1 v2 v4 v5 v6 s0 M) (sLe_s (sLe_s (sLe_s (sLe_n (sLe_s (sLe_s (sLe_s (sLe_s sLe_e))))))))
  have xB108 : ∀ (v0 : Nat) (v1 : Nat) (v2 : Int64) (v4 : Int32) (v5 : Int32) (v6 : Int32) (M : sMem), sX G l d yX5_readPart cX5_readPart 8 none M0 r M' 108 [some (.ref v0), some (.ref v1), some (.long v2), none, some (.int v4), some (.int v5), some (.int v6), none] [] M (f_X5_readPart_B108 F v0 v1 v2 v4 v5 v6 M) K := by
    intro v0 v1 v2 v4 v5 v6 M
    unfold f_X5_readPart_B108
    refine sX_iconst (n := 0) (v := (0 : Int32)) (by decide +kernel) (by decide) ?_
    exact sX.le (xB109 v0 v1 v2 v4 v5 v6 ((0 : Int32)) M) (sLe_s (sLe_s (sLe_s (sLe_n (sLe_s (sLe_s (sLe_s (sLe_n sLe_e))))))))
  have xB93 : ∀ (v0 : Nat) (v1 : Nat) (v2 : Int64) (v4 : Int32) (v5 : Int32) (v6 : Int32) (M : sMem), sX G l d yX5_readPart cX5_readPart 8 none M0 r M' 93 [some (.ref v0), some (.ref v1), some (.long v2), none, some (.int v4), some (.int v5), some (.int v6), none] [] M (f_X5_readPart_B93 F v0 v1 v2 v4 v5 v6 M) K := by
    intro v0 v1 v2 v4 v5 v6 M
    unfold f_X5_readPart_B93
    refine sX_lload_n (i := 2) (by decide +kernel) rfl ?_
    refine sX_iload (i := 6) (by decide +kernel) rfl ?_
    refine sX_lshr (by decide +kernel) ?_
    refine sX_lconst (n := 1) (v := (1 : Int64)) (by decide +kernel) (by decide) ?_
    refine sX_land (by decide +kernel) ?_
    refine sX_lconst (n := 1) (v := (1 : Int64)) (by decide +kernel) (by decide) ?_
    refine sX_lcne (o := 7) (t := 108) (by decide +kernel) (by decide +kernel) (by decide) (fun _ => ?_) (fun _ => ?_)
    · refine sX_iconst (n := 1) (v := (1 : Int32)) (by decide +kernel) (by decide) ?_
      refine sX_goto (o := 4) (t := 109) (by decide +kernel) (by decide) ?_
      exact sX.le (xB109 v0 v1 v2 v4 v5 v6 ((1 : Int32)) M) (sLe_s (sLe_s (sLe_s (sLe_n (sLe_s (sLe_s (sLe_s (sLe_n sLe_e))))))))
    · exact sX.le (xB108 v0 v1 v2 v4 v5 v6 M) (sLe_s (sLe_s (sLe_s (sLe_n (sLe_s (sLe_s (sLe_s (sLe_n sLe_e))))))))
  refine sX_rc ?_
  refine sX_aload_n (i := 0) (by decide +kernel) rfl ?_
  refine sX_getR lf_X5_18 tk_5_0 (by decide +kernel) (fun x11 => ?_)
  refine sX_callVp (As := []) (by decide +kernel) lm_X5_204 mf_X10_isAtNumber mi_X10_isAtNumber mc_10 (m_X10_isAtNumber G l x11 M0) (fun _ h => sRc_some h) (by omega) rfl rfl (Nat.le_of_ble_eq_true rfl) (fun x12 => ?_)
  refine sX_ifeq (o := 19) (t := 26) (by decide +kernel) (by decide) (fun _ => ?_) (fun _ => ?_)
  · refine sX_aload_n (i := 0) (by decide +kernel) rfl ?_
    refine sX_getR lf_X5_18 tk_5_0 (by decide +kernel) (fun x13 => ?_)
    refine sX_callVp (As := []) (by decide +kernel) lm_X5_44 mf_X10_place mi_X10_place mc_10 (m_X10_place G l x13 M0) (fun _ h => sRc_some h) (by omega) rfl rfl (Nat.le_of_ble_eq_true rfl) (fun x14 => ?_)
    refine sX_istore (i := 5) (ls2 := [some (.ref v0), some (.ref v1), some (.long v2), none, some (.int v4), some (.int x14), none, none]) (by decide +kernel) (by decide) rfl ?_
    refine sX_aload_n (i := 0) (by decide +kernel) rfl ?_
    refine sX_getR lf_X5_18 tk_5_0 (by decide +kernel) (fun x15 => ?_)
    refine sX_bipush (n := 40) (v := (40 : Int32)) (by decide +kernel) (by decide) ?_
    refine sX_callV (As := [.int (40 : Int32)]) (by decide +kernel) lm_X5_191 mf_X10_takesSign mi_X10_takesSign mc_10 (m_X10_takesSign G l x15 ((40 : Int32)) M0) (fun _ h => sRc_some h) (by omega) rfl rfl (Nat.le_of_ble_eq_true rfl) (fun x16 M17 _ => ?_)
    refine sX_ifeq (o := 34) (t := 78) (by decide +kernel) (by decide) (fun _ => ?_) (fun _ => ?_)
    · refine sX_aload_n (i := 0) (by decide +kernel) rfl ?_
      refine sX_getR lf_X5_18 tk_5_0 (by decide +kernel) (fun x18 => ?_)
      refine sX_callVp (As := []) (by decide +kernel) lm_X5_62 mf_X10_word mi_X10_word mc_10 (m_X10_word G l x18 M17) (fun _ h => sRc_some h) (by omega) rfl rfl (Nat.le_of_ble_eq_true rfl) (fun x19 => ?_)
      refine sX_istore (i := 6) (ls2 := [some (.ref v0), some (.ref v1), some (.long v2), none, some (.int v4), some (.int x14), some (.int x19), none]) (by decide +kernel) (by decide) rfl ?_
      refine sX_iload (i := 6) (by decide +kernel) rfl ?_
      refine sX_iconst (n := -1) (v := (-1 : Int32)) (by decide +kernel) (by decide) ?_
      refine sX_iceq (o := 18) (t := 108) (by decide +kernel) (by decide) (fun _ => ?_) (fun _ => ?_)
      · exact sX.le (xB108 v0 v1 v2 v4 x14 x19 M17) (sLe_s (sLe_s (sLe_s (sLe_n (sLe_s (sLe_s (sLe_s (sLe_n sLe_e))))))))
      · exact sX.le (xB93 v0 v1 v2 v4 x14 x19 M17) (sLe_s (sLe_s (sLe_s (sLe_n (sLe_s (sLe_s (sLe_s (sLe_n sLe_e))))))))
    · refine sX_aload_n (i := 0) (by decide +kernel) rfl ?_
      refine sX_iload (i := 4) (by decide +kernel) rfl ?_
      refine sX_iload (i := 5) (by decide +kernel) rfl ?_
      refine sX_callV (As := [.int v4, .int x14]) (by decide +kernel) lm_X5_187 mf_X5_mayOpen mi_X5_mayOpen mc_5 (m_X5_mayOpen G l v0 v4 x14 M17) (fun _ h => sRc_some h) (by omega) rfl rfl (Nat.le_of_ble_eq_true rfl) (fun x20 M21 _ => ?_)
      refine sX_ifeq (o := 22) (t := 77) (by decide +kernel) (by decide) (fun _ => ?_) (fun _ => ?_)
      · exact sX_some (fun h _ => sW_vret (by decide +kernel) rfl (hr _ h).1.symm (hr _ h).2.symm)
      · refine sX_aload_n (i := 0) (by decide +kernel) rfl ?_
        refine sX_aload_n (i := 1) (by decide +kernel) rfl ?_
        refine sX_lload_n (i := 2) (by decide +kernel) rfl ?_
        refine sX_iload (i := 4) (by decide +kernel) rfl ?_
        refine sX_iconst (n := 1) (v := (1 : Int32)) (by decide +kernel) (by decide) ?_
        refine sX_iadd (by decide +kernel) ?_
        refine sX_callVv (As := [.ref v1, .long v2, .int (v4 + (1 : Int32))]) (by decide +kernel) lm_X5_75 mf_X5_readSum mi_X5_readSum mc_5 (hF3 v0 v1 v2 ((v4 + (1 : Int32))) M21).1 (hF3 v0 v1 v2 ((v4 + (1 : Int32))) M21).2 (by omega) rfl rfl (Nat.le_of_ble_eq_true rfl) (fun M22 => ?_)
        refine sX_aload_n (i := 0) (by decide +kernel) rfl ?_
        refine sX_getR lf_X5_18 tk_5_0 (by decide +kernel) (fun x23 => ?_)
        refine sX_bipush (n := 41) (v := (41 : Int32)) (by decide +kernel) (by decide) ?_
        refine sX_callVv (As := [.int (41 : Int32)]) (by decide +kernel) lm_X5_40 mf_X10_needSign mi_X10_needSign mc_10 (m_X10_needSign G l x23 ((41 : Int32)) M22) (fun _ h => sRc_some h) (by omega) rfl rfl (Nat.le_of_ble_eq_true rfl) (fun M24 => ?_)
        exact sX_some (fun h _ => sW_vret (by decide +kernel) rfl (hr _ h).1.symm (hr _ h).2.symm)
  · refine sX_aload_n (i := 1) (by decide +kernel) rfl ?_
    refine sX_aload_n (i := 0) (by decide +kernel) rfl ?_
    refine sX_getR lf_X5_18 tk_5_0 (by decide +kernel) (fun x25 => ?_)
    refine sX_iconst (n := 0) (v := (0 : Int32)) (by decide +kernel) (by decide) ?_
    refine sX_sipush (n := 9999) (v := (9999 : Int32)) (by decide +kernel) (by decide) ?_
    refine sX_callV (As := [.int (0 : Int32), .int (9999 : Int32)]) (by decide +kernel) lm_X5_101 mf_X10_number mi_X10_number mc_10 (m_X10_number G l x25 ((0 : Int32)) ((9999 : Int32)) M0) (fun _ h => sRc_some h) (by omega) rfl rfl (Nat.le_of_ble_eq_true rfl) (fun x26 M27 _ => ?_)
    refine sX_callVv (As := [.int x26]) (by decide +kernel) lm_X5_182 mf_X6_add mi_X6_add mc_6 (m_X6_add G l v1 x26 M27) (fun _ h => sRc_some h) (by omega) rfl rfl (Nat.le_of_ble_eq_true rfl) (fun M28 => ?_)
    exact sX_some (fun h _ => sW_vret (by decide +kernel) rfl (hr _ h).1.symm (hr _ h).2.symm)
def f_X5_readPair (F : Nat → Nat → Nat → Int64 → Int32 → Int32 → sMem → Option sMem) (v0 : Nat) (v1 : Nat) (v2 : Int64) (v4 : Int32) (v5 : Int32) (M0 : sMem) : Option sMem :=
  sRc 5 2 M0 v0 (
    (gR 5 2 0 M0 v0).bind fun x1 =>
    (f_X10_place x1 M0).bind fun x2 =>
    (gR 5 2 0 M0 v0).bind fun x3 =>
    (f_X10_needSign x3 ((40 : Int32)) M0).bind fun M4 =>
    (f_X5_mayOpen v0 v4 x2 M4).bind fun (x5, M6) =>
    if x5 = 0 then
      some M6
    else
      (F 3 v0 v1 v2 ((v4 + (1 : Int32))) (0 : Int32) M6).bind fun M7 =>
      (gR 5 2 0 M7 v0).bind fun x8 =>
      (f_X10_needSign x8 ((44 : Int32)) M7).bind fun M9 =>
      (F 3 v0 v1 v2 ((v4 + (1 : Int32))) (0 : Int32) M9).bind fun M10 =>
      (gR 5 2 0 M10 v0).bind fun x11 =>
      (f_X10_needSign x11 ((41 : Int32)) M10).bind fun M12 =>
      (f_X6_add v1 v5 M12).bind fun M13 =>
      some M13)
set_option maxRecDepth 100000 in
set_option maxHeartbeats 4000000 in
theorem m_X5_readPair (F : Nat → Nat → Nat → Int64 → Int32 → Int32 → sMem → Option sMem) (d : Nat) (G : sG) (l : Launch) (hF0 : ∀ (v0 v1 : Nat) (v2 : Int64) (v4 : Int32) (M : sMem), sCv G l (d - 1) yX5_readTest cX5_readTest 6 none [.ref v0, .ref v1, .long v2, .int v4] M (F 0 v0 v1 v2 v4 (0 : Int32) M) ∧ ∀ z, F 0 v0 v1 v2 v4 (0 : Int32) M = some z → M.1[v0]? = some (5, 2)) (hF1 : ∀ (v0 v1 : Nat) (v2 : Int64) (v4 : Int32) (M : sMem), sCv G l (d - 1) yX5_readBoth cX5_readBoth 6 none [.ref v0, .ref v1, .long v2, .int v4] M (F 1 v0 v1 v2 v4 (0 : Int32) M) ∧ ∀ z, F 1 v0 v1 v2 v4 (0 : Int32) M = some z → M.1[v0]? = some (5, 2)) (hF2 : ∀ (v0 v1 : Nat) (v2 : Int64) (v4 : Int32) (M : sMem), sCv G l (d - 1) yX5_readFact cX5_readFact 7 none [.ref v0, .ref v1, .long v2, .int v4] M (F 2 v0 v1 v2 v4 (0 : Int32) M) ∧ ∀ z, F 2 v0 v1 v2 v4 (0 : Int32) M = some z → M.1[v0]? = some (5, 2)) (hF3 : ∀ (v0 v1 : Nat) (v2 : Int64) (v4 : Int32) (M : sMem), sCv G l (d - 1) yX5_readSum cX5_readSum 8 none [.ref v0, .ref v1, .long v2, .int v4] M (F 3 v0 v1 v2 v4 (0 : Int32) M) ∧ ∀ z, F 3 v0 v1 v2 v4 (0 : Int32) M = some z → M.1[v0]? = some (5, 2)) (hF4 : ∀ (v0 v1 : Nat) (v2 : Int64) (v4 : Int32) (M : sMem), sCv G l (d - 1) yX5_readProduct cX5_readProduct 8 none [.ref v0, .ref v1, .long v2, .int v4] M (F 4 v0 v1 v2 v4 (0 : Int32) M) ∧ ∀ z, F 4 v0 v1 v2 v4 (0 : Int32) M = some z → M.1[v0]? = some (5, 2)) (hF5 : ∀ (v0 v1 : Nat) (v2 : Int64) (v4 : Int32) (M : sMem), sCv G l (d - 1) yX5_readPart cX5_readPart 8 none [.ref v0, .ref v1, .long v2, .int v4] M (F 5 v0 v1 v2 v4 (0 : Int32) M) ∧ ∀ z, F 5 v0 v1 v2 v4 (0 : Int32) M = some z → M.1[v0]? = some (5, 2)) (hF6 : ∀ (v0 v1 : Nat) (v2 : Int64) (v4 : Int32) (v5 : Int32) (M : sMem), sCv G l (d - 1) yX5_readPair cX5_readPair 7 none [.ref v0, .ref v1, .long v2, .int v4, .int v5] M (F 6 v0 v1 v2 v4 v5 M) ∧ ∀ z, F 6 v0 v1 v2 v4 v5 M = some z → M.1[v0]? = some (5, 2)) (hd : 5 ≤ d) (v0 : Nat) (v1 : Nat) (v2 : Int64) (v4 : Int32) (v5 : Int32) (M0 : sMem) : sCv G l d yX5_readPair cX5_readPair 7 none [.ref v0, .ref v1, .long v2, .int v4, .int v5] M0 (f_X5_readPair F v0 v1 v2 v4 v5 M0) := by
  refine sC_v (ls := [some (.ref v0), some (.ref v1), some (.long v2), none, some (.int v4), some (.int v5), none]) (by decide +kernel) rfl (Nat.le_of_ble_eq_true rfl) (fun r M' K hr => ?_)
  unfold f_X5_readPair
  refine sX_rc ?_
  refine sX_aload_n (i := 0) (by decide +kernel) rfl ?_
  refine sX_getR lf_X5_18 tk_5_0 (by decide +kernel) (fun x1 => ?_)
  refine sX_callVp (As := []) (by decide +kernel) lm_X5_44 mf_X10_place mi_X10_place mc_10 (m_X10_place G l x1 M0) (fun _ h => sRc_some h) (by omega) rfl rfl (Nat.le_of_ble_eq_true rfl) (fun x2 => ?_)
  refine sX_istore (i := 6) (ls2 := [some (.ref v0), some (.ref v1), some (.long v2), none, some (.int v4), some (.int v5), some (.int x2)]) (by decide +kernel) (by decide) rfl ?_
  refine sX_aload_n (i := 0) (by decide +kernel) rfl ?_
  refine sX_getR lf_X5_18 tk_5_0 (by decide +kernel) (fun x3 => ?_)
  refine sX_bipush (n := 40) (v := (40 : Int32)) (by decide +kernel) (by decide) ?_
  refine sX_callVv (As := [.int (40 : Int32)]) (by decide +kernel) lm_X5_40 mf_X10_needSign mi_X10_needSign mc_10 (m_X10_needSign G l x3 ((40 : Int32)) M0) (fun _ h => sRc_some h) (by omega) rfl rfl (Nat.le_of_ble_eq_true rfl) (fun M4 => ?_)
  refine sX_aload_n (i := 0) (by decide +kernel) rfl ?_
  refine sX_iload (i := 4) (by decide +kernel) rfl ?_
  refine sX_iload (i := 6) (by decide +kernel) rfl ?_
  refine sX_callV (As := [.int v4, .int x2]) (by decide +kernel) lm_X5_187 mf_X5_mayOpen mi_X5_mayOpen mc_5 (m_X5_mayOpen G l v0 v4 x2 M4) (fun _ h => sRc_some h) (by omega) rfl rfl (Nat.le_of_ble_eq_true rfl) (fun x5 M6 _ => ?_)
  refine sX_ifeq (o := 47) (t := 73) (by decide +kernel) (by decide) (fun _ => ?_) (fun _ => ?_)
  · exact sX_some (fun h _ => sW_vret (by decide +kernel) rfl (hr _ h).1.symm (hr _ h).2.symm)
  · refine sX_aload_n (i := 0) (by decide +kernel) rfl ?_
    refine sX_aload_n (i := 1) (by decide +kernel) rfl ?_
    refine sX_lload_n (i := 2) (by decide +kernel) rfl ?_
    refine sX_iload (i := 4) (by decide +kernel) rfl ?_
    refine sX_iconst (n := 1) (v := (1 : Int32)) (by decide +kernel) (by decide) ?_
    refine sX_iadd (by decide +kernel) ?_
    refine sX_callVv (As := [.ref v1, .long v2, .int (v4 + (1 : Int32))]) (by decide +kernel) lm_X5_75 mf_X5_readSum mi_X5_readSum mc_5 (hF3 v0 v1 v2 ((v4 + (1 : Int32))) M6).1 (hF3 v0 v1 v2 ((v4 + (1 : Int32))) M6).2 (by omega) rfl rfl (Nat.le_of_ble_eq_true rfl) (fun M7 => ?_)
    refine sX_aload_n (i := 0) (by decide +kernel) rfl ?_
    refine sX_getR lf_X5_18 tk_5_0 (by decide +kernel) (fun x8 => ?_)
    refine sX_bipush (n := 44) (v := (44 : Int32)) (by decide +kernel) (by decide) ?_
    refine sX_callVv (As := [.int (44 : Int32)]) (by decide +kernel) lm_X5_40 mf_X10_needSign mi_X10_needSign mc_10 (m_X10_needSign G l x8 ((44 : Int32)) M7) (fun _ h => sRc_some h) (by omega) rfl rfl (Nat.le_of_ble_eq_true rfl) (fun M9 => ?_)
    refine sX_aload_n (i := 0) (by decide +kernel) rfl ?_
    refine sX_aload_n (i := 1) (by decide +kernel) rfl ?_
    refine sX_lload_n (i := 2) (by decide +kernel) rfl ?_
    refine sX_iload (i := 4) (by decide +kernel) rfl ?_
    refine sX_iconst (n := 1) (v := (1 : Int32)) (by decide +kernel) (by decide) ?_
    refine sX_iadd (by decide +kernel) ?_
    refine sX_callVv (As := [.ref v1, .long v2, .int (v4 + (1 : Int32))]) (by decide +kernel) lm_X5_75 mf_X5_readSum mi_X5_readSum mc_5 (hF3 v0 v1 v2 ((v4 + (1 : Int32))) M9).1 (hF3 v0 v1 v2 ((v4 + (1 : Int32))) M9).2 (by omega) rfl rfl (Nat.le_of_ble_eq_true rfl) (fun M10 => ?_)
    refine sX_aload_n (i := 0) (by decide +kernel) rfl ?_
    refine sX_getR lf_X5_18 tk_5_0 (by decide +kernel) (fun x11 => ?_)
    refine sX_bipush (n := 41) (v := (41 : Int32)) (by decide +kernel) (by decide) ?_
    refine sX_callVv (As := [.int (41 : Int32)]) (by decide +kernel) lm_X5_40 mf_X10_needSign mi_X10_needSign mc_10 (m_X10_needSign G l x11 ((41 : Int32)) M10) (fun _ h => sRc_some h) (by omega) rfl rfl (Nat.le_of_ble_eq_true rfl) (fun M12 => ?_)
    refine sX_aload_n (i := 1) (by decide +kernel) rfl ?_
    refine sX_iload (i := 5) (by decide +kernel) rfl ?_
    refine sX_callVv (As := [.int v5]) (by decide +kernel) lm_X5_182 mf_X6_add mi_X6_add mc_6 (m_X6_add G l v1 v5 M12) (fun _ h => sRc_some h) (by omega) rfl rfl (Nat.le_of_ble_eq_true rfl) (fun M13 => ?_)
    exact sX_some (fun h _ => sW_vret (by decide +kernel) rfl (hr _ h).1.symm (hr _ h).2.symm)
def F_parser : Nat → Nat → Nat → Nat → Int64 → Int32 → Int32 → sMem → Option sMem
  | 0 => fun _ _ _ _ _ _ _ => none
  | n + 1 => fun w v0 v1 v2 v4 v5 M => if w = 0 then f_X5_readTest (F_parser n) v0 v1 v2 v4 M else if w = 1 then f_X5_readBoth (F_parser n) v0 v1 v2 v4 M else if w = 2 then f_X5_readFact (F_parser n) v0 v1 v2 v4 M else if w = 3 then f_X5_readSum (F_parser n) v0 v1 v2 v4 M else if w = 4 then f_X5_readProduct (F_parser n) v0 v1 v2 v4 M else if w = 5 then f_X5_readPart (F_parser n) v0 v1 v2 v4 M else f_X5_readPair (F_parser n) v0 v1 v2 v4 v5 M
theorem mF_parser (G : sG) (l : Launch) : ∀ n : Nat, (∀ (v0 v1 : Nat) (v2 : Int64) (v4 : Int32) (M : sMem), sCv G l (5 + n) yX5_readTest cX5_readTest 6 none [.ref v0, .ref v1, .long v2, .int v4] M (F_parser n 0 v0 v1 v2 v4 (0 : Int32) M) ∧ ∀ z, F_parser n 0 v0 v1 v2 v4 (0 : Int32) M = some z → M.1[v0]? = some (5, 2)) ∧ (∀ (v0 v1 : Nat) (v2 : Int64) (v4 : Int32) (M : sMem), sCv G l (5 + n) yX5_readBoth cX5_readBoth 6 none [.ref v0, .ref v1, .long v2, .int v4] M (F_parser n 1 v0 v1 v2 v4 (0 : Int32) M) ∧ ∀ z, F_parser n 1 v0 v1 v2 v4 (0 : Int32) M = some z → M.1[v0]? = some (5, 2)) ∧ (∀ (v0 v1 : Nat) (v2 : Int64) (v4 : Int32) (M : sMem), sCv G l (5 + n) yX5_readFact cX5_readFact 7 none [.ref v0, .ref v1, .long v2, .int v4] M (F_parser n 2 v0 v1 v2 v4 (0 : Int32) M) ∧ ∀ z, F_parser n 2 v0 v1 v2 v4 (0 : Int32) M = some z → M.1[v0]? = some (5, 2)) ∧ (∀ (v0 v1 : Nat) (v2 : Int64) (v4 : Int32) (M : sMem), sCv G l (5 + n) yX5_readSum cX5_readSum 8 none [.ref v0, .ref v1, .long v2, .int v4] M (F_parser n 3 v0 v1 v2 v4 (0 : Int32) M) ∧ ∀ z, F_parser n 3 v0 v1 v2 v4 (0 : Int32) M = some z → M.1[v0]? = some (5, 2)) ∧ (∀ (v0 v1 : Nat) (v2 : Int64) (v4 : Int32) (M : sMem), sCv G l (5 + n) yX5_readProduct cX5_readProduct 8 none [.ref v0, .ref v1, .long v2, .int v4] M (F_parser n 4 v0 v1 v2 v4 (0 : Int32) M) ∧ ∀ z, F_parser n 4 v0 v1 v2 v4 (0 : Int32) M = some z → M.1[v0]? = some (5, 2)) ∧ (∀ (v0 v1 : Nat) (v2 : Int64) (v4 : Int32) (M : sMem), sCv G l (5 + n) yX5_readPart cX5_readPart 8 none [.ref v0, .ref v1, .long v2, .int v4] M (F_parser n 5 v0 v1 v2 v4 (0 : Int32) M) ∧ ∀ z, F_parser n 5 v0 v1 v2 v4 (0 : Int32) M = some z → M.1[v0]? = some (5, 2)) ∧ (∀ (v0 v1 : Nat) (v2 : Int64) (v4 : Int32) (v5 : Int32) (M : sMem), sCv G l (5 + n) yX5_readPair cX5_readPair 7 none [.ref v0, .ref v1, .long v2, .int v4, .int v5] M (F_parser n 6 v0 v1 v2 v4 v5 M) ∧ ∀ z, F_parser n 6 v0 v1 v2 v4 v5 M = some z → M.1[v0]? = some (5, 2)) := by
  intro n
  induction n with
  | zero => exact ⟨fun _ _ _ _ _ => ⟨(fun _ _ h => by cases h), (fun _ h => by cases h)⟩, fun _ _ _ _ _ => ⟨(fun _ _ h => by cases h), (fun _ h => by cases h)⟩, fun _ _ _ _ _ => ⟨(fun _ _ h => by cases h), (fun _ h => by cases h)⟩, fun _ _ _ _ _ => ⟨(fun _ _ h => by cases h), (fun _ h => by cases h)⟩, fun _ _ _ _ _ => ⟨(fun _ _ h => by cases h), (fun _ h => by cases h)⟩, fun _ _ _ _ _ => ⟨(fun _ _ h => by cases h), (fun _ h => by cases h)⟩, fun _ _ _ _ _ _ => ⟨(fun _ _ h => by cases h), (fun _ h => by cases h)⟩⟩
  | succ n ih =>
    obtain ⟨h0, h1, h2, h3, h4, h5, h6⟩ := ih
    exact ⟨fun v0 v1 v2 v4 M => ⟨m_X5_readTest (F_parser n) (5 + n + 1) G l h0 h1 h2 h3 h4 h5 h6 (by omega) v0 v1 v2 v4 M, fun z h => sRc_some h⟩, fun v0 v1 v2 v4 M => ⟨m_X5_readBoth (F_parser n) (5 + n + 1) G l h0 h1 h2 h3 h4 h5 h6 (by omega) v0 v1 v2 v4 M, fun z h => sRc_some h⟩, fun v0 v1 v2 v4 M => ⟨m_X5_readFact (F_parser n) (5 + n + 1) G l h0 h1 h2 h3 h4 h5 h6 (by omega) v0 v1 v2 v4 M, fun z h => sRc_some h⟩, fun v0 v1 v2 v4 M => ⟨m_X5_readSum (F_parser n) (5 + n + 1) G l h0 h1 h2 h3 h4 h5 h6 (by omega) v0 v1 v2 v4 M, fun z h => sRc_some h⟩, fun v0 v1 v2 v4 M => ⟨m_X5_readProduct (F_parser n) (5 + n + 1) G l h0 h1 h2 h3 h4 h5 h6 (by omega) v0 v1 v2 v4 M, fun z h => sRc_some h⟩, fun v0 v1 v2 v4 M => ⟨m_X5_readPart (F_parser n) (5 + n + 1) G l h0 h1 h2 h3 h4 h5 h6 (by omega) v0 v1 v2 v4 M, fun z h => sRc_some h⟩, fun v0 v1 v2 v4 v5 M => ⟨m_X5_readPair (F_parser n) (5 + n + 1) G l h0 h1 h2 h3 h4 h5 h6 (by omega) v0 v1 v2 v4 v5 M, fun z h => sRc_some h⟩⟩
theorem mFp0 (G : sG) (l : Launch) (v0 v1 : Nat) (v2 : Int64) (v4 : Int32) (M : sMem) : sCv G l 69 yX5_readTest cX5_readTest 6 none [.ref v0, .ref v1, .long v2, .int v4] M (F_parser 64 0 v0 v1 v2 v4 (0 : Int32) M) ∧ ∀ z, F_parser 64 0 v0 v1 v2 v4 (0 : Int32) M = some z → M.1[v0]? = some (5, 2) := (mF_parser G l 64).1 v0 v1 v2 v4 M
theorem mFp1 (G : sG) (l : Launch) (v0 v1 : Nat) (v2 : Int64) (v4 : Int32) (M : sMem) : sCv G l 69 yX5_readBoth cX5_readBoth 6 none [.ref v0, .ref v1, .long v2, .int v4] M (F_parser 64 1 v0 v1 v2 v4 (0 : Int32) M) ∧ ∀ z, F_parser 64 1 v0 v1 v2 v4 (0 : Int32) M = some z → M.1[v0]? = some (5, 2) := (mF_parser G l 64).2.1 v0 v1 v2 v4 M
theorem mFp2 (G : sG) (l : Launch) (v0 v1 : Nat) (v2 : Int64) (v4 : Int32) (M : sMem) : sCv G l 69 yX5_readFact cX5_readFact 7 none [.ref v0, .ref v1, .long v2, .int v4] M (F_parser 64 2 v0 v1 v2 v4 (0 : Int32) M) ∧ ∀ z, F_parser 64 2 v0 v1 v2 v4 (0 : Int32) M = some z → M.1[v0]? = some (5, 2) := (mF_parser G l 64).2.2.1 v0 v1 v2 v4 M
theorem mFp3 (G : sG) (l : Launch) (v0 v1 : Nat) (v2 : Int64) (v4 : Int32) (M : sMem) : sCv G l 69 yX5_readSum cX5_readSum 8 none [.ref v0, .ref v1, .long v2, .int v4] M (F_parser 64 3 v0 v1 v2 v4 (0 : Int32) M) ∧ ∀ z, F_parser 64 3 v0 v1 v2 v4 (0 : Int32) M = some z → M.1[v0]? = some (5, 2) := (mF_parser G l 64).2.2.2.1 v0 v1 v2 v4 M
theorem mFp4 (G : sG) (l : Launch) (v0 v1 : Nat) (v2 : Int64) (v4 : Int32) (M : sMem) : sCv G l 69 yX5_readProduct cX5_readProduct 8 none [.ref v0, .ref v1, .long v2, .int v4] M (F_parser 64 4 v0 v1 v2 v4 (0 : Int32) M) ∧ ∀ z, F_parser 64 4 v0 v1 v2 v4 (0 : Int32) M = some z → M.1[v0]? = some (5, 2) := (mF_parser G l 64).2.2.2.2.1 v0 v1 v2 v4 M
theorem mFp5 (G : sG) (l : Launch) (v0 v1 : Nat) (v2 : Int64) (v4 : Int32) (M : sMem) : sCv G l 69 yX5_readPart cX5_readPart 8 none [.ref v0, .ref v1, .long v2, .int v4] M (F_parser 64 5 v0 v1 v2 v4 (0 : Int32) M) ∧ ∀ z, F_parser 64 5 v0 v1 v2 v4 (0 : Int32) M = some z → M.1[v0]? = some (5, 2) := (mF_parser G l 64).2.2.2.2.2.1 v0 v1 v2 v4 M
theorem mFp6 (G : sG) (l : Launch) (v0 v1 : Nat) (v2 : Int64) (v4 : Int32) (v5 : Int32) (M : sMem) : sCv G l 69 yX5_readPair cX5_readPair 7 none [.ref v0, .ref v1, .long v2, .int v4, .int v5] M (F_parser 64 6 v0 v1 v2 v4 v5 M) ∧ ∀ z, F_parser 64 6 v0 v1 v2 v4 v5 M = some z → M.1[v0]? = some (5, 2) := (mF_parser G l 64).2.2.2.2.2.2 v0 v1 v2 v4 v5 M
def f_X5_isFull (v0 : Nat) (v1 : Nat) (v2 : Int32) (M0 : sMem) : Option (Int32 × sMem) :=
  sRc 5 2 M0 v0 (
    (gI 9 4 3 M0 v1).bind fun x1 =>
    (gI 9 4 0 M0 v1).bind fun x2 =>
    if x2 ≤ x1 then
      (gR 5 2 0 M0 v0).bind fun x3 =>
      (f_X10_fail x3 ((5 : Int32)) v2 M0).bind fun M4 =>
      some (((1 : Int32), M4))
    else
      some (((0 : Int32), M0)))
set_option maxRecDepth 100000 in
set_option maxHeartbeats 4000000 in
theorem m_X5_isFull (G : sG) (l : Launch) (v0 : Nat) (v1 : Nat) (v2 : Int32) (M0 : sMem) : sC G l 3 yX5_isFull cX5_isFull 3 (some .boolean) [.ref v0, .ref v1, .int v2] M0 rvI (f_X5_isFull v0 v1 v2 M0) := by
  refine sC_m (ls := [some (.ref v0), some (.ref v1), some (.int v2)]) (by decide +kernel) rfl (Nat.le_of_ble_eq_true rfl) (fun r M' K hr => ?_)
  unfold f_X5_isFull
  refine sX_rc ?_
  refine sX_aload_n (i := 1) (by decide +kernel) rfl ?_
  refine sX_getI lf_X5_162 tk_9_3 (by decide +kernel) (fun x1 => ?_)
  refine sX_aload_n (i := 1) (by decide +kernel) rfl ?_
  refine sX_getI lf_X5_165 tk_9_0 (by decide +kernel) (fun x2 => ?_)
  refine sX_icge (o := 5) (t := 13) (by decide +kernel) (by decide) (fun _ => ?_) (fun _ => ?_)
  · refine sX_aload_n (i := 0) (by decide +kernel) rfl ?_
    refine sX_getR lf_X5_18 tk_5_0 (by decide +kernel) (fun x3 => ?_)
    refine sX_iconst (n := 5) (v := (5 : Int32)) (by decide +kernel) (by decide) ?_
    refine sX_iload_n (i := 2) (by decide +kernel) rfl ?_
    refine sX_callVv (As := [.int (5 : Int32), .int v2]) (by decide +kernel) lm_X5_48 mf_X10_fail mi_X10_fail mc_10 (m_X10_fail G l x3 ((5 : Int32)) v2 M0) (fun _ h => sRc_some h) (by decide) rfl rfl (Nat.le_of_ble_eq_true rfl) (fun M4 => ?_)
    refine sX_iconst (n := 1) (v := (1 : Int32)) (by decide +kernel) (by decide) ?_
    exact sX_some (fun h _ => sW_zret (by decide +kernel) rfl (by decide) (hr _ h).1.symm (hr _ h).2.symm)
  · refine sX_iconst (n := 0) (v := (0 : Int32)) (by decide +kernel) (by decide) ?_
    exact sX_some (fun h _ => sW_zret (by decide +kernel) rfl (by decide) (hr _ h).1.symm (hr _ h).2.symm)
def f_X10_name_B70 (v0 : Nat) (v1 : Int32) (M : sMem) : Option (Int32 × sMem) :=
  (f_X10_fail v0 ((1 : Int32)) v1 M).bind fun M1 =>
  some (((0 : Int32), M1))
def f_X10_name_B142 (v0 : Nat) (v1 : Int32) (v2 : Int32) (v5 : Int32) (s0 : Int32) (s1 : Int32) (M : sMem) : Option ((Int32 × Int32) ⊕ (((Int32 × sMem)))) :=
  some (.inl ((((s0 + s1)), ((v5 + (1 : Int32))))))
def f_X10_name_K107 (v0 : Nat) (v1 : Int32) (v2 : Int32) (v4 : Int32) (v5 : Int32) (M : sMem) : Option ((Int32 × Int32) ⊕ (((Int32 × sMem)))) :=
  if (v1 + (6 : Int32)) ≤ v5 then
    some (.inr ((v4, M)))
  else
    if v2 ≤ v5 then
      f_X10_name_B142 v0 v1 v2 v5 ((v4 * (27 : Int32))) ((0 : Int32)) M
    else
      (f_X10_byteAt v0 v5 M).bind fun x2 =>
      f_X10_name_B142 v0 v1 v2 v5 ((v4 * (27 : Int32))) (((x2 - (97 : Int32)) + (1 : Int32))) M
def f_X10_name_L107 (v0 : Nat) (v1 : Int32) (v2 : Int32) (v4 : Int32) (v5 : Int32) (M : sMem) : Option (Int32 × sMem) :=
  (sItr (fun a : (Int32 × Int32) => f_X10_name_K107 v0 v1 v2 a.1 a.2 M) sFuel (v4, v5)).bind (fun b => some b)
def f_X10_name_B52 (v0 : Nat) (v1 : Int32) (v2 : Int32) (s0 : Int32) (M : sMem) : Option (Int32 × sMem) :=
  (gR 10 10 2 M v0).bind fun x3 =>
  (gI 10 10 7 M v0).bind fun x4 =>
  (ldI 14 M x3 x4).bind fun x5 =>
  if x5 = (1 : Int32) then
    if s0 = 0 then
      if (v2 - v1) ≤ (6 : Int32) then
        (f_X10_goOn v0 M).bind fun M6 =>
        f_X10_name_L107 v0 v1 v2 ((0 : Int32)) v1 M6
      else
        (f_X10_fail v0 ((1 : Int32)) ((v1 + (6 : Int32))) M).bind fun M7 =>
        some (((0 : Int32), M7))
    else
      f_X10_name_B70 v0 v1 M
  else
    f_X10_name_B70 v0 v1 M
def f_X10_name_B51 (v0 : Nat) (v1 : Int32) (v2 : Int32) (M : sMem) : Option (Int32 × sMem) :=
  f_X10_name_B52 v0 v1 v2 ((0 : Int32)) M
def f_X10_name (v0 : Nat) (M0 : sMem) : Option (Int32 × sMem) :=
  sRc 10 10 M0 v0 (
    (gR 10 10 3 M0 v0).bind fun x8 =>
    (gI 10 10 7 M0 v0).bind fun x9 =>
    (ldI 14 M0 x8 x9).bind fun x10 =>
    (gR 10 10 4 M0 v0).bind fun x11 =>
    (gI 10 10 7 M0 v0).bind fun x12 =>
    (ldI 14 M0 x11 x12).bind fun x13 =>
    (gR 10 10 5 M0 v0).bind fun x14 =>
    (gI 10 10 7 M0 v0).bind fun x15 =>
    (ldI 14 M0 x14 x15).bind fun x16 =>
    if x16 = (-1 : Int32) then
      f_X10_name_B51 v0 x10 x13 M0
    else
      (gR 10 10 5 M0 v0).bind fun x17 =>
      (gI 10 10 7 M0 v0).bind fun x18 =>
      (ldI 14 M0 x17 x18).bind fun x19 =>
      if (33 : Int32) ≤ x19 then
        f_X10_name_B51 v0 x10 x13 M0
      else
        f_X10_name_B52 v0 x10 x13 ((1 : Int32)) M0)
set_option maxRecDepth 100000 in
set_option maxHeartbeats 4000000 in
theorem m_X10_name (G : sG) (l : Launch) (v0 : Nat) (M0 : sMem) : sC G l 3 yX10_name cX10_name 6 (some .int) [.ref v0] M0 rvI (f_X10_name v0 M0) := by
  refine sC_m (ls := [some (.ref v0), none, none, none, none, none]) (by decide +kernel) rfl (Nat.le_of_ble_eq_true rfl) (fun r M' K hr => ?_)
  unfold f_X10_name
  have xB70 : ∀ (v0 : Nat) (v1 : Int32) (M : sMem), sX G l 3 yX10_name cX10_name 6 (some .int) M0 r M' 70 [some (.ref v0), some (.int v1), none, none, none, none] [] M (f_X10_name_B70 v0 v1 M) K := by
    intro v0 v1 M
    unfold f_X10_name_B70
    refine sX_aload_n (i := 0) (by decide +kernel) rfl ?_
    refine sX_iconst (n := 1) (v := (1 : Int32)) (by decide +kernel) (by decide) ?_
    refine sX_iload_n (i := 1) (by decide +kernel) rfl ?_
    refine sX_callVv (As := [.int (1 : Int32), .int v1]) (by decide +kernel) lm_X10_64 mf_X10_fail mi_X10_fail mc_10 (m_X10_fail G l v0 ((1 : Int32)) v1 M) (fun _ h => sRc_some h) (by decide) rfl rfl (Nat.le_of_ble_eq_true rfl) (fun M1 => ?_)
    refine sX_iconst (n := 0) (v := (0 : Int32)) (by decide +kernel) (by decide) ?_
    exact sX_some (fun h _ => sW_iret (by decide +kernel) rfl (hr _ h).1.symm (hr _ h).2.symm)
  have xL107 : ∀ (v0 : Nat) (v1 : Int32) (v2 : Int32) (v4 : Int32) (v5 : Int32) (M : sMem), sX G l 3 yX10_name cX10_name 6 (some .int) M0 r M' 107 [some (.ref v0), some (.int v1), some (.int v2), none, some (.int v4), some (.int v5)] [] M (f_X10_name_L107 v0 v1 v2 v4 v5 M) K := by
    intro v0 v1 v2 v4 v5 M
    unfold f_X10_name_L107
    refine sX_bind ?_
    refine sX_loop (LS := fun a : (Int32 × Int32) => [some (.ref v0), some (.int v1), some (.int v2), none, some (.int a.1), some (.int a.2)]) (MM := fun a => M) (fun K1 hb1 he1 => ?_) sFuel ((v4, v5))
    have xB142 : ∀ (v5 : Int32) (s0 : Int32) (s1 : Int32), sX G l 3 yX10_name cX10_name 6 (some .int) M0 r M' 142 [some (.ref v0), some (.int v1), some (.int v2), none, none, some (.int v5)] [.int s1, .int s0] M (f_X10_name_B142 v0 v1 v2 v5 s0 s1 M) K1 := by
      intro v5 s0 s1
      unfold f_X10_name_B142
      refine sX_iadd (by decide +kernel) ?_
      refine sX_istore (i := 4) (ls2 := [some (.ref v0), some (.int v1), some (.int v2), none, some (.int (s0 + s1)), some (.int v5)]) (by decide +kernel) (by decide) rfl ?_
      refine sX_iinc (i := 5) (n := 1) (v := v5 + (1 : Int32)) (ls2 := [some (.ref v0), some (.int v1), some (.int v2), none, some (.int (s0 + s1)), some (.int (v5 + (1 : Int32)))]) (by decide +kernel) rfl rfl (by decide) rfl ?_
      refine sX_goto (o := -41) (t := 107) (by decide +kernel) (by decide) ?_
      exact sX_back (a := (((s0 + s1)), ((v5 + (1 : Int32))))) hb1 rfl (sLe_s (sLe_s (sLe_s (sLe_n (sLe_s (sLe_s sLe_e))))))
    have xK107 : ∀ (v4 : Int32) (v5 : Int32), sX G l 3 yX10_name cX10_name 6 (some .int) M0 r M' 107 [some (.ref v0), some (.int v1), some (.int v2), none, some (.int v4), some (.int v5)] [] M (f_X10_name_K107 v0 v1 v2 v4 v5 M) K1 := by
      intro v4 v5
      unfold f_X10_name_K107
      refine sX_iload (i := 5) (by decide +kernel) rfl ?_
      refine sX_iload_n (i := 1) (by decide +kernel) rfl ?_
      refine sX_bipush (n := 6) (v := (6 : Int32)) (by decide +kernel) (by decide) ?_
      refine sX_iadd (by decide +kernel) ?_
      refine sX_icge (o := 38) (t := 151) (by decide +kernel) (by decide) (fun _ => ?_) (fun _ => ?_)
      · refine sX_iload (i := 4) (by decide +kernel) rfl ?_
        refine sX_exit he1 ?_
        exact sX_some (fun h _ => sW_iret (by decide +kernel) rfl (hr _ h).1.symm (hr _ h).2.symm)
      · refine sX_iload (i := 4) (by decide +kernel) rfl ?_
        refine sX_bipush (n := 27) (v := (27 : Int32)) (by decide +kernel) (by decide) ?_
        refine sX_imul (by decide +kernel) ?_
        refine sX_iload (i := 5) (by decide +kernel) rfl ?_
        refine sX_iload_n (i := 2) (by decide +kernel) rfl ?_
        refine sX_icge (o := 17) (t := 141) (by decide +kernel) (by decide) (fun _ => ?_) (fun _ => ?_)
        · refine sX_iconst (n := 0) (v := (0 : Int32)) (by decide +kernel) (by decide) ?_
          exact sX.le (xB142 v5 ((v4 * (27 : Int32))) ((0 : Int32))) (sLe_s (sLe_s (sLe_s (sLe_n (sLe_n (sLe_s sLe_e))))))
        · refine sX_aload_n (i := 0) (by decide +kernel) rfl ?_
          refine sX_iload (i := 5) (by decide +kernel) rfl ?_
          refine sX_callVp (As := [.int v5]) (by decide +kernel) lm_X10_72 mf_X10_byteAt mi_X10_byteAt mc_10 (m_X10_byteAt G l v0 v5 M) (fun _ h => sRc_some h) (by decide) rfl rfl (Nat.le_of_ble_eq_true rfl) (fun x2 => ?_)
          refine sX_bipush (n := 97) (v := (97 : Int32)) (by decide +kernel) (by decide) ?_
          refine sX_isub (by decide +kernel) ?_
          refine sX_iconst (n := 1) (v := (1 : Int32)) (by decide +kernel) (by decide) ?_
          refine sX_iadd (by decide +kernel) ?_
          refine sX_goto (o := 4) (t := 142) (by decide +kernel) (by decide) ?_
          exact sX.le (xB142 v5 ((v4 * (27 : Int32))) (((x2 - (97 : Int32)) + (1 : Int32)))) (sLe_s (sLe_s (sLe_s (sLe_n (sLe_n (sLe_s sLe_e))))))
    exact fun a => xK107 a.1 a.2
  have xB52 : ∀ (v0 : Nat) (v1 : Int32) (v2 : Int32) (s0 : Int32) (M : sMem), sX G l 3 yX10_name cX10_name 6 (some .int) M0 r M' 52 [some (.ref v0), some (.int v1), some (.int v2), none, none, none] [.int s0] M (f_X10_name_B52 v0 v1 v2 s0 M) K := by
    intro v0 v1 v2 s0 M
    unfold f_X10_name_B52
    refine sX_istore_n (i := 3) (ls2 := [some (.ref v0), some (.int v1), some (.int v2), some (.int s0), none, none]) (by decide +kernel) (by decide) rfl ?_
    refine sX_aload_n (i := 0) (by decide +kernel) rfl ?_
    refine sX_getR lf_X10_15 tk_10_2 (by decide +kernel) (fun x3 => ?_)
    refine sX_aload_n (i := 0) (by decide +kernel) rfl ?_
    refine sX_getI lf_X10_37 tk_10_7 (by decide +kernel) (fun x4 => ?_)
    refine sX_iaload (by decide +kernel) (fun x5 => ?_)
    refine sX_iconst (n := 1) (v := (1 : Int32)) (by decide +kernel) (by decide) ?_
    refine sX_icne (o := 7) (t := 70) (by decide +kernel) (by decide) (fun _ => ?_) (fun _ => ?_)
    · refine sX_iload_n (i := 3) (by decide +kernel) rfl ?_
      refine sX_ifeq (o := 11) (t := 78) (by decide +kernel) (by decide) (fun _ => ?_) (fun _ => ?_)
      · refine sX_iload_n (i := 2) (by decide +kernel) rfl ?_
        refine sX_iload_n (i := 1) (by decide +kernel) rfl ?_
        refine sX_isub (by decide +kernel) ?_
        refine sX_bipush (n := 6) (v := (6 : Int32)) (by decide +kernel) (by decide) ?_
        refine sX_icle (o := 14) (t := 97) (by decide +kernel) (by decide) (fun _ => ?_) (fun _ => ?_)
        · refine sX_aload_n (i := 0) (by decide +kernel) rfl ?_
          refine sX_callVv (As := []) (by decide +kernel) lm_X10_57 mf_X10_goOn mi_X10_goOn mc_10 (m_X10_goOn G l v0 M) (fun _ h => sRc_some h) (by decide) rfl rfl (Nat.le_of_ble_eq_true rfl) (fun M6 => ?_)
          refine sX_iconst (n := 0) (v := (0 : Int32)) (by decide +kernel) (by decide) ?_
          refine sX_istore (i := 4) (ls2 := [some (.ref v0), some (.int v1), some (.int v2), some (.int s0), some (.int (0 : Int32)), none]) (by decide +kernel) (by decide) rfl ?_
          refine sX_iload_n (i := 1) (by decide +kernel) rfl ?_
          refine sX_istore (i := 5) (ls2 := [some (.ref v0), some (.int v1), some (.int v2), some (.int s0), some (.int (0 : Int32)), some (.int v1)]) (by decide +kernel) (by decide) rfl ?_
          exact sX.le (xL107 v0 v1 v2 ((0 : Int32)) v1 M6) (sLe_s (sLe_s (sLe_s (sLe_n (sLe_s (sLe_s sLe_e))))))
        · refine sX_aload_n (i := 0) (by decide +kernel) rfl ?_
          refine sX_iconst (n := 1) (v := (1 : Int32)) (by decide +kernel) (by decide) ?_
          refine sX_iload_n (i := 1) (by decide +kernel) rfl ?_
          refine sX_bipush (n := 6) (v := (6 : Int32)) (by decide +kernel) (by decide) ?_
          refine sX_iadd (by decide +kernel) ?_
          refine sX_callVv (As := [.int (1 : Int32), .int (v1 + (6 : Int32))]) (by decide +kernel) lm_X10_64 mf_X10_fail mi_X10_fail mc_10 (m_X10_fail G l v0 ((1 : Int32)) ((v1 + (6 : Int32))) M) (fun _ h => sRc_some h) (by decide) rfl rfl (Nat.le_of_ble_eq_true rfl) (fun M7 => ?_)
          refine sX_iconst (n := 0) (v := (0 : Int32)) (by decide +kernel) (by decide) ?_
          exact sX_some (fun h _ => sW_iret (by decide +kernel) rfl (hr _ h).1.symm (hr _ h).2.symm)
      · exact sX.le (xB70 v0 v1 M) (sLe_s (sLe_s (sLe_n (sLe_n (sLe_n (sLe_n sLe_e))))))
    · exact sX.le (xB70 v0 v1 M) (sLe_s (sLe_s (sLe_n (sLe_n (sLe_n (sLe_n sLe_e))))))
  have xB51 : ∀ (v0 : Nat) (v1 : Int32) (v2 : Int32) (M : sMem), sX G l 3 yX10_name cX10_name 6 (some .int) M0 r M' 51 [some (.ref v0), some (.int v1), some (.int v2), none, none, none] [] M (f_X10_name_B51 v0 v1 v2 M) K := by
    intro v0 v1 v2 M
    unfold f_X10_name_B51
    refine sX_iconst (n := 0) (v := (0 : Int32)) (by decide +kernel) (by decide) ?_
    exact sX.le (xB52 v0 v1 v2 ((0 : Int32)) M) (sLe_s (sLe_s (sLe_s (sLe_n (sLe_n (sLe_n sLe_e))))))
  refine sX_rc ?_
  refine sX_aload_n (i := 0) (by decide +kernel) rfl ?_
  refine sX_getR lf_X10_18 tk_10_3 (by decide +kernel) (fun x8 => ?_)
  refine sX_aload_n (i := 0) (by decide +kernel) rfl ?_
  refine sX_getI lf_X10_37 tk_10_7 (by decide +kernel) (fun x9 => ?_)
  refine sX_iaload (by decide +kernel) (fun x10 => ?_)
  refine sX_istore_n (i := 1) (ls2 := [some (.ref v0), some (.int x10), none, none, none, none]) (by decide +kernel) (by decide) rfl ?_
  refine sX_aload_n (i := 0) (by decide +kernel) rfl ?_
  refine sX_getR lf_X10_21 tk_10_4 (by decide +kernel) (fun x11 => ?_)
  refine sX_aload_n (i := 0) (by decide +kernel) rfl ?_
  refine sX_getI lf_X10_37 tk_10_7 (by decide +kernel) (fun x12 => ?_)
  refine sX_iaload (by decide +kernel) (fun x13 => ?_)
  refine sX_istore_n (i := 2) (ls2 := [some (.ref v0), some (.int x10), some (.int x13), none, none, none]) (by decide +kernel) (by decide) rfl ?_
  refine sX_aload_n (i := 0) (by decide +kernel) rfl ?_
  refine sX_getR lf_X10_24 tk_10_5 (by decide +kernel) (fun x14 => ?_)
  refine sX_aload_n (i := 0) (by decide +kernel) rfl ?_
  refine sX_getI lf_X10_37 tk_10_7 (by decide +kernel) (fun x15 => ?_)
  refine sX_iaload (by decide +kernel) (fun x16 => ?_)
  refine sX_iconst (n := -1) (v := (-1 : Int32)) (by decide +kernel) (by decide) ?_
  refine sX_iceq (o := 21) (t := 51) (by decide +kernel) (by decide) (fun _ => ?_) (fun _ => ?_)
  · exact sX.le (xB51 v0 x10 x13 M0) (sLe_s (sLe_s (sLe_s (sLe_n (sLe_n (sLe_n sLe_e))))))
  · refine sX_aload_n (i := 0) (by decide +kernel) rfl ?_
    refine sX_getR lf_X10_24 tk_10_5 (by decide +kernel) (fun x17 => ?_)
    refine sX_aload_n (i := 0) (by decide +kernel) rfl ?_
    refine sX_getI lf_X10_37 tk_10_7 (by decide +kernel) (fun x18 => ?_)
    refine sX_iaload (by decide +kernel) (fun x19 => ?_)
    refine sX_bipush (n := 33) (v := (33 : Int32)) (by decide +kernel) (by decide) ?_
    refine sX_icge (o := 7) (t := 51) (by decide +kernel) (by decide) (fun _ => ?_) (fun _ => ?_)
    · exact sX.le (xB51 v0 x10 x13 M0) (sLe_s (sLe_s (sLe_s (sLe_n (sLe_n (sLe_n sLe_e))))))
    · refine sX_iconst (n := 1) (v := (1 : Int32)) (by decide +kernel) (by decide) ?_
      refine sX_goto (o := 4) (t := 52) (by decide +kernel) (by decide) ?_
      exact sX.le (xB52 v0 x10 x13 ((1 : Int32)) M0) (sLe_s (sLe_s (sLe_s (sLe_n (sLe_n (sLe_n sLe_e))))))
def f_X9_find_K2 (v0 : Nat) (v1 : Int32) (v2 : Int32) (M0 : sMem) : Option ((Int32) ⊕ ((Int32))) :=
  (gI 9 4 3 M0 v0).bind fun x1 =>
  if x1 ≤ v2 then
    some (.inr ((-1 : Int32)))
  else
    (gR 9 4 1 M0 v0).bind fun x2 =>
    (ldI 14 M0 x2 v2).bind fun x3 =>
    if x3 = v1 then
      some (.inr v2)
    else
      some (.inl (((v2 + (1 : Int32)))))
def f_X9_find_L2 (v0 : Nat) (v1 : Int32) (v2 : Int32) (M0 : sMem) : Option Int32 :=
  (sItr (fun a : (Int32) => f_X9_find_K2 v0 v1 a M0) sFuel v2).bind (fun b => some b)
def f_X9_find (v0 : Nat) (v1 : Int32) (M0 : sMem) : Option Int32 :=
  sRc 9 4 M0 v0 (
    f_X9_find_L2 v0 v1 ((0 : Int32)) M0)
set_option maxRecDepth 100000 in
set_option maxHeartbeats 4000000 in
theorem m_X9_find (G : sG) (l : Launch) (v0 : Nat) (v1 : Int32) (M0 : sMem) : sCp G l 1 yX9_find cX9_find 3 (some .int) [.ref v0, .int v1] M0 rvI (f_X9_find v0 v1 M0) := by
  refine sC_p (ls := [some (.ref v0), some (.int v1), none]) (by decide +kernel) rfl (Nat.le_of_ble_eq_true rfl) (fun r M' K hr => ?_)
  unfold f_X9_find
  have xL2 : ∀ (v0 : Nat) (v1 : Int32) (v2 : Int32), sX G l 1 yX9_find cX9_find 3 (some .int) M0 r M' 2 [some (.ref v0), some (.int v1), some (.int v2)] [] M0 (f_X9_find_L2 v0 v1 v2 M0) K := by
    intro v0 v1 v2
    unfold f_X9_find_L2
    refine sX_bind ?_
    refine sX_loop (LS := fun a : (Int32) => [some (.ref v0), some (.int v1), some (.int a)]) (MM := fun a => M0) (fun K1 hb1 he1 => ?_) sFuel v2
    have xK2 : ∀ (v2 : Int32), sX G l 1 yX9_find cX9_find 3 (some .int) M0 r M' 2 [some (.ref v0), some (.int v1), some (.int v2)] [] M0 (f_X9_find_K2 v0 v1 v2 M0) K1 := by
      intro v2
      unfold f_X9_find_K2
      refine sX_iload_n (i := 2) (by decide +kernel) rfl ?_
      refine sX_aload_n (i := 0) (by decide +kernel) rfl ?_
      refine sX_getI lf_X9_22 tk_9_3 (by decide +kernel) (fun x1 => ?_)
      refine sX_icge (o := 21) (t := 28) (by decide +kernel) (by decide) (fun _ => ?_) (fun _ => ?_)
      · refine sX_iconst (n := -1) (v := (-1 : Int32)) (by decide +kernel) (by decide) ?_
        refine sX_exit he1 ?_
        exact sX_some (fun h _ => sW_iret (by decide +kernel) rfl (hr _ h).1.symm (hr _ h).2.symm)
      · refine sX_aload_n (i := 0) (by decide +kernel) rfl ?_
        refine sX_getR lf_X9_15 tk_9_1 (by decide +kernel) (fun x2 => ?_)
        refine sX_iload_n (i := 2) (by decide +kernel) rfl ?_
        refine sX_iaload (by decide +kernel) (fun x3 => ?_)
        refine sX_iload_n (i := 1) (by decide +kernel) rfl ?_
        refine sX_icne (o := 5) (t := 22) (by decide +kernel) (by decide) (fun _ => ?_) (fun _ => ?_)
        · refine sX_iload_n (i := 2) (by decide +kernel) rfl ?_
          refine sX_exit he1 ?_
          exact sX_some (fun h _ => sW_iret (by decide +kernel) rfl (hr _ h).1.symm (hr _ h).2.symm)
        · refine sX_iinc (i := 2) (n := 1) (v := v2 + (1 : Int32)) (ls2 := [some (.ref v0), some (.int v1), some (.int (v2 + (1 : Int32)))]) (by decide +kernel) rfl rfl (by decide) rfl ?_
          refine sX_goto (o := -23) (t := 2) (by decide +kernel) (by decide) ?_
          exact sX_back (a := ((v2 + (1 : Int32)))) hb1 rfl (sLe_s (sLe_s (sLe_s sLe_e)))
    exact fun a => xK2 a
  refine sX_rc ?_
  refine sX_iconst (n := 0) (v := (0 : Int32)) (by decide +kernel) (by decide) ?_
  refine sX_istore_n (i := 2) (ls2 := [some (.ref v0), some (.int v1), some (.int (0 : Int32))]) (by decide +kernel) (by decide) rfl ?_
  exact sX.le (xL2 v0 v1 ((0 : Int32))) (sLe_s (sLe_s (sLe_s sLe_e)))
def f_X5_newName_B64 (v0 : Nat) (v2 : Int32) (v3 : Int32) (M : sMem) : Option (Int32 × sMem) :=
  (gR 5 2 0 M v0).bind fun x1 =>
  (f_X10_fail x1 ((3 : Int32)) v2 M).bind fun M2 =>
  some ((v3, M2))
def f_X5_newName (v0 : Nat) (v1 : Nat) (M0 : sMem) : Option (Int32 × sMem) :=
  sRc 5 2 M0 v0 (
    (gR 5 2 0 M0 v0).bind fun x3 =>
    (f_X10_place x3 M0).bind fun x4 =>
    (gR 5 2 0 M0 v0).bind fun x5 =>
    (f_X10_name x5 M0).bind fun (x6, M7) =>
    (gR 1 10 1 M7 v1).bind fun x8 =>
    (f_X9_find x8 x6 M7).bind fun x9 =>
    if x9 = (-1 : Int32) then
      (gR 1 10 2 M7 v1).bind fun x10 =>
      (f_X9_find x10 x6 M7).bind fun x11 =>
      if x11 = (-1 : Int32) then
        (gR 1 10 4 M7 v1).bind fun x12 =>
        (f_X9_find x12 x6 M7).bind fun x13 =>
        if x13 = (-1 : Int32) then
          (gR 1 10 5 M7 v1).bind fun x14 =>
          (f_X9_find x14 x6 M7).bind fun x15 =>
          if x15 = (-1 : Int32) then
            some ((x6, M7))
          else
            f_X5_newName_B64 v0 x4 x6 M7
        else
          f_X5_newName_B64 v0 x4 x6 M7
      else
        f_X5_newName_B64 v0 x4 x6 M7
    else
      f_X5_newName_B64 v0 x4 x6 M7)
set_option maxRecDepth 100000 in
set_option maxHeartbeats 4000000 in
theorem m_X5_newName (G : sG) (l : Launch) (v0 : Nat) (v1 : Nat) (M0 : sMem) : sC G l 4 yX5_newName cX5_newName 4 (some .int) [.ref v0, .ref v1] M0 rvI (f_X5_newName v0 v1 M0) := by
  refine sC_m (ls := [some (.ref v0), some (.ref v1), none, none]) (by decide +kernel) rfl (Nat.le_of_ble_eq_true rfl) (fun r M' K hr => ?_)
  unfold f_X5_newName
  have xB64 : ∀ (v0 : Nat) (v2 : Int32) (v3 : Int32) (M : sMem), sX G l 4 yX5_newName cX5_newName 4 (some .int) M0 r M' 64 [some (.ref v0), none, some (.int v2), some (.int v3)] [] M (f_X5_newName_B64 v0 v2 v3 M) K := by
    intro v0 v2 v3 M
    unfold f_X5_newName_B64
    refine sX_aload_n (i := 0) (by decide +kernel) rfl ?_
    refine sX_getR lf_X5_18 tk_5_0 (by decide +kernel) (fun x1 => ?_)
    refine sX_iconst (n := 3) (v := (3 : Int32)) (by decide +kernel) (by decide) ?_
    refine sX_iload_n (i := 2) (by decide +kernel) rfl ?_
    refine sX_callVv (As := [.int (3 : Int32), .int v2]) (by decide +kernel) lm_X5_48 mf_X10_fail mi_X10_fail mc_10 (m_X10_fail G l x1 ((3 : Int32)) v2 M) (fun _ h => sRc_some h) (by decide) rfl rfl (Nat.le_of_ble_eq_true rfl) (fun M2 => ?_)
    refine sX_iload_n (i := 3) (by decide +kernel) rfl ?_
    exact sX_some (fun h _ => sW_iret (by decide +kernel) rfl (hr _ h).1.symm (hr _ h).2.symm)
  refine sX_rc ?_
  refine sX_aload_n (i := 0) (by decide +kernel) rfl ?_
  refine sX_getR lf_X5_18 tk_5_0 (by decide +kernel) (fun x3 => ?_)
  refine sX_callVp (As := []) (by decide +kernel) lm_X5_44 mf_X10_place mi_X10_place mc_10 (m_X10_place G l x3 M0) (fun _ h => sRc_some h) (by decide) rfl rfl (Nat.le_of_ble_eq_true rfl) (fun x4 => ?_)
  refine sX_istore_n (i := 2) (ls2 := [some (.ref v0), some (.ref v1), some (.int x4), none]) (by decide +kernel) (by decide) rfl ?_
  refine sX_aload_n (i := 0) (by decide +kernel) rfl ?_
  refine sX_getR lf_X5_18 tk_5_0 (by decide +kernel) (fun x5 => ?_)
  refine sX_callV (As := []) (by decide +kernel) lm_X5_168 mf_X10_name mi_X10_name mc_10 (m_X10_name G l x5 M0) (fun _ h => sRc_some h) (by decide) rfl rfl (Nat.le_of_ble_eq_true rfl) (fun x6 M7 _ => ?_)
  refine sX_istore_n (i := 3) (ls2 := [some (.ref v0), some (.ref v1), some (.int x4), some (.int x6)]) (by decide +kernel) (by decide) rfl ?_
  refine sX_aload_n (i := 1) (by decide +kernel) rfl ?_
  refine sX_getR lf_X5_128 tk_1_1 (by decide +kernel) (fun x8 => ?_)
  refine sX_iload_n (i := 3) (by decide +kernel) rfl ?_
  refine sX_callVp (As := [.int x6]) (by decide +kernel) lm_X5_171 mf_X9_find mi_X9_find mc_9 (m_X9_find G l x8 x6 M7) (fun _ h => sRc_some h) (by decide) rfl rfl (Nat.le_of_ble_eq_true rfl) (fun x9 => ?_)
  refine sX_iconst (n := -1) (v := (-1 : Int32)) (by decide +kernel) (by decide) ?_
  refine sX_icne (o := 39) (t := 64) (by decide +kernel) (by decide) (fun _ => ?_) (fun _ => ?_)
  · refine sX_aload_n (i := 1) (by decide +kernel) rfl ?_
    refine sX_getR lf_X5_146 tk_1_2 (by decide +kernel) (fun x10 => ?_)
    refine sX_iload_n (i := 3) (by decide +kernel) rfl ?_
    refine sX_callVp (As := [.int x6]) (by decide +kernel) lm_X5_171 mf_X9_find mi_X9_find mc_9 (m_X9_find G l x10 x6 M7) (fun _ h => sRc_some h) (by decide) rfl rfl (Nat.le_of_ble_eq_true rfl) (fun x11 => ?_)
    refine sX_iconst (n := -1) (v := (-1 : Int32)) (by decide +kernel) (by decide) ?_
    refine sX_icne (o := 27) (t := 64) (by decide +kernel) (by decide) (fun _ => ?_) (fun _ => ?_)
    · refine sX_aload_n (i := 1) (by decide +kernel) rfl ?_
      refine sX_getR lf_X5_156 tk_1_4 (by decide +kernel) (fun x12 => ?_)
      refine sX_iload_n (i := 3) (by decide +kernel) rfl ?_
      refine sX_callVp (As := [.int x6]) (by decide +kernel) lm_X5_171 mf_X9_find mi_X9_find mc_9 (m_X9_find G l x12 x6 M7) (fun _ h => sRc_some h) (by decide) rfl rfl (Nat.le_of_ble_eq_true rfl) (fun x13 => ?_)
      refine sX_iconst (n := -1) (v := (-1 : Int32)) (by decide +kernel) (by decide) ?_
      refine sX_icne (o := 15) (t := 64) (by decide +kernel) (by decide) (fun _ => ?_) (fun _ => ?_)
      · refine sX_aload_n (i := 1) (by decide +kernel) rfl ?_
        refine sX_getR lf_X5_159 tk_1_5 (by decide +kernel) (fun x14 => ?_)
        refine sX_iload_n (i := 3) (by decide +kernel) rfl ?_
        refine sX_callVp (As := [.int x6]) (by decide +kernel) lm_X5_171 mf_X9_find mi_X9_find mc_9 (m_X9_find G l x14 x6 M7) (fun _ h => sRc_some h) (by decide) rfl rfl (Nat.le_of_ble_eq_true rfl) (fun x15 => ?_)
        refine sX_iconst (n := -1) (v := (-1 : Int32)) (by decide +kernel) (by decide) ?_
        refine sX_iceq (o := 12) (t := 73) (by decide +kernel) (by decide) (fun _ => ?_) (fun _ => ?_)
        · refine sX_iload_n (i := 3) (by decide +kernel) rfl ?_
          exact sX_some (fun h _ => sW_iret (by decide +kernel) rfl (hr _ h).1.symm (hr _ h).2.symm)
        · exact sX.le (xB64 v0 x4 x6 M7) (sLe_s (sLe_n (sLe_s (sLe_s sLe_e))))
      · exact sX.le (xB64 v0 x4 x6 M7) (sLe_s (sLe_n (sLe_s (sLe_s sLe_e))))
    · exact sX.le (xB64 v0 x4 x6 M7) (sLe_s (sLe_n (sLe_s (sLe_s sLe_e))))
  · exact sX.le (xB64 v0 x4 x6 M7) (sLe_s (sLe_n (sLe_s (sLe_s sLe_e))))
def f_X9_add_B77 (v0 : Nat) (M : sMem) : Option sMem :=
  (gI 9 4 3 M v0).bind fun x1 =>
  (pI 9 4 3 M v0 ((x1 + (1 : Int32)))).bind fun M2 =>
  some M2
def f_X9_add (v0 : Nat) (v1 : Int32) (v2 : Int32) (v3 : Int32) (v4 : Int32) (v5 : Int32) (M0 : sMem) : Option sMem :=
  sRc 9 4 M0 v0 (
    (gI 9 4 3 M0 v0).bind fun x3 =>
    (gI 9 4 0 M0 v0).bind fun x4 =>
    if x4 ≤ x3 then
      some M0
    else
      (gR 9 4 1 M0 v0).bind fun x5 =>
      (gI 9 4 3 M0 v0).bind fun x6 =>
      (stI M0 x5 x6 v1).bind fun M7 =>
      (gR 9 4 2 M7 v0).bind fun x8 =>
      (gI 9 4 3 M7 v0).bind fun x9 =>
      (stI M7 x8 ((x9 * (4 : Int32))) v2).bind fun M10 =>
      (gR 9 4 2 M10 v0).bind fun x11 =>
      (gI 9 4 3 M10 v0).bind fun x12 =>
      (stI M10 x11 (((x12 * (4 : Int32)) + (1 : Int32))) v3).bind fun M13 =>
      (gR 9 4 2 M13 v0).bind fun x14 =>
      (gI 9 4 3 M13 v0).bind fun x15 =>
      (stI M13 x14 (((x15 * (4 : Int32)) + (2 : Int32))) v4).bind fun M16 =>
      (gR 9 4 2 M16 v0).bind fun x17 =>
      (gI 9 4 3 M16 v0).bind fun x18 =>
      (stI M16 x17 (((x18 * (4 : Int32)) + (3 : Int32))) v5).bind fun M19 =>
      f_X9_add_B77 v0 M19)
set_option maxRecDepth 100000 in
set_option maxHeartbeats 4000000 in
theorem m_X9_add (G : sG) (l : Launch) (v0 : Nat) (v1 : Int32) (v2 : Int32) (v3 : Int32) (v4 : Int32) (v5 : Int32) (M0 : sMem) : sCv G l 1 yX9_add cX9_add 6 none [.ref v0, .int v1, .int v2, .int v3, .int v4, .int v5] M0 (f_X9_add v0 v1 v2 v3 v4 v5 M0) := by
  refine sC_v (ls := [some (.ref v0), some (.int v1), some (.int v2), some (.int v3), some (.int v4), some (.int v5)]) (by decide +kernel) rfl (Nat.le_of_ble_eq_true rfl) (fun r M' K hr => ?_)
  unfold f_X9_add
  have xB77 : ∀ (v0 : Nat) (M : sMem), sX G l 1 yX9_add cX9_add 6 none M0 r M' 77 [some (.ref v0), none, none, none, none, none] [] M (f_X9_add_B77 v0 M) K := by
    intro v0 M
    unfold f_X9_add_B77
    refine sX_aload_n (i := 0) (by decide +kernel) rfl ?_
    refine sX_dup (by decide +kernel) rfl ?_
    refine sX_getI lf_X9_22 tk_9_3 (by decide +kernel) (fun x1 => ?_)
    refine sX_iconst (n := 1) (v := (1 : Int32)) (by decide +kernel) (by decide) ?_
    refine sX_iadd (by decide +kernel) ?_
    refine sX_putI lf_X9_22 tp_9_3 (by decide +kernel) (by decide) (fun M2 => ?_)
    exact sX_some (fun h _ => sW_vret (by decide +kernel) rfl (hr _ h).1.symm (hr _ h).2.symm)
  refine sX_rc ?_
  refine sX_aload_n (i := 0) (by decide +kernel) rfl ?_
  refine sX_getI lf_X9_22 tk_9_3 (by decide +kernel) (fun x3 => ?_)
  refine sX_aload_n (i := 0) (by decide +kernel) rfl ?_
  refine sX_getI lf_X9_9 tk_9_0 (by decide +kernel) (fun x4 => ?_)
  refine sX_icge (o := 79) (t := 87) (by decide +kernel) (by decide) (fun _ => ?_) (fun _ => ?_)
  · exact sX_some (fun h _ => sW_vret (by decide +kernel) rfl (hr _ h).1.symm (hr _ h).2.symm)
  · refine sX_aload_n (i := 0) (by decide +kernel) rfl ?_
    refine sX_getR lf_X9_15 tk_9_1 (by decide +kernel) (fun x5 => ?_)
    refine sX_aload_n (i := 0) (by decide +kernel) rfl ?_
    refine sX_getI lf_X9_22 tk_9_3 (by decide +kernel) (fun x6 => ?_)
    refine sX_iload_n (i := 1) (by decide +kernel) rfl ?_
    refine sX_iastore (by decide +kernel) (by decide) (fun M7 => ?_)
    refine sX_aload_n (i := 0) (by decide +kernel) rfl ?_
    refine sX_getR lf_X9_19 tk_9_2 (by decide +kernel) (fun x8 => ?_)
    refine sX_aload_n (i := 0) (by decide +kernel) rfl ?_
    refine sX_getI lf_X9_22 tk_9_3 (by decide +kernel) (fun x9 => ?_)
    refine sX_iconst (n := 4) (v := (4 : Int32)) (by decide +kernel) (by decide) ?_
    refine sX_imul (by decide +kernel) ?_
    refine sX_iload_n (i := 2) (by decide +kernel) rfl ?_
    refine sX_iastore (by decide +kernel) (by decide) (fun M10 => ?_)
    refine sX_aload_n (i := 0) (by decide +kernel) rfl ?_
    refine sX_getR lf_X9_19 tk_9_2 (by decide +kernel) (fun x11 => ?_)
    refine sX_aload_n (i := 0) (by decide +kernel) rfl ?_
    refine sX_getI lf_X9_22 tk_9_3 (by decide +kernel) (fun x12 => ?_)
    refine sX_iconst (n := 4) (v := (4 : Int32)) (by decide +kernel) (by decide) ?_
    refine sX_imul (by decide +kernel) ?_
    refine sX_iconst (n := 1) (v := (1 : Int32)) (by decide +kernel) (by decide) ?_
    refine sX_iadd (by decide +kernel) ?_
    refine sX_iload_n (i := 3) (by decide +kernel) rfl ?_
    refine sX_iastore (by decide +kernel) (by decide) (fun M13 => ?_)
    refine sX_aload_n (i := 0) (by decide +kernel) rfl ?_
    refine sX_getR lf_X9_19 tk_9_2 (by decide +kernel) (fun x14 => ?_)
    refine sX_aload_n (i := 0) (by decide +kernel) rfl ?_
    refine sX_getI lf_X9_22 tk_9_3 (by decide +kernel) (fun x15 => ?_)
    refine sX_iconst (n := 4) (v := (4 : Int32)) (by decide +kernel) (by decide) ?_
    refine sX_imul (by decide +kernel) ?_
    refine sX_iconst (n := 2) (v := (2 : Int32)) (by decide +kernel) (by decide) ?_
    refine sX_iadd (by decide +kernel) ?_
    refine sX_iload (i := 4) (by decide +kernel) rfl ?_
    refine sX_iastore (by decide +kernel) (by decide) (fun M16 => ?_)
    refine sX_aload_n (i := 0) (by decide +kernel) rfl ?_
    refine sX_getR lf_X9_19 tk_9_2 (by decide +kernel) (fun x17 => ?_)
    refine sX_aload_n (i := 0) (by decide +kernel) rfl ?_
    refine sX_getI lf_X9_22 tk_9_3 (by decide +kernel) (fun x18 => ?_)
    refine sX_iconst (n := 4) (v := (4 : Int32)) (by decide +kernel) (by decide) ?_
    refine sX_imul (by decide +kernel) ?_
    refine sX_iconst (n := 3) (v := (3 : Int32)) (by decide +kernel) (by decide) ?_
    refine sX_iadd (by decide +kernel) ?_
    refine sX_iload (i := 5) (by decide +kernel) rfl ?_
    refine sX_iastore (by decide +kernel) (by decide) (fun M19 => ?_)
    exact sX.le (xB77 v0 M19) (sLe_s (sLe_n (sLe_n (sLe_n (sLe_n (sLe_n sLe_e))))))
def f_X5_readGate (v0 : Nat) (v1 : Nat) (v2 : Int32) (M0 : sMem) : Option sMem :=
  sRc 5 2 M0 v0 (
    (gR 1 10 1 M0 v1).bind fun x1 =>
    (f_X5_isFull v0 x1 v2 M0).bind fun (x2, M3) =>
    if x2 = 0 then
      (f_X5_newName v0 v1 M3).bind fun (x4, M5) =>
      (gR 5 2 0 M5 v0).bind fun x6 =>
      (f_X10_needWord x6 ((2 : Int32)) M5).bind fun M7 =>
      (gR 1 10 1 M7 v1).bind fun x8 =>
      (gR 5 2 0 M7 v0).bind fun x9 =>
      (gI 1 10 0 M7 v1).bind fun x10 =>
      (f_X10_number x9 ((0 : Int32)) x10 M7).bind fun (x11, M12) =>
      (f_X9_add x8 x4 x11 ((0 : Int32)) ((0 : Int32)) ((0 : Int32)) M12).bind fun M13 =>
      some M13
    else
      some M3)
set_option maxRecDepth 100000 in
set_option maxHeartbeats 4000000 in
theorem m_X5_readGate (G : sG) (l : Launch) (v0 : Nat) (v1 : Nat) (v2 : Int32) (M0 : sMem) : sCv G l 5 yX5_readGate cX5_readGate 4 none [.ref v0, .ref v1, .int v2] M0 (f_X5_readGate v0 v1 v2 M0) := by
  refine sC_v (ls := [some (.ref v0), some (.ref v1), some (.int v2), none]) (by decide +kernel) rfl (Nat.le_of_ble_eq_true rfl) (fun r M' K hr => ?_)
  unfold f_X5_readGate
  refine sX_rc ?_
  refine sX_aload_n (i := 0) (by decide +kernel) rfl ?_
  refine sX_aload_n (i := 1) (by decide +kernel) rfl ?_
  refine sX_getR lf_X5_128 tk_1_1 (by decide +kernel) (fun x1 => ?_)
  refine sX_iload_n (i := 2) (by decide +kernel) rfl ?_
  refine sX_callV (As := [.ref x1, .int v2]) (by decide +kernel) lm_X5_132 mf_X5_isFull mi_X5_isFull mc_5 (m_X5_isFull G l v0 x1 v2 M0) (fun _ h => sRc_some h) (by decide) rfl rfl (Nat.le_of_ble_eq_true rfl) (fun x2 M3 _ => ?_)
  refine sX_ifeq (o := 4) (t := 13) (by decide +kernel) (by decide) (fun _ => ?_) (fun _ => ?_)
  · refine sX_aload_n (i := 0) (by decide +kernel) rfl ?_
    refine sX_aload_n (i := 1) (by decide +kernel) rfl ?_
    refine sX_callV (As := [.ref v1]) (by decide +kernel) lm_X5_136 mf_X5_newName mi_X5_newName mc_5 (m_X5_newName G l v0 v1 M3) (fun _ h => sRc_some h) (by decide) rfl rfl (Nat.le_of_ble_eq_true rfl) (fun x4 M5 _ => ?_)
    refine sX_istore_n (i := 3) (ls2 := [some (.ref v0), some (.ref v1), some (.int v2), some (.int x4)]) (by decide +kernel) (by decide) rfl ?_
    refine sX_aload_n (i := 0) (by decide +kernel) rfl ?_
    refine sX_getR lf_X5_18 tk_5_0 (by decide +kernel) (fun x6 => ?_)
    refine sX_iconst (n := 2) (v := (2 : Int32)) (by decide +kernel) (by decide) ?_
    refine sX_callVv (As := [.int (2 : Int32)]) (by decide +kernel) lm_X5_65 mf_X10_needWord mi_X10_needWord mc_10 (m_X10_needWord G l x6 ((2 : Int32)) M5) (fun _ h => sRc_some h) (by decide) rfl rfl (Nat.le_of_ble_eq_true rfl) (fun M7 => ?_)
    refine sX_aload_n (i := 1) (by decide +kernel) rfl ?_
    refine sX_getR lf_X5_128 tk_1_1 (by decide +kernel) (fun x8 => ?_)
    refine sX_iload_n (i := 3) (by decide +kernel) rfl ?_
    refine sX_aload_n (i := 0) (by decide +kernel) rfl ?_
    refine sX_getR lf_X5_18 tk_5_0 (by decide +kernel) (fun x9 => ?_)
    refine sX_iconst (n := 0) (v := (0 : Int32)) (by decide +kernel) (by decide) ?_
    refine sX_aload_n (i := 1) (by decide +kernel) rfl ?_
    refine sX_getI lf_X5_105 tk_1_0 (by decide +kernel) (fun x10 => ?_)
    refine sX_callV (As := [.int (0 : Int32), .int x10]) (by decide +kernel) lm_X5_101 mf_X10_number mi_X10_number mc_10 (m_X10_number G l x9 ((0 : Int32)) x10 M7) (fun _ h => sRc_some h) (by decide) rfl rfl (Nat.le_of_ble_eq_true rfl) (fun x11 M12 _ => ?_)
    refine sX_iconst (n := 0) (v := (0 : Int32)) (by decide +kernel) (by decide) ?_
    refine sX_iconst (n := 0) (v := (0 : Int32)) (by decide +kernel) (by decide) ?_
    refine sX_iconst (n := 0) (v := (0 : Int32)) (by decide +kernel) (by decide) ?_
    refine sX_callVv (As := [.int x4, .int x11, .int (0 : Int32), .int (0 : Int32), .int (0 : Int32)]) (by decide +kernel) lm_X5_140 mf_X9_add mi_X9_add mc_9 (m_X9_add G l x8 x4 x11 ((0 : Int32)) ((0 : Int32)) ((0 : Int32)) M12) (fun _ h => sRc_some h) (by decide) rfl rfl (Nat.le_of_ble_eq_true rfl) (fun M13 => ?_)
    exact sX_some (fun h _ => sW_vret (by decide +kernel) rfl (hr _ h).1.symm (hr _ h).2.symm)
  · exact sX_some (fun h _ => sW_vret (by decide +kernel) rfl (hr _ h).1.symm (hr _ h).2.symm)
def f_X5_readPlace (v0 : Nat) (v1 : Nat) (v2 : Int32) (M0 : sMem) : Option sMem :=
  sRc 5 2 M0 v0 (
    (gR 1 10 2 M0 v1).bind fun x1 =>
    (f_X5_isFull v0 x1 v2 M0).bind fun (x2, M3) =>
    if x2 = 0 then
      (gR 1 10 2 M3 v1).bind fun x4 =>
      (f_X5_newName v0 v1 M3).bind fun (x5, M6) =>
      (f_X9_add x4 x5 ((0 : Int32)) ((0 : Int32)) ((0 : Int32)) ((0 : Int32)) M6).bind fun M7 =>
      some M7
    else
      some M3)
set_option maxRecDepth 100000 in
set_option maxHeartbeats 4000000 in
theorem m_X5_readPlace (G : sG) (l : Launch) (v0 : Nat) (v1 : Nat) (v2 : Int32) (M0 : sMem) : sCv G l 5 yX5_readPlace cX5_readPlace 3 none [.ref v0, .ref v1, .int v2] M0 (f_X5_readPlace v0 v1 v2 M0) := by
  refine sC_v (ls := [some (.ref v0), some (.ref v1), some (.int v2)]) (by decide +kernel) rfl (Nat.le_of_ble_eq_true rfl) (fun r M' K hr => ?_)
  unfold f_X5_readPlace
  refine sX_rc ?_
  refine sX_aload_n (i := 0) (by decide +kernel) rfl ?_
  refine sX_aload_n (i := 1) (by decide +kernel) rfl ?_
  refine sX_getR lf_X5_146 tk_1_2 (by decide +kernel) (fun x1 => ?_)
  refine sX_iload_n (i := 2) (by decide +kernel) rfl ?_
  refine sX_callV (As := [.ref x1, .int v2]) (by decide +kernel) lm_X5_132 mf_X5_isFull mi_X5_isFull mc_5 (m_X5_isFull G l v0 x1 v2 M0) (fun _ h => sRc_some h) (by decide) rfl rfl (Nat.le_of_ble_eq_true rfl) (fun x2 M3 _ => ?_)
  refine sX_ifne (o := 19) (t := 28) (by decide +kernel) (by decide) (fun _ => ?_) (fun _ => ?_)
  · refine sX_aload_n (i := 1) (by decide +kernel) rfl ?_
    refine sX_getR lf_X5_146 tk_1_2 (by decide +kernel) (fun x4 => ?_)
    refine sX_aload_n (i := 0) (by decide +kernel) rfl ?_
    refine sX_aload_n (i := 1) (by decide +kernel) rfl ?_
    refine sX_callV (As := [.ref v1]) (by decide +kernel) lm_X5_136 mf_X5_newName mi_X5_newName mc_5 (m_X5_newName G l v0 v1 M3) (fun _ h => sRc_some h) (by decide) rfl rfl (Nat.le_of_ble_eq_true rfl) (fun x5 M6 _ => ?_)
    refine sX_iconst (n := 0) (v := (0 : Int32)) (by decide +kernel) (by decide) ?_
    refine sX_iconst (n := 0) (v := (0 : Int32)) (by decide +kernel) (by decide) ?_
    refine sX_iconst (n := 0) (v := (0 : Int32)) (by decide +kernel) (by decide) ?_
    refine sX_iconst (n := 0) (v := (0 : Int32)) (by decide +kernel) (by decide) ?_
    refine sX_callVv (As := [.int x5, .int (0 : Int32), .int (0 : Int32), .int (0 : Int32), .int (0 : Int32)]) (by decide +kernel) lm_X5_140 mf_X9_add mi_X9_add mc_9 (m_X9_add G l x4 x5 ((0 : Int32)) ((0 : Int32)) ((0 : Int32)) ((0 : Int32)) M6) (fun _ h => sRc_some h) (by decide) rfl rfl (Nat.le_of_ble_eq_true rfl) (fun M7 => ?_)
    exact sX_some (fun h _ => sW_vret (by decide +kernel) rfl (hr _ h).1.symm (hr _ h).2.symm)
  · exact sX_some (fun h _ => sW_vret (by decide +kernel) rfl (hr _ h).1.symm (hr _ h).2.symm)
def f_X5_oldName_B33 (v0 : Nat) (v3 : Int32) (M : sMem) : Option (Int32 × sMem) :=
  (gR 5 2 0 M v0).bind fun x1 =>
  (f_X10_fail x1 ((3 : Int32)) v3 M).bind fun M2 =>
  some (((-1 : Int32), M2))
def f_X5_oldName (v0 : Nat) (v1 : Nat) (v2 : Int32) (M0 : sMem) : Option (Int32 × sMem) :=
  sRc 5 2 M0 v0 (
    (gR 5 2 0 M0 v0).bind fun x3 =>
    (f_X10_place x3 M0).bind fun x4 =>
    (gR 5 2 0 M0 v0).bind fun x5 =>
    (f_X10_name x5 M0).bind fun (x6, M7) =>
    (f_X9_find v1 x6 M7).bind fun x8 =>
    if x8 = (-1 : Int32) then
      f_X5_oldName_B33 v0 x4 M7
    else
      if x8 = v2 then
        f_X5_oldName_B33 v0 x4 M7
      else
        some ((x8, M7)))
set_option maxRecDepth 100000 in
set_option maxHeartbeats 4000000 in
theorem m_X5_oldName (G : sG) (l : Launch) (v0 : Nat) (v1 : Nat) (v2 : Int32) (M0 : sMem) : sC G l 4 yX5_oldName cX5_oldName 5 (some .int) [.ref v0, .ref v1, .int v2] M0 rvI (f_X5_oldName v0 v1 v2 M0) := by
  refine sC_m (ls := [some (.ref v0), some (.ref v1), some (.int v2), none, none]) (by decide +kernel) rfl (Nat.le_of_ble_eq_true rfl) (fun r M' K hr => ?_)
  unfold f_X5_oldName
  have xB33 : ∀ (v0 : Nat) (v3 : Int32) (M : sMem), sX G l 4 yX5_oldName cX5_oldName 5 (some .int) M0 r M' 33 [some (.ref v0), none, none, some (.int v3), none] [] M (f_X5_oldName_B33 v0 v3 M) K := by
    intro v0 v3 M
    unfold f_X5_oldName_B33
    refine sX_aload_n (i := 0) (by decide +kernel) rfl ?_
    refine sX_getR lf_X5_18 tk_5_0 (by decide +kernel) (fun x1 => ?_)
    refine sX_iconst (n := 3) (v := (3 : Int32)) (by decide +kernel) (by decide) ?_
    refine sX_iload_n (i := 3) (by decide +kernel) rfl ?_
    refine sX_callVv (As := [.int (3 : Int32), .int v3]) (by decide +kernel) lm_X5_48 mf_X10_fail mi_X10_fail mc_10 (m_X10_fail G l x1 ((3 : Int32)) v3 M) (fun _ h => sRc_some h) (by decide) rfl rfl (Nat.le_of_ble_eq_true rfl) (fun M2 => ?_)
    refine sX_iconst (n := -1) (v := (-1 : Int32)) (by decide +kernel) (by decide) ?_
    exact sX_some (fun h _ => sW_iret (by decide +kernel) rfl (hr _ h).1.symm (hr _ h).2.symm)
  refine sX_rc ?_
  refine sX_aload_n (i := 0) (by decide +kernel) rfl ?_
  refine sX_getR lf_X5_18 tk_5_0 (by decide +kernel) (fun x3 => ?_)
  refine sX_callVp (As := []) (by decide +kernel) lm_X5_44 mf_X10_place mi_X10_place mc_10 (m_X10_place G l x3 M0) (fun _ h => sRc_some h) (by decide) rfl rfl (Nat.le_of_ble_eq_true rfl) (fun x4 => ?_)
  refine sX_istore_n (i := 3) (ls2 := [some (.ref v0), some (.ref v1), some (.int v2), some (.int x4), none]) (by decide +kernel) (by decide) rfl ?_
  refine sX_aload_n (i := 1) (by decide +kernel) rfl ?_
  refine sX_aload_n (i := 0) (by decide +kernel) rfl ?_
  refine sX_getR lf_X5_18 tk_5_0 (by decide +kernel) (fun x5 => ?_)
  refine sX_callV (As := []) (by decide +kernel) lm_X5_168 mf_X10_name mi_X10_name mc_10 (m_X10_name G l x5 M0) (fun _ h => sRc_some h) (by decide) rfl rfl (Nat.le_of_ble_eq_true rfl) (fun x6 M7 _ => ?_)
  refine sX_callVp (As := [.int x6]) (by decide +kernel) lm_X5_171 mf_X9_find mi_X9_find mc_9 (m_X9_find G l v1 x6 M7) (fun _ h => sRc_some h) (by decide) rfl rfl (Nat.le_of_ble_eq_true rfl) (fun x8 => ?_)
  refine sX_istore (i := 4) (ls2 := [some (.ref v0), some (.ref v1), some (.int v2), some (.int x4), some (.int x8)]) (by decide +kernel) (by decide) rfl ?_
  refine sX_iload (i := 4) (by decide +kernel) rfl ?_
  refine sX_iconst (n := -1) (v := (-1 : Int32)) (by decide +kernel) (by decide) ?_
  refine sX_iceq (o := 9) (t := 33) (by decide +kernel) (by decide) (fun _ => ?_) (fun _ => ?_)
  · exact sX.le (xB33 v0 x4 M7) (sLe_s (sLe_n (sLe_n (sLe_s (sLe_n sLe_e)))))
  · refine sX_iload (i := 4) (by decide +kernel) rfl ?_
    refine sX_iload_n (i := 2) (by decide +kernel) rfl ?_
    refine sX_icne (o := 14) (t := 44) (by decide +kernel) (by decide) (fun _ => ?_) (fun _ => ?_)
    · exact sX.le (xB33 v0 x4 M7) (sLe_s (sLe_n (sLe_n (sLe_s (sLe_n sLe_e)))))
    · refine sX_iload (i := 4) (by decide +kernel) rfl ?_
      exact sX_some (fun h _ => sW_iret (by decide +kernel) rfl (hr _ h).1.symm (hr _ h).2.symm)
def f_X5_readWay_B92 (v1 : Nat) (v4 : Int32) (v5 : Int32) (v6 : Int32) (v7 : Int32) (M : sMem) : Option sMem :=
  (gR 1 10 3 M v1).bind fun x1 =>
  (f_X9_add x1 ((0 : Int32)) v4 v5 v6 v7 M).bind fun M2 =>
  some M2
def f_X5_readWay (v0 : Nat) (v1 : Nat) (v2 : Int32) (v3 : Int32) (M0 : sMem) : Option sMem :=
  sRc 5 2 M0 v0 (
    (gR 1 10 3 M0 v1).bind fun x3 =>
    (f_X5_isFull v0 x3 v2 M0).bind fun (x4, M5) =>
    if x4 = 0 then
      (gR 1 10 2 M5 v1).bind fun x6 =>
      (f_X5_oldName v0 x6 ((-1 : Int32)) M5).bind fun (x7, M8) =>
      (gR 5 2 0 M8 v0).bind fun x9 =>
      (f_X10_needWord x9 ((5 : Int32)) M8).bind fun M10 =>
      (gR 1 10 2 M10 v1).bind fun x11 =>
      (f_X5_oldName v0 x11 x7 M10).bind fun (x12, M13) =>
      (gR 5 2 0 M13 v0).bind fun x14 =>
      (f_X10_needWord x14 ((6 : Int32)) M13).bind fun M15 =>
      (gR 5 2 0 M15 v0).bind fun x16 =>
      (f_X10_number x16 ((1 : Int32)) ((60 : Int32)) M15).bind fun (x17, M18) =>
      if v3 = 0 then
        f_X5_readWay_B92 v1 x7 x12 x17 ((-1 : Int32)) M18
      else
        (gR 5 2 0 M18 v0).bind fun x19 =>
        (f_X10_needWord x19 ((8 : Int32)) M18).bind fun M20 =>
        (gR 1 10 1 M20 v1).bind fun x21 =>
        (f_X5_oldName v0 x21 ((-1 : Int32)) M20).bind fun (x22, M23) =>
        f_X5_readWay_B92 v1 x7 x12 x17 x22 M23
    else
      some M5)
set_option maxRecDepth 100000 in
set_option maxHeartbeats 4000000 in
theorem m_X5_readWay (G : sG) (l : Launch) (v0 : Nat) (v1 : Nat) (v2 : Int32) (v3 : Int32) (M0 : sMem) : sCv G l 5 yX5_readWay cX5_readWay 8 none [.ref v0, .ref v1, .int v2, .int v3] M0 (f_X5_readWay v0 v1 v2 v3 M0) := by
  refine sC_v (ls := [some (.ref v0), some (.ref v1), some (.int v2), some (.int v3), none, none, none, none]) (by decide +kernel) rfl (Nat.le_of_ble_eq_true rfl) (fun r M' K hr => ?_)
  unfold f_X5_readWay
  have xB92 : ∀ (v1 : Nat) (v4 : Int32) (v5 : Int32) (v6 : Int32) (v7 : Int32) (M : sMem), sX G l 5 yX5_readWay cX5_readWay 8 none M0 r M' 92 [none, some (.ref v1), none, none, some (.int v4), some (.int v5), some (.int v6), some (.int v7)] [] M (f_X5_readWay_B92 v1 v4 v5 v6 v7 M) K := by
    intro v1 v4 v5 v6 v7 M
    unfold f_X5_readWay_B92
    refine sX_aload_n (i := 1) (by decide +kernel) rfl ?_
    refine sX_getR lf_X5_149 tk_1_3 (by decide +kernel) (fun x1 => ?_)
    refine sX_iconst (n := 0) (v := (0 : Int32)) (by decide +kernel) (by decide) ?_
    refine sX_iload (i := 4) (by decide +kernel) rfl ?_
    refine sX_iload (i := 5) (by decide +kernel) rfl ?_
    refine sX_iload (i := 6) (by decide +kernel) rfl ?_
    refine sX_iload (i := 7) (by decide +kernel) rfl ?_
    refine sX_callVv (As := [.int (0 : Int32), .int v4, .int v5, .int v6, .int v7]) (by decide +kernel) lm_X5_140 mf_X9_add mi_X9_add mc_9 (m_X9_add G l x1 ((0 : Int32)) v4 v5 v6 v7 M) (fun _ h => sRc_some h) (by decide) rfl rfl (Nat.le_of_ble_eq_true rfl) (fun M2 => ?_)
    exact sX_some (fun h _ => sW_vret (by decide +kernel) rfl (hr _ h).1.symm (hr _ h).2.symm)
  refine sX_rc ?_
  refine sX_aload_n (i := 0) (by decide +kernel) rfl ?_
  refine sX_aload_n (i := 1) (by decide +kernel) rfl ?_
  refine sX_getR lf_X5_149 tk_1_3 (by decide +kernel) (fun x3 => ?_)
  refine sX_iload_n (i := 2) (by decide +kernel) rfl ?_
  refine sX_callV (As := [.ref x3, .int v2]) (by decide +kernel) lm_X5_132 mf_X5_isFull mi_X5_isFull mc_5 (m_X5_isFull G l v0 x3 v2 M0) (fun _ h => sRc_some h) (by decide) rfl rfl (Nat.le_of_ble_eq_true rfl) (fun x4 M5 _ => ?_)
  refine sX_ifeq (o := 4) (t := 13) (by decide +kernel) (by decide) (fun _ => ?_) (fun _ => ?_)
  · refine sX_aload_n (i := 0) (by decide +kernel) rfl ?_
    refine sX_aload_n (i := 1) (by decide +kernel) rfl ?_
    refine sX_getR lf_X5_146 tk_1_2 (by decide +kernel) (fun x6 => ?_)
    refine sX_iconst (n := -1) (v := (-1 : Int32)) (by decide +kernel) (by decide) ?_
    refine sX_callV (As := [.ref x6, .int (-1 : Int32)]) (by decide +kernel) lm_X5_152 mf_X5_oldName mi_X5_oldName mc_5 (m_X5_oldName G l v0 x6 ((-1 : Int32)) M5) (fun _ h => sRc_some h) (by decide) rfl rfl (Nat.le_of_ble_eq_true rfl) (fun x7 M8 _ => ?_)
    refine sX_istore (i := 4) (ls2 := [some (.ref v0), some (.ref v1), some (.int v2), some (.int v3), some (.int x7), none, none, none]) (by decide +kernel) (by decide) rfl ?_
    refine sX_aload_n (i := 0) (by decide +kernel) rfl ?_
    refine sX_getR lf_X5_18 tk_5_0 (by decide +kernel) (fun x9 => ?_)
    refine sX_iconst (n := 5) (v := (5 : Int32)) (by decide +kernel) (by decide) ?_
    refine sX_callVv (As := [.int (5 : Int32)]) (by decide +kernel) lm_X5_65 mf_X10_needWord mi_X10_needWord mc_10 (m_X10_needWord G l x9 ((5 : Int32)) M8) (fun _ h => sRc_some h) (by decide) rfl rfl (Nat.le_of_ble_eq_true rfl) (fun M10 => ?_)
    refine sX_aload_n (i := 0) (by decide +kernel) rfl ?_
    refine sX_aload_n (i := 1) (by decide +kernel) rfl ?_
    refine sX_getR lf_X5_146 tk_1_2 (by decide +kernel) (fun x11 => ?_)
    refine sX_iload (i := 4) (by decide +kernel) rfl ?_
    refine sX_callV (As := [.ref x11, .int x7]) (by decide +kernel) lm_X5_152 mf_X5_oldName mi_X5_oldName mc_5 (m_X5_oldName G l v0 x11 x7 M10) (fun _ h => sRc_some h) (by decide) rfl rfl (Nat.le_of_ble_eq_true rfl) (fun x12 M13 _ => ?_)
    refine sX_istore (i := 5) (ls2 := [some (.ref v0), some (.ref v1), some (.int v2), some (.int v3), some (.int x7), some (.int x12), none, none]) (by decide +kernel) (by decide) rfl ?_
    refine sX_aload_n (i := 0) (by decide +kernel) rfl ?_
    refine sX_getR lf_X5_18 tk_5_0 (by decide +kernel) (fun x14 => ?_)
    refine sX_bipush (n := 6) (v := (6 : Int32)) (by decide +kernel) (by decide) ?_
    refine sX_callVv (As := [.int (6 : Int32)]) (by decide +kernel) lm_X5_65 mf_X10_needWord mi_X10_needWord mc_10 (m_X10_needWord G l x14 ((6 : Int32)) M13) (fun _ h => sRc_some h) (by decide) rfl rfl (Nat.le_of_ble_eq_true rfl) (fun M15 => ?_)
    refine sX_aload_n (i := 0) (by decide +kernel) rfl ?_
    refine sX_getR lf_X5_18 tk_5_0 (by decide +kernel) (fun x16 => ?_)
    refine sX_iconst (n := 1) (v := (1 : Int32)) (by decide +kernel) (by decide) ?_
    refine sX_bipush (n := 60) (v := (60 : Int32)) (by decide +kernel) (by decide) ?_
    refine sX_callV (As := [.int (1 : Int32), .int (60 : Int32)]) (by decide +kernel) lm_X5_101 mf_X10_number mi_X10_number mc_10 (m_X10_number G l x16 ((1 : Int32)) ((60 : Int32)) M15) (fun _ h => sRc_some h) (by decide) rfl rfl (Nat.le_of_ble_eq_true rfl) (fun x17 M18 _ => ?_)
    refine sX_istore (i := 6) (ls2 := [some (.ref v0), some (.ref v1), some (.int v2), some (.int v3), some (.int x7), some (.int x12), some (.int x17), none]) (by decide +kernel) (by decide) rfl ?_
    refine sX_iconst (n := -1) (v := (-1 : Int32)) (by decide +kernel) (by decide) ?_
    refine sX_istore (i := 7) (ls2 := [some (.ref v0), some (.ref v1), some (.int v2), some (.int v3), some (.int x7), some (.int x12), some (.int x17), some (.int (-1 : Int32))]) (by decide +kernel) (by decide) rfl ?_
    refine sX_iload_n (i := 3) (by decide +kernel) rfl ?_
    refine sX_ifeq (o := 23) (t := 92) (by decide +kernel) (by decide) (fun _ => ?_) (fun _ => ?_)
    · exact sX.le (xB92 v1 x7 x12 x17 ((-1 : Int32)) M18) (sLe_n (sLe_s (sLe_n (sLe_n (sLe_s (sLe_s (sLe_s (sLe_s sLe_e))))))))
    · refine sX_aload_n (i := 0) (by decide +kernel) rfl ?_
      refine sX_getR lf_X5_18 tk_5_0 (by decide +kernel) (fun x19 => ?_)
      refine sX_bipush (n := 8) (v := (8 : Int32)) (by decide +kernel) (by decide) ?_
      refine sX_callVv (As := [.int (8 : Int32)]) (by decide +kernel) lm_X5_65 mf_X10_needWord mi_X10_needWord mc_10 (m_X10_needWord G l x19 ((8 : Int32)) M18) (fun _ h => sRc_some h) (by decide) rfl rfl (Nat.le_of_ble_eq_true rfl) (fun M20 => ?_)
      refine sX_aload_n (i := 0) (by decide +kernel) rfl ?_
      refine sX_aload_n (i := 1) (by decide +kernel) rfl ?_
      refine sX_getR lf_X5_128 tk_1_1 (by decide +kernel) (fun x21 => ?_)
      refine sX_iconst (n := -1) (v := (-1 : Int32)) (by decide +kernel) (by decide) ?_
      refine sX_callV (As := [.ref x21, .int (-1 : Int32)]) (by decide +kernel) lm_X5_152 mf_X5_oldName mi_X5_oldName mc_5 (m_X5_oldName G l v0 x21 ((-1 : Int32)) M20) (fun _ h => sRc_some h) (by decide) rfl rfl (Nat.le_of_ble_eq_true rfl) (fun x22 M23 _ => ?_)
      refine sX_istore (i := 7) (ls2 := [some (.ref v0), some (.ref v1), some (.int v2), some (.int v3), some (.int x7), some (.int x12), some (.int x17), some (.int x22)]) (by decide +kernel) (by decide) rfl ?_
      exact sX.le (xB92 v1 x7 x12 x17 x22 M23) (sLe_n (sLe_s (sLe_n (sLe_n (sLe_s (sLe_s (sLe_s (sLe_s sLe_e))))))))
  · exact sX_some (fun h _ => sW_vret (by decide +kernel) rfl (hr _ h).1.symm (hr _ h).2.symm)
def f_X5_readEra_B93 (M : sMem) : Option sMem :=
  some M
def f_X5_readEra (v0 : Nat) (v1 : Nat) (v2 : Int32) (M0 : sMem) : Option sMem :=
  sRc 5 2 M0 v0 (
    (gR 1 10 4 M0 v1).bind fun x1 =>
    (f_X5_isFull v0 x1 v2 M0).bind fun (x2, M3) =>
    if x2 = 0 then
      (f_X5_newName v0 v1 M3).bind fun (x4, M5) =>
      (gR 5 2 0 M5 v0).bind fun x6 =>
      (f_X10_needWord x6 ((10 : Int32)) M5).bind fun M7 =>
      (gR 5 2 0 M7 v0).bind fun x8 =>
      (f_X10_number x8 ((1 : Int32)) ((30 : Int32)) M7).bind fun (x9, M10) =>
      (gR 5 2 0 M10 v0).bind fun x11 =>
      (f_X10_needWord x11 ((11 : Int32)) M10).bind fun M12 =>
      (gR 5 2 0 M12 v0).bind fun x13 =>
      (f_X10_number x13 ((1 : Int32)) ((9 : Int32)) M12).bind fun (x14, M15) =>
      (gR 5 2 0 M15 v0).bind fun x16 =>
      (f_X10_needWord x16 ((12 : Int32)) M15).bind fun M17 =>
      (gR 1 10 4 M17 v1).bind fun x18 =>
      (gR 5 2 0 M17 v0).bind fun x19 =>
      (f_X10_number x19 ((0 : Int32)) ((99 : Int32)) M17).bind fun (x20, M21) =>
      (f_X9_add x18 x4 x9 x14 x20 ((0 : Int32)) M21).bind fun M22 =>
      f_X5_readEra_B93 M22
    else
      some M3)
set_option maxRecDepth 100000 in
set_option maxHeartbeats 4000000 in
theorem m_X5_readEra (G : sG) (l : Launch) (v0 : Nat) (v1 : Nat) (v2 : Int32) (M0 : sMem) : sCv G l 5 yX5_readEra cX5_readEra 6 none [.ref v0, .ref v1, .int v2] M0 (f_X5_readEra v0 v1 v2 M0) := by
  refine sC_v (ls := [some (.ref v0), some (.ref v1), some (.int v2), none, none, none]) (by decide +kernel) rfl (Nat.le_of_ble_eq_true rfl) (fun r M' K hr => ?_)
  unfold f_X5_readEra
  have xB93 : ∀ (M : sMem), sX G l 5 yX5_readEra cX5_readEra 6 none M0 r M' 93 [none, none, none, none, none, none] [] M (f_X5_readEra_B93 M) K := by
    intro M
    unfold f_X5_readEra_B93
    exact sX_some (fun h _ => sW_vret (by decide +kernel) rfl (hr _ h).1.symm (hr _ h).2.symm)
  refine sX_rc ?_
  refine sX_aload_n (i := 0) (by decide +kernel) rfl ?_
  refine sX_aload_n (i := 1) (by decide +kernel) rfl ?_
  refine sX_getR lf_X5_156 tk_1_4 (by decide +kernel) (fun x1 => ?_)
  refine sX_iload_n (i := 2) (by decide +kernel) rfl ?_
  refine sX_callV (As := [.ref x1, .int v2]) (by decide +kernel) lm_X5_132 mf_X5_isFull mi_X5_isFull mc_5 (m_X5_isFull G l v0 x1 v2 M0) (fun _ h => sRc_some h) (by decide) rfl rfl (Nat.le_of_ble_eq_true rfl) (fun x2 M3 _ => ?_)
  refine sX_ifeq (o := 4) (t := 13) (by decide +kernel) (by decide) (fun _ => ?_) (fun _ => ?_)
  · refine sX_aload_n (i := 0) (by decide +kernel) rfl ?_
    refine sX_aload_n (i := 1) (by decide +kernel) rfl ?_
    refine sX_callV (As := [.ref v1]) (by decide +kernel) lm_X5_136 mf_X5_newName mi_X5_newName mc_5 (m_X5_newName G l v0 v1 M3) (fun _ h => sRc_some h) (by decide) rfl rfl (Nat.le_of_ble_eq_true rfl) (fun x4 M5 _ => ?_)
    refine sX_istore_n (i := 3) (ls2 := [some (.ref v0), some (.ref v1), some (.int v2), some (.int x4), none, none]) (by decide +kernel) (by decide) rfl ?_
    refine sX_aload_n (i := 0) (by decide +kernel) rfl ?_
    refine sX_getR lf_X5_18 tk_5_0 (by decide +kernel) (fun x6 => ?_)
    refine sX_bipush (n := 10) (v := (10 : Int32)) (by decide +kernel) (by decide) ?_
    refine sX_callVv (As := [.int (10 : Int32)]) (by decide +kernel) lm_X5_65 mf_X10_needWord mi_X10_needWord mc_10 (m_X10_needWord G l x6 ((10 : Int32)) M5) (fun _ h => sRc_some h) (by decide) rfl rfl (Nat.le_of_ble_eq_true rfl) (fun M7 => ?_)
    refine sX_aload_n (i := 0) (by decide +kernel) rfl ?_
    refine sX_getR lf_X5_18 tk_5_0 (by decide +kernel) (fun x8 => ?_)
    refine sX_iconst (n := 1) (v := (1 : Int32)) (by decide +kernel) (by decide) ?_
    refine sX_bipush (n := 30) (v := (30 : Int32)) (by decide +kernel) (by decide) ?_
    refine sX_callV (As := [.int (1 : Int32), .int (30 : Int32)]) (by decide +kernel) lm_X5_101 mf_X10_number mi_X10_number mc_10 (m_X10_number G l x8 ((1 : Int32)) ((30 : Int32)) M7) (fun _ h => sRc_some h) (by decide) rfl rfl (Nat.le_of_ble_eq_true rfl) (fun x9 M10 _ => ?_)
    refine sX_istore (i := 4) (ls2 := [some (.ref v0), some (.ref v1), some (.int v2), some (.int x4), some (.int x9), none]) (by decide +kernel) (by decide) rfl ?_
    refine sX_aload_n (i := 0) (by decide +kernel) rfl ?_
    refine sX_getR lf_X5_18 tk_5_0 (by decide +kernel) (fun x11 => ?_)
    refine sX_bipush (n := 11) (v := (11 : Int32)) (by decide +kernel) (by decide) ?_
    refine sX_callVv (As := [.int (11 : Int32)]) (by decide +kernel) lm_X5_65 mf_X10_needWord mi_X10_needWord mc_10 (m_X10_needWord G l x11 ((11 : Int32)) M10) (fun _ h => sRc_some h) (by decide) rfl rfl (Nat.le_of_ble_eq_true rfl) (fun M12 => ?_)
    refine sX_aload_n (i := 0) (by decide +kernel) rfl ?_
    refine sX_getR lf_X5_18 tk_5_0 (by decide +kernel) (fun x13 => ?_)
    refine sX_iconst (n := 1) (v := (1 : Int32)) (by decide +kernel) (by decide) ?_
    refine sX_bipush (n := 9) (v := (9 : Int32)) (by decide +kernel) (by decide) ?_
    refine sX_callV (As := [.int (1 : Int32), .int (9 : Int32)]) (by decide +kernel) lm_X5_101 mf_X10_number mi_X10_number mc_10 (m_X10_number G l x13 ((1 : Int32)) ((9 : Int32)) M12) (fun _ h => sRc_some h) (by decide) rfl rfl (Nat.le_of_ble_eq_true rfl) (fun x14 M15 _ => ?_)
    refine sX_istore (i := 5) (ls2 := [some (.ref v0), some (.ref v1), some (.int v2), some (.int x4), some (.int x9), some (.int x14)]) (by decide +kernel) (by decide) rfl ?_
    refine sX_aload_n (i := 0) (by decide +kernel) rfl ?_
    refine sX_getR lf_X5_18 tk_5_0 (by decide +kernel) (fun x16 => ?_)
    refine sX_bipush (n := 12) (v := (12 : Int32)) (by decide +kernel) (by decide) ?_
    refine sX_callVv (As := [.int (12 : Int32)]) (by decide +kernel) lm_X5_65 mf_X10_needWord mi_X10_needWord mc_10 (m_X10_needWord G l x16 ((12 : Int32)) M15) (fun _ h => sRc_some h) (by decide) rfl rfl (Nat.le_of_ble_eq_true rfl) (fun M17 => ?_)
    refine sX_aload_n (i := 1) (by decide +kernel) rfl ?_
    refine sX_getR lf_X5_156 tk_1_4 (by decide +kernel) (fun x18 => ?_)
    refine sX_iload_n (i := 3) (by decide +kernel) rfl ?_
    refine sX_iload (i := 4) (by decide +kernel) rfl ?_
    refine sX_iload (i := 5) (by decide +kernel) rfl ?_
    refine sX_aload_n (i := 0) (by decide +kernel) rfl ?_
    refine sX_getR lf_X5_18 tk_5_0 (by decide +kernel) (fun x19 => ?_)
    refine sX_iconst (n := 0) (v := (0 : Int32)) (by decide +kernel) (by decide) ?_
    refine sX_bipush (n := 99) (v := (99 : Int32)) (by decide +kernel) (by decide) ?_
    refine sX_callV (As := [.int (0 : Int32), .int (99 : Int32)]) (by decide +kernel) lm_X5_101 mf_X10_number mi_X10_number mc_10 (m_X10_number G l x19 ((0 : Int32)) ((99 : Int32)) M17) (fun _ h => sRc_some h) (by decide) rfl rfl (Nat.le_of_ble_eq_true rfl) (fun x20 M21 _ => ?_)
    refine sX_iconst (n := 0) (v := (0 : Int32)) (by decide +kernel) (by decide) ?_
    refine sX_callVv (As := [.int x4, .int x9, .int x14, .int x20, .int (0 : Int32)]) (by decide +kernel) lm_X5_140 mf_X9_add mi_X9_add mc_9 (m_X9_add G l x18 x4 x9 x14 x20 ((0 : Int32)) M21) (fun _ h => sRc_some h) (by decide) rfl rfl (Nat.le_of_ble_eq_true rfl) (fun M22 => ?_)
    exact sX.le (xB93 M22) (sLe_n (sLe_n (sLe_n (sLe_n (sLe_n (sLe_n sLe_e))))))
  · exact sX_some (fun h _ => sW_vret (by decide +kernel) rfl (hr _ h).1.symm (hr _ h).2.symm)
def f_X5_readCar_B90 (M : sMem) : Option sMem :=
  some M
def f_X5_readCar (v0 : Nat) (v1 : Nat) (v2 : Int32) (M0 : sMem) : Option sMem :=
  sRc 5 2 M0 v0 (
    (gR 1 10 5 M0 v1).bind fun x1 =>
    (f_X5_isFull v0 x1 v2 M0).bind fun (x2, M3) =>
    if x2 = 0 then
      (f_X5_newName v0 v1 M3).bind fun (x4, M5) =>
      (gR 5 2 0 M5 v0).bind fun x6 =>
      (f_X10_needWord x6 ((2 : Int32)) M5).bind fun M7 =>
      (gR 1 10 2 M7 v1).bind fun x8 =>
      (f_X5_oldName v0 x8 ((-1 : Int32)) M7).bind fun (x9, M10) =>
      (gR 5 2 0 M10 v0).bind fun x11 =>
      (f_X10_needWord x11 ((5 : Int32)) M10).bind fun M12 =>
      (gR 1 10 2 M12 v1).bind fun x13 =>
      (f_X5_oldName v0 x13 x9 M12).bind fun (x14, M15) =>
      (gR 5 2 0 M15 v0).bind fun x16 =>
      (f_X10_needWord x16 ((12 : Int32)) M15).bind fun M17 =>
      (gR 1 10 5 M17 v1).bind fun x18 =>
      (gR 5 2 0 M17 v0).bind fun x19 =>
      (f_X10_number x19 ((0 : Int32)) ((99 : Int32)) M17).bind fun (x20, M21) =>
      (f_X9_add x18 x4 x9 x14 x20 ((0 : Int32)) M21).bind fun M22 =>
      f_X5_readCar_B90 M22
    else
      some M3)
set_option maxRecDepth 100000 in
set_option maxHeartbeats 4000000 in
theorem m_X5_readCar (G : sG) (l : Launch) (v0 : Nat) (v1 : Nat) (v2 : Int32) (M0 : sMem) : sCv G l 5 yX5_readCar cX5_readCar 6 none [.ref v0, .ref v1, .int v2] M0 (f_X5_readCar v0 v1 v2 M0) := by
  refine sC_v (ls := [some (.ref v0), some (.ref v1), some (.int v2), none, none, none]) (by decide +kernel) rfl (Nat.le_of_ble_eq_true rfl) (fun r M' K hr => ?_)
  unfold f_X5_readCar
  have xB90 : ∀ (M : sMem), sX G l 5 yX5_readCar cX5_readCar 6 none M0 r M' 90 [none, none, none, none, none, none] [] M (f_X5_readCar_B90 M) K := by
    intro M
    unfold f_X5_readCar_B90
    exact sX_some (fun h _ => sW_vret (by decide +kernel) rfl (hr _ h).1.symm (hr _ h).2.symm)
  refine sX_rc ?_
  refine sX_aload_n (i := 0) (by decide +kernel) rfl ?_
  refine sX_aload_n (i := 1) (by decide +kernel) rfl ?_
  refine sX_getR lf_X5_159 tk_1_5 (by decide +kernel) (fun x1 => ?_)
  refine sX_iload_n (i := 2) (by decide +kernel) rfl ?_
  refine sX_callV (As := [.ref x1, .int v2]) (by decide +kernel) lm_X5_132 mf_X5_isFull mi_X5_isFull mc_5 (m_X5_isFull G l v0 x1 v2 M0) (fun _ h => sRc_some h) (by decide) rfl rfl (Nat.le_of_ble_eq_true rfl) (fun x2 M3 _ => ?_)
  refine sX_ifeq (o := 4) (t := 13) (by decide +kernel) (by decide) (fun _ => ?_) (fun _ => ?_)
  · refine sX_aload_n (i := 0) (by decide +kernel) rfl ?_
    refine sX_aload_n (i := 1) (by decide +kernel) rfl ?_
    refine sX_callV (As := [.ref v1]) (by decide +kernel) lm_X5_136 mf_X5_newName mi_X5_newName mc_5 (m_X5_newName G l v0 v1 M3) (fun _ h => sRc_some h) (by decide) rfl rfl (Nat.le_of_ble_eq_true rfl) (fun x4 M5 _ => ?_)
    refine sX_istore_n (i := 3) (ls2 := [some (.ref v0), some (.ref v1), some (.int v2), some (.int x4), none, none]) (by decide +kernel) (by decide) rfl ?_
    refine sX_aload_n (i := 0) (by decide +kernel) rfl ?_
    refine sX_getR lf_X5_18 tk_5_0 (by decide +kernel) (fun x6 => ?_)
    refine sX_iconst (n := 2) (v := (2 : Int32)) (by decide +kernel) (by decide) ?_
    refine sX_callVv (As := [.int (2 : Int32)]) (by decide +kernel) lm_X5_65 mf_X10_needWord mi_X10_needWord mc_10 (m_X10_needWord G l x6 ((2 : Int32)) M5) (fun _ h => sRc_some h) (by decide) rfl rfl (Nat.le_of_ble_eq_true rfl) (fun M7 => ?_)
    refine sX_aload_n (i := 0) (by decide +kernel) rfl ?_
    refine sX_aload_n (i := 1) (by decide +kernel) rfl ?_
    refine sX_getR lf_X5_146 tk_1_2 (by decide +kernel) (fun x8 => ?_)
    refine sX_iconst (n := -1) (v := (-1 : Int32)) (by decide +kernel) (by decide) ?_
    refine sX_callV (As := [.ref x8, .int (-1 : Int32)]) (by decide +kernel) lm_X5_152 mf_X5_oldName mi_X5_oldName mc_5 (m_X5_oldName G l v0 x8 ((-1 : Int32)) M7) (fun _ h => sRc_some h) (by decide) rfl rfl (Nat.le_of_ble_eq_true rfl) (fun x9 M10 _ => ?_)
    refine sX_istore (i := 4) (ls2 := [some (.ref v0), some (.ref v1), some (.int v2), some (.int x4), some (.int x9), none]) (by decide +kernel) (by decide) rfl ?_
    refine sX_aload_n (i := 0) (by decide +kernel) rfl ?_
    refine sX_getR lf_X5_18 tk_5_0 (by decide +kernel) (fun x11 => ?_)
    refine sX_iconst (n := 5) (v := (5 : Int32)) (by decide +kernel) (by decide) ?_
    refine sX_callVv (As := [.int (5 : Int32)]) (by decide +kernel) lm_X5_65 mf_X10_needWord mi_X10_needWord mc_10 (m_X10_needWord G l x11 ((5 : Int32)) M10) (fun _ h => sRc_some h) (by decide) rfl rfl (Nat.le_of_ble_eq_true rfl) (fun M12 => ?_)
    refine sX_aload_n (i := 0) (by decide +kernel) rfl ?_
    refine sX_aload_n (i := 1) (by decide +kernel) rfl ?_
    refine sX_getR lf_X5_146 tk_1_2 (by decide +kernel) (fun x13 => ?_)
    refine sX_iload (i := 4) (by decide +kernel) rfl ?_
    refine sX_callV (As := [.ref x13, .int x9]) (by decide +kernel) lm_X5_152 mf_X5_oldName mi_X5_oldName mc_5 (m_X5_oldName G l v0 x13 x9 M12) (fun _ h => sRc_some h) (by decide) rfl rfl (Nat.le_of_ble_eq_true rfl) (fun x14 M15 _ => ?_)
    refine sX_istore (i := 5) (ls2 := [some (.ref v0), some (.ref v1), some (.int v2), some (.int x4), some (.int x9), some (.int x14)]) (by decide +kernel) (by decide) rfl ?_
    refine sX_aload_n (i := 0) (by decide +kernel) rfl ?_
    refine sX_getR lf_X5_18 tk_5_0 (by decide +kernel) (fun x16 => ?_)
    refine sX_bipush (n := 12) (v := (12 : Int32)) (by decide +kernel) (by decide) ?_
    refine sX_callVv (As := [.int (12 : Int32)]) (by decide +kernel) lm_X5_65 mf_X10_needWord mi_X10_needWord mc_10 (m_X10_needWord G l x16 ((12 : Int32)) M15) (fun _ h => sRc_some h) (by decide) rfl rfl (Nat.le_of_ble_eq_true rfl) (fun M17 => ?_)
    refine sX_aload_n (i := 1) (by decide +kernel) rfl ?_
    refine sX_getR lf_X5_159 tk_1_5 (by decide +kernel) (fun x18 => ?_)
    refine sX_iload_n (i := 3) (by decide +kernel) rfl ?_
    refine sX_iload (i := 4) (by decide +kernel) rfl ?_
    refine sX_iload (i := 5) (by decide +kernel) rfl ?_
    refine sX_aload_n (i := 0) (by decide +kernel) rfl ?_
    refine sX_getR lf_X5_18 tk_5_0 (by decide +kernel) (fun x19 => ?_)
    refine sX_iconst (n := 0) (v := (0 : Int32)) (by decide +kernel) (by decide) ?_
    refine sX_bipush (n := 99) (v := (99 : Int32)) (by decide +kernel) (by decide) ?_
    refine sX_callV (As := [.int (0 : Int32), .int (99 : Int32)]) (by decide +kernel) lm_X5_101 mf_X10_number mi_X10_number mc_10 (m_X10_number G l x19 ((0 : Int32)) ((99 : Int32)) M17) (fun _ h => sRc_some h) (by decide) rfl rfl (Nat.le_of_ble_eq_true rfl) (fun x20 M21 _ => ?_)
    refine sX_iconst (n := 0) (v := (0 : Int32)) (by decide +kernel) (by decide) ?_
    refine sX_callVv (As := [.int x4, .int x9, .int x14, .int x20, .int (0 : Int32)]) (by decide +kernel) lm_X5_140 mf_X9_add mi_X9_add mc_9 (m_X9_add G l x18 x4 x9 x14 x20 ((0 : Int32)) M21) (fun _ h => sRc_some h) (by decide) rfl rfl (Nat.le_of_ble_eq_true rfl) (fun M22 => ?_)
    exact sX.le (xB90 M22) (sLe_n (sLe_n (sLe_n (sLe_n (sLe_n (sLe_n sLe_e))))))
  · exact sX_some (fun h _ => sW_vret (by decide +kernel) rfl (hr _ h).1.symm (hr _ h).2.symm)
def f_X5_readThing_B175 (M : sMem) : Option sMem :=
  some M
def f_X5_readThing (v0 : Nat) (v1 : Nat) (v2 : Int32) (v3 : Int32) (M0 : sMem) : Option sMem :=
  sRc 5 2 M0 v0 (
    if v2 = (0 : Int32) then
      (gR 5 2 0 M0 v0).bind fun x33 =>
      (f_X10_number x33 ((5 : Int32)) ((60 : Int32)) M0).bind fun (x34, M35) =>
      (pI 1 10 0 M35 v1 x34).bind fun M36 =>
      some M36
    else
    if v2 = (1 : Int32) then
      (f_X5_readGate v0 v1 v3 M0).bind fun M32 =>
      some M32
    else
    if v2 = (2 : Int32) then
      (gR 5 2 0 M0 v0).bind fun x30 =>
      (f_X10_fail x30 ((1 : Int32)) v3 M0).bind fun M31 =>
      some M31
    else
    if v2 = (3 : Int32) then
      (f_X5_readPlace v0 v1 v3 M0).bind fun M29 =>
      some M29
    else
    if v2 = (4 : Int32) then
      (f_X5_readWay v0 v1 v3 ((0 : Int32)) M0).bind fun M28 =>
      some M28
    else
    if v2 = (5 : Int32) then
      (gR 5 2 0 M0 v0).bind fun x26 =>
      (f_X10_fail x26 ((1 : Int32)) v3 M0).bind fun M27 =>
      some M27
    else
    if v2 = (6 : Int32) then
      (gR 5 2 0 M0 v0).bind fun x24 =>
      (f_X10_fail x24 ((1 : Int32)) v3 M0).bind fun M25 =>
      some M25
    else
    if v2 = (7 : Int32) then
      (f_X5_readWay v0 v1 v3 ((1 : Int32)) M0).bind fun M23 =>
      some M23
    else
    if v2 = (8 : Int32) then
      (gR 5 2 0 M0 v0).bind fun x21 =>
      (f_X10_fail x21 ((1 : Int32)) v3 M0).bind fun M22 =>
      some M22
    else
    if v2 = (9 : Int32) then
      (f_X5_readEra v0 v1 v3 M0).bind fun M20 =>
      some M20
    else
    if v2 = (10 : Int32) then
      (gR 5 2 0 M0 v0).bind fun x18 =>
      (f_X10_fail x18 ((1 : Int32)) v3 M0).bind fun M19 =>
      some M19
    else
    if v2 = (11 : Int32) then
      (gR 5 2 0 M0 v0).bind fun x16 =>
      (f_X10_fail x16 ((1 : Int32)) v3 M0).bind fun M17 =>
      some M17
    else
    if v2 = (12 : Int32) then
      (gR 5 2 0 M0 v0).bind fun x14 =>
      (f_X10_fail x14 ((1 : Int32)) v3 M0).bind fun M15 =>
      some M15
    else
    if v2 = (13 : Int32) then
      (f_X5_readCar v0 v1 v3 M0).bind fun M13 =>
      some M13
    else
    if v2 = (14 : Int32) then
      (gR 5 2 0 M0 v0).bind fun x11 =>
      (f_X10_fail x11 ((1 : Int32)) v3 M0).bind fun M12 =>
      some M12
    else
    if v2 = (15 : Int32) then
      (gR 5 2 0 M0 v0).bind fun x9 =>
      (f_X10_fail x9 ((1 : Int32)) v3 M0).bind fun M10 =>
      some M10
    else
    if v2 = (16 : Int32) then
      (gR 5 2 0 M0 v0).bind fun x7 =>
      (f_X10_fail x7 ((1 : Int32)) v3 M0).bind fun M8 =>
      some M8
    else
    if v2 = (17 : Int32) then
      (gR 5 2 0 M0 v0).bind fun x3 =>
      (f_X10_number x3 ((0 : Int32)) ((100 : Int32)) M0).bind fun (x4, M5) =>
      (pI 1 10 9 M5 v1 x4).bind fun M6 =>
      f_X5_readThing_B175 M6
    else
    (gR 5 2 0 M0 v0).bind fun x1 =>
    (f_X10_fail x1 ((1 : Int32)) v3 M0).bind fun M2 =>
    some M2)
set_option maxRecDepth 100000 in
set_option maxHeartbeats 4000000 in
theorem m_X5_readThing (G : sG) (l : Launch) (v0 : Nat) (v1 : Nat) (v2 : Int32) (v3 : Int32) (M0 : sMem) : sCv G l 6 yX5_readThing cX5_readThing 4 none [.ref v0, .ref v1, .int v2, .int v3] M0 (f_X5_readThing v0 v1 v2 v3 M0) := by
  refine sC_v (ls := [some (.ref v0), some (.ref v1), some (.int v2), some (.int v3)]) (by decide +kernel) rfl (Nat.le_of_ble_eq_true rfl) (fun r M' K hr => ?_)
  unfold f_X5_readThing
  have xB175 : ∀ (M : sMem), sX G l 6 yX5_readThing cX5_readThing 4 none M0 r M' 175 [none, none, none, none] [] M (f_X5_readThing_B175 M) K := by
    intro M
    unfold f_X5_readThing_B175
    refine sX_goto (o := 12) (t := 187) (by decide +kernel) (by decide) ?_
    exact sX_some (fun h _ => sW_vret (by decide +kernel) rfl (hr _ h).1.symm (hr _ h).2.symm)
  refine sX_rc ?_
  refine sX_iload_n (i := 2) (by decide +kernel) rfl ?_
  refine sX_if (fun hx => ?_) (fun n0 => ?_)
  · refine sX_tin (n := (0 : Int32)) (t := 88) (off := 87) (dflt := 177) (lo := 0) (hi := 17) (offs := #[87, 104, 177, 113, 122, 177, 177, 132, 177, 142, 177, 177, 177, 151, 177, 177, 177, 160]) (len := 87) (by decide +kernel) hx (by decide) (by decide) (by decide) (by decide) ?_
    refine sX_aload_n (i := 1) (by decide +kernel) rfl ?_
    refine sX_aload_n (i := 0) (by decide +kernel) rfl ?_
    refine sX_getR lf_X5_18 tk_5_0 (by decide +kernel) (fun x33 => ?_)
    refine sX_iconst (n := 5) (v := (5 : Int32)) (by decide +kernel) (by decide) ?_
    refine sX_bipush (n := 60) (v := (60 : Int32)) (by decide +kernel) (by decide) ?_
    refine sX_callV (As := [.int (5 : Int32), .int (60 : Int32)]) (by decide +kernel) lm_X5_101 mf_X10_number mi_X10_number mc_10 (m_X10_number G l x33 ((5 : Int32)) ((60 : Int32)) M0) (fun _ h => sRc_some h) (by decide) rfl rfl (Nat.le_of_ble_eq_true rfl) (fun x34 M35 _ => ?_)
    refine sX_putI lf_X5_105 tp_1_0 (by decide +kernel) (by decide) (fun M36 => ?_)
    refine sX_goto (o := 85) (t := 187) (by decide +kernel) (by decide) ?_
    exact sX_some (fun h _ => sW_vret (by decide +kernel) rfl (hr _ h).1.symm (hr _ h).2.symm)
  · refine sX_if (fun hx => ?_) (fun n1 => ?_)
    · refine sX_tin (n := (1 : Int32)) (t := 105) (off := 104) (dflt := 177) (lo := 0) (hi := 17) (offs := #[87, 104, 177, 113, 122, 177, 177, 132, 177, 142, 177, 177, 177, 151, 177, 177, 177, 160]) (len := 87) (by decide +kernel) hx (by decide) (by decide) (by decide) (by decide) ?_
      refine sX_aload_n (i := 0) (by decide +kernel) rfl ?_
      refine sX_aload_n (i := 1) (by decide +kernel) rfl ?_
      refine sX_iload_n (i := 3) (by decide +kernel) rfl ?_
      refine sX_callVv (As := [.ref v1, .int v3]) (by decide +kernel) lm_X5_108 mf_X5_readGate mi_X5_readGate mc_5 (m_X5_readGate G l v0 v1 v3 M0) (fun _ h => sRc_some h) (by decide) rfl rfl (Nat.le_of_ble_eq_true rfl) (fun M32 => ?_)
      refine sX_goto (o := 76) (t := 187) (by decide +kernel) (by decide) ?_
      exact sX_some (fun h _ => sW_vret (by decide +kernel) rfl (hr _ h).1.symm (hr _ h).2.symm)
    · refine sX_if (fun hx => ?_) (fun n2 => ?_)
      · refine sX_tin (n := (2 : Int32)) (t := 178) (off := 177) (dflt := 177) (lo := 0) (hi := 17) (offs := #[87, 104, 177, 113, 122, 177, 177, 132, 177, 142, 177, 177, 177, 151, 177, 177, 177, 160]) (len := 87) (by decide +kernel) hx (by decide) (by decide) (by decide) (by decide) ?_
        refine sX_aload_n (i := 0) (by decide +kernel) rfl ?_
        refine sX_getR lf_X5_18 tk_5_0 (by decide +kernel) (fun x30 => ?_)
        refine sX_iconst (n := 1) (v := (1 : Int32)) (by decide +kernel) (by decide) ?_
        refine sX_iload_n (i := 3) (by decide +kernel) rfl ?_
        refine sX_callVv (As := [.int (1 : Int32), .int v3]) (by decide +kernel) lm_X5_48 mf_X10_fail mi_X10_fail mc_10 (m_X10_fail G l x30 ((1 : Int32)) v3 M0) (fun _ h => sRc_some h) (by decide) rfl rfl (Nat.le_of_ble_eq_true rfl) (fun M31 => ?_)
        exact sX_some (fun h _ => sW_vret (by decide +kernel) rfl (hr _ h).1.symm (hr _ h).2.symm)
      · refine sX_if (fun hx => ?_) (fun n3 => ?_)
        · refine sX_tin (n := (3 : Int32)) (t := 114) (off := 113) (dflt := 177) (lo := 0) (hi := 17) (offs := #[87, 104, 177, 113, 122, 177, 177, 132, 177, 142, 177, 177, 177, 151, 177, 177, 177, 160]) (len := 87) (by decide +kernel) hx (by decide) (by decide) (by decide) (by decide) ?_
          refine sX_aload_n (i := 0) (by decide +kernel) rfl ?_
          refine sX_aload_n (i := 1) (by decide +kernel) rfl ?_
          refine sX_iload_n (i := 3) (by decide +kernel) rfl ?_
          refine sX_callVv (As := [.ref v1, .int v3]) (by decide +kernel) lm_X5_112 mf_X5_readPlace mi_X5_readPlace mc_5 (m_X5_readPlace G l v0 v1 v3 M0) (fun _ h => sRc_some h) (by decide) rfl rfl (Nat.le_of_ble_eq_true rfl) (fun M29 => ?_)
          refine sX_goto (o := 67) (t := 187) (by decide +kernel) (by decide) ?_
          exact sX_some (fun h _ => sW_vret (by decide +kernel) rfl (hr _ h).1.symm (hr _ h).2.symm)
        · refine sX_if (fun hx => ?_) (fun n4 => ?_)
          · refine sX_tin (n := (4 : Int32)) (t := 123) (off := 122) (dflt := 177) (lo := 0) (hi := 17) (offs := #[87, 104, 177, 113, 122, 177, 177, 132, 177, 142, 177, 177, 177, 151, 177, 177, 177, 160]) (len := 87) (by decide +kernel) hx (by decide) (by decide) (by decide) (by decide) ?_
            refine sX_aload_n (i := 0) (by decide +kernel) rfl ?_
            refine sX_aload_n (i := 1) (by decide +kernel) rfl ?_
            refine sX_iload_n (i := 3) (by decide +kernel) rfl ?_
            refine sX_iconst (n := 0) (v := (0 : Int32)) (by decide +kernel) (by decide) ?_
            refine sX_callVv (As := [.ref v1, .int v3, .int (0 : Int32)]) (by decide +kernel) lm_X5_115 mf_X5_readWay mi_X5_readWay mc_5 (m_X5_readWay G l v0 v1 v3 ((0 : Int32)) M0) (fun _ h => sRc_some h) (by decide) rfl rfl (Nat.le_of_ble_eq_true rfl) (fun M28 => ?_)
            refine sX_goto (o := 57) (t := 187) (by decide +kernel) (by decide) ?_
            exact sX_some (fun h _ => sW_vret (by decide +kernel) rfl (hr _ h).1.symm (hr _ h).2.symm)
          · refine sX_if (fun hx => ?_) (fun n5 => ?_)
            · refine sX_tin (n := (5 : Int32)) (t := 178) (off := 177) (dflt := 177) (lo := 0) (hi := 17) (offs := #[87, 104, 177, 113, 122, 177, 177, 132, 177, 142, 177, 177, 177, 151, 177, 177, 177, 160]) (len := 87) (by decide +kernel) hx (by decide) (by decide) (by decide) (by decide) ?_
              refine sX_aload_n (i := 0) (by decide +kernel) rfl ?_
              refine sX_getR lf_X5_18 tk_5_0 (by decide +kernel) (fun x26 => ?_)
              refine sX_iconst (n := 1) (v := (1 : Int32)) (by decide +kernel) (by decide) ?_
              refine sX_iload_n (i := 3) (by decide +kernel) rfl ?_
              refine sX_callVv (As := [.int (1 : Int32), .int v3]) (by decide +kernel) lm_X5_48 mf_X10_fail mi_X10_fail mc_10 (m_X10_fail G l x26 ((1 : Int32)) v3 M0) (fun _ h => sRc_some h) (by decide) rfl rfl (Nat.le_of_ble_eq_true rfl) (fun M27 => ?_)
              exact sX_some (fun h _ => sW_vret (by decide +kernel) rfl (hr _ h).1.symm (hr _ h).2.symm)
            · refine sX_if (fun hx => ?_) (fun n6 => ?_)
              · refine sX_tin (n := (6 : Int32)) (t := 178) (off := 177) (dflt := 177) (lo := 0) (hi := 17) (offs := #[87, 104, 177, 113, 122, 177, 177, 132, 177, 142, 177, 177, 177, 151, 177, 177, 177, 160]) (len := 87) (by decide +kernel) hx (by decide) (by decide) (by decide) (by decide) ?_
                refine sX_aload_n (i := 0) (by decide +kernel) rfl ?_
                refine sX_getR lf_X5_18 tk_5_0 (by decide +kernel) (fun x24 => ?_)
                refine sX_iconst (n := 1) (v := (1 : Int32)) (by decide +kernel) (by decide) ?_
                refine sX_iload_n (i := 3) (by decide +kernel) rfl ?_
                refine sX_callVv (As := [.int (1 : Int32), .int v3]) (by decide +kernel) lm_X5_48 mf_X10_fail mi_X10_fail mc_10 (m_X10_fail G l x24 ((1 : Int32)) v3 M0) (fun _ h => sRc_some h) (by decide) rfl rfl (Nat.le_of_ble_eq_true rfl) (fun M25 => ?_)
                exact sX_some (fun h _ => sW_vret (by decide +kernel) rfl (hr _ h).1.symm (hr _ h).2.symm)
              · refine sX_if (fun hx => ?_) (fun n7 => ?_)
                · refine sX_tin (n := (7 : Int32)) (t := 133) (off := 132) (dflt := 177) (lo := 0) (hi := 17) (offs := #[87, 104, 177, 113, 122, 177, 177, 132, 177, 142, 177, 177, 177, 151, 177, 177, 177, 160]) (len := 87) (by decide +kernel) hx (by decide) (by decide) (by decide) (by decide) ?_
                  refine sX_aload_n (i := 0) (by decide +kernel) rfl ?_
                  refine sX_aload_n (i := 1) (by decide +kernel) rfl ?_
                  refine sX_iload_n (i := 3) (by decide +kernel) rfl ?_
                  refine sX_iconst (n := 1) (v := (1 : Int32)) (by decide +kernel) (by decide) ?_
                  refine sX_callVv (As := [.ref v1, .int v3, .int (1 : Int32)]) (by decide +kernel) lm_X5_115 mf_X5_readWay mi_X5_readWay mc_5 (m_X5_readWay G l v0 v1 v3 ((1 : Int32)) M0) (fun _ h => sRc_some h) (by decide) rfl rfl (Nat.le_of_ble_eq_true rfl) (fun M23 => ?_)
                  refine sX_goto (o := 47) (t := 187) (by decide +kernel) (by decide) ?_
                  exact sX_some (fun h _ => sW_vret (by decide +kernel) rfl (hr _ h).1.symm (hr _ h).2.symm)
                · refine sX_if (fun hx => ?_) (fun n8 => ?_)
                  · refine sX_tin (n := (8 : Int32)) (t := 178) (off := 177) (dflt := 177) (lo := 0) (hi := 17) (offs := #[87, 104, 177, 113, 122, 177, 177, 132, 177, 142, 177, 177, 177, 151, 177, 177, 177, 160]) (len := 87) (by decide +kernel) hx (by decide) (by decide) (by decide) (by decide) ?_
                    refine sX_aload_n (i := 0) (by decide +kernel) rfl ?_
                    refine sX_getR lf_X5_18 tk_5_0 (by decide +kernel) (fun x21 => ?_)
                    refine sX_iconst (n := 1) (v := (1 : Int32)) (by decide +kernel) (by decide) ?_
                    refine sX_iload_n (i := 3) (by decide +kernel) rfl ?_
                    refine sX_callVv (As := [.int (1 : Int32), .int v3]) (by decide +kernel) lm_X5_48 mf_X10_fail mi_X10_fail mc_10 (m_X10_fail G l x21 ((1 : Int32)) v3 M0) (fun _ h => sRc_some h) (by decide) rfl rfl (Nat.le_of_ble_eq_true rfl) (fun M22 => ?_)
                    exact sX_some (fun h _ => sW_vret (by decide +kernel) rfl (hr _ h).1.symm (hr _ h).2.symm)
                  · refine sX_if (fun hx => ?_) (fun n9 => ?_)
                    · refine sX_tin (n := (9 : Int32)) (t := 143) (off := 142) (dflt := 177) (lo := 0) (hi := 17) (offs := #[87, 104, 177, 113, 122, 177, 177, 132, 177, 142, 177, 177, 177, 151, 177, 177, 177, 160]) (len := 87) (by decide +kernel) hx (by decide) (by decide) (by decide) (by decide) ?_
                      refine sX_aload_n (i := 0) (by decide +kernel) rfl ?_
                      refine sX_aload_n (i := 1) (by decide +kernel) rfl ?_
                      refine sX_iload_n (i := 3) (by decide +kernel) rfl ?_
                      refine sX_callVv (As := [.ref v1, .int v3]) (by decide +kernel) lm_X5_119 mf_X5_readEra mi_X5_readEra mc_5 (m_X5_readEra G l v0 v1 v3 M0) (fun _ h => sRc_some h) (by decide) rfl rfl (Nat.le_of_ble_eq_true rfl) (fun M20 => ?_)
                      refine sX_goto (o := 38) (t := 187) (by decide +kernel) (by decide) ?_
                      exact sX_some (fun h _ => sW_vret (by decide +kernel) rfl (hr _ h).1.symm (hr _ h).2.symm)
                    · refine sX_if (fun hx => ?_) (fun n10 => ?_)
                      · refine sX_tin (n := (10 : Int32)) (t := 178) (off := 177) (dflt := 177) (lo := 0) (hi := 17) (offs := #[87, 104, 177, 113, 122, 177, 177, 132, 177, 142, 177, 177, 177, 151, 177, 177, 177, 160]) (len := 87) (by decide +kernel) hx (by decide) (by decide) (by decide) (by decide) ?_
                        refine sX_aload_n (i := 0) (by decide +kernel) rfl ?_
                        refine sX_getR lf_X5_18 tk_5_0 (by decide +kernel) (fun x18 => ?_)
                        refine sX_iconst (n := 1) (v := (1 : Int32)) (by decide +kernel) (by decide) ?_
                        refine sX_iload_n (i := 3) (by decide +kernel) rfl ?_
                        refine sX_callVv (As := [.int (1 : Int32), .int v3]) (by decide +kernel) lm_X5_48 mf_X10_fail mi_X10_fail mc_10 (m_X10_fail G l x18 ((1 : Int32)) v3 M0) (fun _ h => sRc_some h) (by decide) rfl rfl (Nat.le_of_ble_eq_true rfl) (fun M19 => ?_)
                        exact sX_some (fun h _ => sW_vret (by decide +kernel) rfl (hr _ h).1.symm (hr _ h).2.symm)
                      · refine sX_if (fun hx => ?_) (fun n11 => ?_)
                        · refine sX_tin (n := (11 : Int32)) (t := 178) (off := 177) (dflt := 177) (lo := 0) (hi := 17) (offs := #[87, 104, 177, 113, 122, 177, 177, 132, 177, 142, 177, 177, 177, 151, 177, 177, 177, 160]) (len := 87) (by decide +kernel) hx (by decide) (by decide) (by decide) (by decide) ?_
                          refine sX_aload_n (i := 0) (by decide +kernel) rfl ?_
                          refine sX_getR lf_X5_18 tk_5_0 (by decide +kernel) (fun x16 => ?_)
                          refine sX_iconst (n := 1) (v := (1 : Int32)) (by decide +kernel) (by decide) ?_
                          refine sX_iload_n (i := 3) (by decide +kernel) rfl ?_
                          refine sX_callVv (As := [.int (1 : Int32), .int v3]) (by decide +kernel) lm_X5_48 mf_X10_fail mi_X10_fail mc_10 (m_X10_fail G l x16 ((1 : Int32)) v3 M0) (fun _ h => sRc_some h) (by decide) rfl rfl (Nat.le_of_ble_eq_true rfl) (fun M17 => ?_)
                          exact sX_some (fun h _ => sW_vret (by decide +kernel) rfl (hr _ h).1.symm (hr _ h).2.symm)
                        · refine sX_if (fun hx => ?_) (fun n12 => ?_)
                          · refine sX_tin (n := (12 : Int32)) (t := 178) (off := 177) (dflt := 177) (lo := 0) (hi := 17) (offs := #[87, 104, 177, 113, 122, 177, 177, 132, 177, 142, 177, 177, 177, 151, 177, 177, 177, 160]) (len := 87) (by decide +kernel) hx (by decide) (by decide) (by decide) (by decide) ?_
                            refine sX_aload_n (i := 0) (by decide +kernel) rfl ?_
                            refine sX_getR lf_X5_18 tk_5_0 (by decide +kernel) (fun x14 => ?_)
                            refine sX_iconst (n := 1) (v := (1 : Int32)) (by decide +kernel) (by decide) ?_
                            refine sX_iload_n (i := 3) (by decide +kernel) rfl ?_
                            refine sX_callVv (As := [.int (1 : Int32), .int v3]) (by decide +kernel) lm_X5_48 mf_X10_fail mi_X10_fail mc_10 (m_X10_fail G l x14 ((1 : Int32)) v3 M0) (fun _ h => sRc_some h) (by decide) rfl rfl (Nat.le_of_ble_eq_true rfl) (fun M15 => ?_)
                            exact sX_some (fun h _ => sW_vret (by decide +kernel) rfl (hr _ h).1.symm (hr _ h).2.symm)
                          · refine sX_if (fun hx => ?_) (fun n13 => ?_)
                            · refine sX_tin (n := (13 : Int32)) (t := 152) (off := 151) (dflt := 177) (lo := 0) (hi := 17) (offs := #[87, 104, 177, 113, 122, 177, 177, 132, 177, 142, 177, 177, 177, 151, 177, 177, 177, 160]) (len := 87) (by decide +kernel) hx (by decide) (by decide) (by decide) (by decide) ?_
                              refine sX_aload_n (i := 0) (by decide +kernel) rfl ?_
                              refine sX_aload_n (i := 1) (by decide +kernel) rfl ?_
                              refine sX_iload_n (i := 3) (by decide +kernel) rfl ?_
                              refine sX_callVv (As := [.ref v1, .int v3]) (by decide +kernel) lm_X5_122 mf_X5_readCar mi_X5_readCar mc_5 (m_X5_readCar G l v0 v1 v3 M0) (fun _ h => sRc_some h) (by decide) rfl rfl (Nat.le_of_ble_eq_true rfl) (fun M13 => ?_)
                              refine sX_goto (o := 29) (t := 187) (by decide +kernel) (by decide) ?_
                              exact sX_some (fun h _ => sW_vret (by decide +kernel) rfl (hr _ h).1.symm (hr _ h).2.symm)
                            · refine sX_if (fun hx => ?_) (fun n14 => ?_)
                              · refine sX_tin (n := (14 : Int32)) (t := 178) (off := 177) (dflt := 177) (lo := 0) (hi := 17) (offs := #[87, 104, 177, 113, 122, 177, 177, 132, 177, 142, 177, 177, 177, 151, 177, 177, 177, 160]) (len := 87) (by decide +kernel) hx (by decide) (by decide) (by decide) (by decide) ?_
                                refine sX_aload_n (i := 0) (by decide +kernel) rfl ?_
                                refine sX_getR lf_X5_18 tk_5_0 (by decide +kernel) (fun x11 => ?_)
                                refine sX_iconst (n := 1) (v := (1 : Int32)) (by decide +kernel) (by decide) ?_
                                refine sX_iload_n (i := 3) (by decide +kernel) rfl ?_
                                refine sX_callVv (As := [.int (1 : Int32), .int v3]) (by decide +kernel) lm_X5_48 mf_X10_fail mi_X10_fail mc_10 (m_X10_fail G l x11 ((1 : Int32)) v3 M0) (fun _ h => sRc_some h) (by decide) rfl rfl (Nat.le_of_ble_eq_true rfl) (fun M12 => ?_)
                                exact sX_some (fun h _ => sW_vret (by decide +kernel) rfl (hr _ h).1.symm (hr _ h).2.symm)
                              · refine sX_if (fun hx => ?_) (fun n15 => ?_)
                                · refine sX_tin (n := (15 : Int32)) (t := 178) (off := 177) (dflt := 177) (lo := 0) (hi := 17) (offs := #[87, 104, 177, 113, 122, 177, 177, 132, 177, 142, 177, 177, 177, 151, 177, 177, 177, 160]) (len := 87) (by decide +kernel) hx (by decide) (by decide) (by decide) (by decide) ?_
                                  refine sX_aload_n (i := 0) (by decide +kernel) rfl ?_
                                  refine sX_getR lf_X5_18 tk_5_0 (by decide +kernel) (fun x9 => ?_)
                                  refine sX_iconst (n := 1) (v := (1 : Int32)) (by decide +kernel) (by decide) ?_
                                  refine sX_iload_n (i := 3) (by decide +kernel) rfl ?_
                                  refine sX_callVv (As := [.int (1 : Int32), .int v3]) (by decide +kernel) lm_X5_48 mf_X10_fail mi_X10_fail mc_10 (m_X10_fail G l x9 ((1 : Int32)) v3 M0) (fun _ h => sRc_some h) (by decide) rfl rfl (Nat.le_of_ble_eq_true rfl) (fun M10 => ?_)
                                  exact sX_some (fun h _ => sW_vret (by decide +kernel) rfl (hr _ h).1.symm (hr _ h).2.symm)
                                · refine sX_if (fun hx => ?_) (fun n16 => ?_)
                                  · refine sX_tin (n := (16 : Int32)) (t := 178) (off := 177) (dflt := 177) (lo := 0) (hi := 17) (offs := #[87, 104, 177, 113, 122, 177, 177, 132, 177, 142, 177, 177, 177, 151, 177, 177, 177, 160]) (len := 87) (by decide +kernel) hx (by decide) (by decide) (by decide) (by decide) ?_
                                    refine sX_aload_n (i := 0) (by decide +kernel) rfl ?_
                                    refine sX_getR lf_X5_18 tk_5_0 (by decide +kernel) (fun x7 => ?_)
                                    refine sX_iconst (n := 1) (v := (1 : Int32)) (by decide +kernel) (by decide) ?_
                                    refine sX_iload_n (i := 3) (by decide +kernel) rfl ?_
                                    refine sX_callVv (As := [.int (1 : Int32), .int v3]) (by decide +kernel) lm_X5_48 mf_X10_fail mi_X10_fail mc_10 (m_X10_fail G l x7 ((1 : Int32)) v3 M0) (fun _ h => sRc_some h) (by decide) rfl rfl (Nat.le_of_ble_eq_true rfl) (fun M8 => ?_)
                                    exact sX_some (fun h _ => sW_vret (by decide +kernel) rfl (hr _ h).1.symm (hr _ h).2.symm)
                                  · refine sX_if (fun hx => ?_) (fun n17 => ?_)
                                    · refine sX_tin (n := (17 : Int32)) (t := 161) (off := 160) (dflt := 177) (lo := 0) (hi := 17) (offs := #[87, 104, 177, 113, 122, 177, 177, 132, 177, 142, 177, 177, 177, 151, 177, 177, 177, 160]) (len := 87) (by decide +kernel) hx (by decide) (by decide) (by decide) (by decide) ?_
                                      refine sX_aload_n (i := 1) (by decide +kernel) rfl ?_
                                      refine sX_aload_n (i := 0) (by decide +kernel) rfl ?_
                                      refine sX_getR lf_X5_18 tk_5_0 (by decide +kernel) (fun x3 => ?_)
                                      refine sX_iconst (n := 0) (v := (0 : Int32)) (by decide +kernel) (by decide) ?_
                                      refine sX_bipush (n := 100) (v := (100 : Int32)) (by decide +kernel) (by decide) ?_
                                      refine sX_callV (As := [.int (0 : Int32), .int (100 : Int32)]) (by decide +kernel) lm_X5_101 mf_X10_number mi_X10_number mc_10 (m_X10_number G l x3 ((0 : Int32)) ((100 : Int32)) M0) (fun _ h => sRc_some h) (by decide) rfl rfl (Nat.le_of_ble_eq_true rfl) (fun x4 M5 _ => ?_)
                                      refine sX_putI lf_X5_125 tp_1_9 (by decide +kernel) (by decide) (fun M6 => ?_)
                                      exact sX.le (xB175 M6) (sLe_n (sLe_n (sLe_n (sLe_n sLe_e))))
                                    · refine sX_tout (t := 178) (dflt := 177) (lo := 0) (hi := 17) (offs := #[87, 104, 177, 113, 122, 177, 177, 132, 177, 142, 177, 177, 177, 151, 177, 177, 177, 160]) (len := 87) (by decide +kernel) (by have e0 := sNe n0 (z := 0) (by decide); have e1 := sNe n1 (z := 1) (by decide); have e2 := sNe n2 (z := 2) (by decide); have e3 := sNe n3 (z := 3) (by decide); have e4 := sNe n4 (z := 4) (by decide); have e5 := sNe n5 (z := 5) (by decide); have e6 := sNe n6 (z := 6) (by decide); have e7 := sNe n7 (z := 7) (by decide); have e8 := sNe n8 (z := 8) (by decide); have e9 := sNe n9 (z := 9) (by decide); have e10 := sNe n10 (z := 10) (by decide); have e11 := sNe n11 (z := 11) (by decide); have e12 := sNe n12 (z := 12) (by decide); have e13 := sNe n13 (z := 13) (by decide); have e14 := sNe n14 (z := 14) (by decide); have e15 := sNe n15 (z := 15) (by decide); have e16 := sNe n16 (z := 16) (by decide); have e17 := sNe n17 (z := 17) (by decide); omega) (by decide) ?_
                                      refine sX_aload_n (i := 0) (by decide +kernel) rfl ?_
                                      refine sX_getR lf_X5_18 tk_5_0 (by decide +kernel) (fun x1 => ?_)
                                      refine sX_iconst (n := 1) (v := (1 : Int32)) (by decide +kernel) (by decide) ?_
                                      refine sX_iload_n (i := 3) (by decide +kernel) rfl ?_
                                      refine sX_callVv (As := [.int (1 : Int32), .int v3]) (by decide +kernel) lm_X5_48 mf_X10_fail mi_X10_fail mc_10 (m_X10_fail G l x1 ((1 : Int32)) v3 M0) (fun _ h => sRc_some h) (by decide) rfl rfl (Nat.le_of_ble_eq_true rfl) (fun M2 => ?_)
                                      exact sX_some (fun h _ => sW_vret (by decide +kernel) rfl (hr _ h).1.symm (hr _ h).2.symm)
