def f_X12_qTold_B168 (v0 : Nat) (M : sMem) : Option (Int64 × sMem) :=
  (gR 12 127 121 M v0).bind fun x1 =>
  (ldJ M x1 ((0 : Int32))).bind fun x2 =>
  some ((x2, M))
def f_X12_qTold_B162 (v0 : Nat) (v1 : Int32) (v2 : Int32) (M : sMem) : Option ((Int32 × sMem) ⊕ ((sMem))) :=
  some (.inl ((((v2 + (1 : Int32))), M)))
def f_X12_qTold_B91 (v0 : Nat) (v1 : Int32) (v2 : Int32) (v3 : Int32) (M : sMem) : Option ((Int32 × sMem) ⊕ ((sMem))) :=
  (f_X12_qPartOf v0 ((v3 - (40 : Int32))) v1 M).bind fun x3 =>
  (f_X12_qClip x3 M).bind fun x4 =>
  (f_X12_qPuts v0 x4 M).bind fun M5 =>
  f_X12_qTold_B162 v0 v1 v2 M5
def f_X12_qTold_K7 (v0 : Nat) (v1 : Int32) (v2 : Int32) (M : sMem) : Option ((Int32 × sMem) ⊕ ((sMem))) :=
  (gI 12 127 116 M v0).bind fun x6 =>
  if x6 ≤ v2 then
    some (.inr M)
  else
    (gR 12 127 115 M v0).bind fun x7 =>
    (ldI 14 M x7 v2).bind fun x8 =>
    if x8 < (1000 : Int32) then
      if x8 < (60 : Int32) then
        if x8 < (40 : Int32) then
          if x8 = (13 : Int32) then
            (f_X12_qPuts v0 ((1 : Int64)) M).bind fun M9 =>
            f_X12_qTold_B162 v0 v1 v2 M9
          else
            if x8 = (12 : Int32) then
              (gR 12 127 121 M v0).bind fun x10 =>
              (gI 12 127 122 M v0).bind fun x11 =>
              (gR 12 127 121 M v0).bind fun x12 =>
              (gI 12 127 122 M v0).bind fun x13 =>
              (ldJ M x12 ((x13 - (1 : Int32)))).bind fun x14 =>
              (stJ M x10 ((x11 - (1 : Int32))) (((1 : Int64) - x14))).bind fun M15 =>
              f_X12_qTold_B162 v0 v1 v2 M15
            else
              (f_X12_qJoins v0 x8 M).bind fun M16 =>
              f_X12_qTold_B162 v0 v1 v2 M16
        else
          f_X12_qTold_B91 v0 v1 v2 x8 M
      else
        (gR 12 127 121 M v0).bind fun x17 =>
        (gI 12 127 122 M v0).bind fun x18 =>
        (gR 12 127 121 M v0).bind fun x19 =>
        (gI 12 127 122 M v0).bind fun x20 =>
        (ldJ M x19 ((x20 - (1 : Int32)))).bind fun x21 =>
        (f_X12_qOf v0 ((x8 - (60 : Int32))) x21 v1 M).bind fun x22 =>
        (f_X12_qClip x22 M).bind fun x23 =>
        (stJ M x17 ((x18 - (1 : Int32))) x23).bind fun M24 =>
        f_X12_qTold_B162 v0 v1 v2 M24
    else
      (f_X12_qPuts v0 (((x8 - (1000 : Int32))).toInt64) M).bind fun M25 =>
      f_X12_qTold_B162 v0 v1 v2 M25
def f_X12_qTold_L7 (v0 : Nat) (v1 : Int32) (v2 : Int32) (M : sMem) : Option (Int64 × sMem) :=
  (sItr (fun a : (Int32 × sMem) => f_X12_qTold_K7 v0 v1 a.1 a.2) sFuel (v2, M)).bind (fun b => f_X12_qTold_B168 v0 b)
def f_X12_qTold (v0 : Nat) (v1 : Int32) (M0 : sMem) : Option (Int64 × sMem) :=
  sRc 12 127 M0 v0 (
    (pI 12 127 122 M0 v0 ((0 : Int32))).bind fun M26 =>
    f_X12_qTold_L7 v0 v1 ((0 : Int32)) M26)
set_option maxRecDepth 100000 in
set_option maxHeartbeats 4000000 in
theorem m_X12_qTold (G : sG) (l : Launch) (v0 : Nat) (v1 : Int32) (M0 : sMem) : sC G l 4 yX12_qTold cX12_qTold 4 (some .long) [.ref v0, .int v1] M0 rvJ (f_X12_qTold v0 v1 M0) := by
  refine sC_m (ls := [some (.ref v0), some (.int v1), none, none]) (by decide +kernel) rfl (Nat.le_of_ble_eq_true rfl) (fun r M' K hr => ?_)
  unfold f_X12_qTold
  have xB168 : ∀ (v0 : Nat) (M : sMem), sX G l 4 yX12_qTold cX12_qTold 4 (some .long) M0 r M' 168 [some (.ref v0), none, none, none] [] M (f_X12_qTold_B168 v0 M) K := by
    intro v0 M
    unfold f_X12_qTold_B168
    refine sX_aload_n (i := 0) (by decide +kernel) rfl ?_
    refine sX_getR lf_X12_291 tk_12_121 (by decide +kernel) (fun x1 => ?_)
    refine sX_iconst (n := 0) (v := (0 : Int32)) (by decide +kernel) (by decide) ?_
    refine sX_laload (by decide +kernel) (fun x2 => ?_)
    exact sX_some (fun h _ => sW_lret (by decide +kernel) rfl (hr _ h).1.symm (hr _ h).2.symm)
  have xL7 : ∀ (v0 : Nat) (v1 : Int32) (v2 : Int32) (M : sMem), sX G l 4 yX12_qTold cX12_qTold 4 (some .long) M0 r M' 7 [some (.ref v0), some (.int v1), some (.int v2), none] [] M (f_X12_qTold_L7 v0 v1 v2 M) K := by
    intro v0 v1 v2 M
    unfold f_X12_qTold_L7
    refine sX_bind ?_
    refine sX_loop (LS := fun a : (Int32 × sMem) => [some (.ref v0), some (.int v1), some (.int a.1), none]) (MM := fun a => a.2) (fun K1 hb1 he1 => ?_) sFuel ((v2, M))
    have xB162 : ∀ (v2 : Int32) (M : sMem), sX G l 4 yX12_qTold cX12_qTold 4 (some .long) M0 r M' 162 [some (.ref v0), some (.int v1), some (.int v2), none] [] M (f_X12_qTold_B162 v0 v1 v2 M) K1 := by
      intro v2 M
      unfold f_X12_qTold_B162
      refine sX_iinc (i := 2) (n := 1) (v := v2 + (1 : Int32)) (ls2 := [some (.ref v0), some (.int v1), some (.int (v2 + (1 : Int32))), none]) (by decide +kernel) rfl rfl (by decide) rfl ?_
      refine sX_goto (o := -158) (t := 7) (by decide +kernel) (by decide) ?_
      exact sX_back (a := (((v2 + (1 : Int32))), M)) hb1 rfl (sLe_s (sLe_s (sLe_s (sLe_n sLe_e))))
    have xB91 : ∀ (v2 : Int32) (v3 : Int32) (M : sMem), sX G l 4 yX12_qTold cX12_qTold 4 (some .long) M0 r M' 91 [some (.ref v0), some (.int v1), some (.int v2), some (.int v3)] [] M (f_X12_qTold_B91 v0 v1 v2 v3 M) K1 := by
      intro v2 v3 M
      unfold f_X12_qTold_B91
      refine sX_aload_n (i := 0) (by decide +kernel) rfl ?_
      refine sX_aload_n (i := 0) (by decide +kernel) rfl ?_
      refine sX_iload_n (i := 3) (by decide +kernel) rfl ?_
      refine sX_bipush (n := 40) (v := (40 : Int32)) (by decide +kernel) (by decide) ?_
      refine sX_isub (by decide +kernel) ?_
      refine sX_iload_n (i := 1) (by decide +kernel) rfl ?_
      refine sX_callVp (As := [.int (v3 - (40 : Int32)), .int v1]) (by decide +kernel) lm_X12_482 mf_X12_qPartOf mi_X12_qPartOf mc_12 (m_X12_qPartOf G l v0 ((v3 - (40 : Int32))) v1 M) (fun _ h => sRc_some h) (by decide) rfl rfl (Nat.le_of_ble_eq_true rfl) (fun x3 => ?_)
      refine sX_callSp (As := [.long x3]) (by decide +kernel) lm_X12_733 mf_X12_qClip ms_X12_qClip (m_X12_qClip G l x3 M) (by decide) rfl rfl (Nat.le_of_ble_eq_true rfl) (fun x4 => ?_)
      refine sX_callVv (As := [.long x4]) (by decide +kernel) lm_X12_478 mf_X12_qPuts mi_X12_qPuts mc_12 (m_X12_qPuts G l v0 x4 M) (fun _ h => sRc_some h) (by decide) rfl rfl (Nat.le_of_ble_eq_true rfl) (fun M5 => ?_)
      refine sX_goto (o := 55) (t := 162) (by decide +kernel) (by decide) ?_
      exact sX.le (xB162 v2 M5) (sLe_s (sLe_s (sLe_s (sLe_n sLe_e))))
    have xK7 : ∀ (v2 : Int32) (M : sMem), sX G l 4 yX12_qTold cX12_qTold 4 (some .long) M0 r M' 7 [some (.ref v0), some (.int v1), some (.int v2), none] [] M (f_X12_qTold_K7 v0 v1 v2 M) K1 := by
      intro v2 M
      unfold f_X12_qTold_K7
      refine sX_iload_n (i := 2) (by decide +kernel) rfl ?_
      refine sX_aload_n (i := 0) (by decide +kernel) rfl ?_
      refine sX_getI lf_X12_395 tk_12_116 (by decide +kernel) (fun x6 => ?_)
      refine sX_icge (o := 156) (t := 168) (by decide +kernel) (by decide) (fun _ => ?_) (fun _ => ?_)
      · refine sX_exit he1 ?_
        exact sX.le (xB168 v0 M) (sLe_s (sLe_n (sLe_n (sLe_n sLe_e))))
      · refine sX_aload_n (i := 0) (by decide +kernel) rfl ?_
        refine sX_getR lf_X12_285 tk_12_115 (by decide +kernel) (fun x7 => ?_)
        refine sX_iload_n (i := 2) (by decide +kernel) rfl ?_
        refine sX_iaload (by decide +kernel) (fun x8 => ?_)
        refine sX_istore_n (i := 3) (ls2 := [some (.ref v0), some (.int v1), some (.int v2), some (.int x8)]) (by decide +kernel) (by decide) rfl ?_
        refine sX_iload_n (i := 3) (by decide +kernel) rfl ?_
        refine sX_sipush (n := 1000) (v := (1000 : Int32)) (by decide +kernel) (by decide) ?_
        refine sX_iclt (o := 16) (t := 42) (by decide +kernel) (by decide) (fun _ => ?_) (fun _ => ?_)
        · refine sX_iload_n (i := 3) (by decide +kernel) rfl ?_
          refine sX_bipush (n := 60) (v := (60 : Int32)) (by decide +kernel) (by decide) ?_
          refine sX_iclt (o := 40) (t := 85) (by decide +kernel) (by decide) (fun _ => ?_) (fun _ => ?_)
          · refine sX_iload_n (i := 3) (by decide +kernel) rfl ?_
            refine sX_bipush (n := 40) (v := (40 : Int32)) (by decide +kernel) (by decide) ?_
            refine sX_iclt (o := 22) (t := 110) (by decide +kernel) (by decide) (fun _ => ?_) (fun _ => ?_)
            · refine sX_iload_n (i := 3) (by decide +kernel) rfl ?_
              refine sX_bipush (n := 13) (v := (13 : Int32)) (by decide +kernel) (by decide) ?_
              refine sX_icne (o := 11) (t := 124) (by decide +kernel) (by decide) (fun _ => ?_) (fun _ => ?_)
              · refine sX_aload_n (i := 0) (by decide +kernel) rfl ?_
                refine sX_lconst (n := 1) (v := (1 : Int64)) (by decide +kernel) (by decide) ?_
                refine sX_callVv (As := [.long (1 : Int64)]) (by decide +kernel) lm_X12_478 mf_X12_qPuts mi_X12_qPuts mc_12 (m_X12_qPuts G l v0 ((1 : Int64)) M) (fun _ h => sRc_some h) (by decide) rfl rfl (Nat.le_of_ble_eq_true rfl) (fun M9 => ?_)
                refine sX_goto (o := 41) (t := 162) (by decide +kernel) (by decide) ?_
                exact sX.le (xB162 v2 M9) (sLe_s (sLe_s (sLe_s (sLe_n sLe_e))))
              · refine sX_iload_n (i := 3) (by decide +kernel) rfl ?_
                refine sX_bipush (n := 12) (v := (12 : Int32)) (by decide +kernel) (by decide) ?_
                refine sX_icne (o := 30) (t := 157) (by decide +kernel) (by decide) (fun _ => ?_) (fun _ => ?_)
                · refine sX_aload_n (i := 0) (by decide +kernel) rfl ?_
                  refine sX_getR lf_X12_291 tk_12_121 (by decide +kernel) (fun x10 => ?_)
                  refine sX_aload_n (i := 0) (by decide +kernel) rfl ?_
                  refine sX_getI lf_X12_475 tk_12_122 (by decide +kernel) (fun x11 => ?_)
                  refine sX_iconst (n := 1) (v := (1 : Int32)) (by decide +kernel) (by decide) ?_
                  refine sX_isub (by decide +kernel) ?_
                  refine sX_lconst (n := 1) (v := (1 : Int64)) (by decide +kernel) (by decide) ?_
                  refine sX_aload_n (i := 0) (by decide +kernel) rfl ?_
                  refine sX_getR lf_X12_291 tk_12_121 (by decide +kernel) (fun x12 => ?_)
                  refine sX_aload_n (i := 0) (by decide +kernel) rfl ?_
                  refine sX_getI lf_X12_475 tk_12_122 (by decide +kernel) (fun x13 => ?_)
                  refine sX_iconst (n := 1) (v := (1 : Int32)) (by decide +kernel) (by decide) ?_
                  refine sX_isub (by decide +kernel) ?_
                  refine sX_laload (by decide +kernel) (fun x14 => ?_)
                  refine sX_lsub (by decide +kernel) ?_
                  refine sX_lastore (by decide +kernel) (by decide) (fun M15 => ?_)
                  refine sX_goto (o := 8) (t := 162) (by decide +kernel) (by decide) ?_
                  exact sX.le (xB162 v2 M15) (sLe_s (sLe_s (sLe_s (sLe_n sLe_e))))
                · refine sX_aload_n (i := 0) (by decide +kernel) rfl ?_
                  refine sX_iload_n (i := 3) (by decide +kernel) rfl ?_
                  refine sX_callVv (As := [.int x8]) (by decide +kernel) lm_X12_486 mf_X12_qJoins mi_X12_qJoins mc_12 (m_X12_qJoins G l v0 x8 M) (fun _ h => sRc_some h) (by decide) rfl rfl (Nat.le_of_ble_eq_true rfl) (fun M16 => ?_)
                  exact sX.le (xB162 v2 M16) (sLe_s (sLe_s (sLe_s (sLe_n sLe_e))))
            · exact sX.le (xB91 v2 x8 M) (sLe_s (sLe_s (sLe_s (sLe_s sLe_e))))
          · refine sX_aload_n (i := 0) (by decide +kernel) rfl ?_
            refine sX_getR lf_X12_291 tk_12_121 (by decide +kernel) (fun x17 => ?_)
            refine sX_aload_n (i := 0) (by decide +kernel) rfl ?_
            refine sX_getI lf_X12_475 tk_12_122 (by decide +kernel) (fun x18 => ?_)
            refine sX_iconst (n := 1) (v := (1 : Int32)) (by decide +kernel) (by decide) ?_
            refine sX_isub (by decide +kernel) ?_
            refine sX_aload_n (i := 0) (by decide +kernel) rfl ?_
            refine sX_iload_n (i := 3) (by decide +kernel) rfl ?_
            refine sX_bipush (n := 60) (v := (60 : Int32)) (by decide +kernel) (by decide) ?_
            refine sX_isub (by decide +kernel) ?_
            refine sX_aload_n (i := 0) (by decide +kernel) rfl ?_
            refine sX_getR lf_X12_291 tk_12_121 (by decide +kernel) (fun x19 => ?_)
            refine sX_aload_n (i := 0) (by decide +kernel) rfl ?_
            refine sX_getI lf_X12_475 tk_12_122 (by decide +kernel) (fun x20 => ?_)
            refine sX_iconst (n := 1) (v := (1 : Int32)) (by decide +kernel) (by decide) ?_
            refine sX_isub (by decide +kernel) ?_
            refine sX_laload (by decide +kernel) (fun x21 => ?_)
            refine sX_iload_n (i := 1) (by decide +kernel) rfl ?_
            refine sX_callVp (As := [.int (x8 - (60 : Int32)), .long x21, .int v1]) (by decide +kernel) lm_X12_743 mf_X12_qOf mi_X12_qOf mc_12 (m_X12_qOf G l v0 ((x8 - (60 : Int32))) x21 v1 M) (fun _ h => sRc_some h) (by decide) rfl rfl (Nat.le_of_ble_eq_true rfl) (fun x22 => ?_)
            refine sX_callSp (As := [.long x22]) (by decide +kernel) lm_X12_733 mf_X12_qClip ms_X12_qClip (m_X12_qClip G l x22 M) (by decide) rfl rfl (Nat.le_of_ble_eq_true rfl) (fun x23 => ?_)
            refine sX_lastore (by decide +kernel) (by decide) (fun M24 => ?_)
            refine sX_goto (o := 80) (t := 162) (by decide +kernel) (by decide) ?_
            exact sX.le (xB162 v2 M24) (sLe_s (sLe_s (sLe_s (sLe_n sLe_e))))
        · refine sX_aload_n (i := 0) (by decide +kernel) rfl ?_
          refine sX_iload_n (i := 3) (by decide +kernel) rfl ?_
          refine sX_sipush (n := 1000) (v := (1000 : Int32)) (by decide +kernel) (by decide) ?_
          refine sX_isub (by decide +kernel) ?_
          refine sX_i2l (by decide +kernel) ?_
          refine sX_callVv (As := [.long ((x8 - (1000 : Int32))).toInt64]) (by decide +kernel) lm_X12_478 mf_X12_qPuts mi_X12_qPuts mc_12 (m_X12_qPuts G l v0 (((x8 - (1000 : Int32))).toInt64) M) (fun _ h => sRc_some h) (by decide) rfl rfl (Nat.le_of_ble_eq_true rfl) (fun M25 => ?_)
          refine sX_goto (o := 123) (t := 162) (by decide +kernel) (by decide) ?_
          exact sX.le (xB162 v2 M25) (sLe_s (sLe_s (sLe_s (sLe_n sLe_e))))
    exact fun a => xK7 a.1 a.2
  refine sX_rc ?_
  refine sX_aload_n (i := 0) (by decide +kernel) rfl ?_
  refine sX_iconst (n := 0) (v := (0 : Int32)) (by decide +kernel) (by decide) ?_
  refine sX_putI lf_X12_475 tp_12_122 (by decide +kernel) (by decide) (fun M26 => ?_)
  refine sX_iconst (n := 0) (v := (0 : Int32)) (by decide +kernel) (by decide) ?_
  refine sX_istore_n (i := 2) (ls2 := [some (.ref v0), some (.int v1), some (.int (0 : Int32)), none]) (by decide +kernel) (by decide) rfl ?_
  exact sX.le (xL7 v0 v1 ((0 : Int32)) M26) (sLe_s (sLe_s (sLe_s (sLe_n sLe_e))))
def f_X12_qKind_B76 (v0 : Nat) (s0 : Int32) (M : sMem) : Option (Int32 × sMem) :=
  if s0 = (5 : Int32) then
    (gR 12 127 93 M v0).bind fun x1 =>
    (f_X12_asks v0 x1 M).bind fun M2 =>
    some ((s0, M2))
  else
    some ((s0, M))
def f_X12_qKind (v0 : Nat) (M0 : sMem) : Option (Int32 × sMem) :=
  sRc 12 127 M0 v0 (
    (gR 12 127 88 M0 v0).bind fun x3 =>
    (f_X12_takes v0 x3 M0).bind fun (x4, M5) =>
    if x4 = 0 then
      (gR 12 127 89 M5 v0).bind fun x6 =>
      (f_X12_takes v0 x6 M5).bind fun (x7, M8) =>
      if x7 = 0 then
        (gR 12 127 90 M8 v0).bind fun x9 =>
        (f_X12_takes v0 x9 M8).bind fun (x10, M11) =>
        if x10 = 0 then
          (gR 12 127 91 M11 v0).bind fun x12 =>
          (f_X12_takes v0 x12 M11).bind fun (x13, M14) =>
          if x13 = 0 then
            (gR 12 127 92 M14 v0).bind fun x15 =>
            (f_X12_takes v0 x15 M14).bind fun (x16, M17) =>
            if x16 = 0 then
              f_X12_qKind_B76 v0 ((5 : Int32)) M17
            else
              f_X12_qKind_B76 v0 ((4 : Int32)) M17
          else
            f_X12_qKind_B76 v0 ((3 : Int32)) M14
        else
          f_X12_qKind_B76 v0 ((2 : Int32)) M11
      else
        f_X12_qKind_B76 v0 ((1 : Int32)) M8
    else
      f_X12_qKind_B76 v0 ((0 : Int32)) M5)
set_option maxRecDepth 100000 in
set_option maxHeartbeats 4000000 in
theorem m_X12_qKind (G : sG) (l : Launch) (v0 : Nat) (M0 : sMem) : sC G l 5 yX12_qKind cX12_qKind 2 (some .int) [.ref v0] M0 rvI (f_X12_qKind v0 M0) := by
  refine sC_m (ls := [some (.ref v0), none]) (by decide +kernel) rfl (Nat.le_of_ble_eq_true rfl) (fun r M' K hr => ?_)
  unfold f_X12_qKind
  have xB76 : ∀ (v0 : Nat) (s0 : Int32) (M : sMem), sX G l 5 yX12_qKind cX12_qKind 2 (some .int) M0 r M' 76 [some (.ref v0), none] [.int s0] M (f_X12_qKind_B76 v0 s0 M) K := by
    intro v0 s0 M
    unfold f_X12_qKind_B76
    refine sX_istore_n (i := 1) (ls2 := [some (.ref v0), some (.int s0)]) (by decide +kernel) (by decide) rfl ?_
    refine sX_iload_n (i := 1) (by decide +kernel) rfl ?_
    refine sX_iconst (n := 5) (v := (5 : Int32)) (by decide +kernel) (by decide) ?_
    refine sX_icne (o := 11) (t := 90) (by decide +kernel) (by decide) (fun _ => ?_) (fun _ => ?_)
    · refine sX_aload_n (i := 0) (by decide +kernel) rfl ?_
      refine sX_aload_n (i := 0) (by decide +kernel) rfl ?_
      refine sX_getR lf_X12_219 tk_12_93 (by decide +kernel) (fun x1 => ?_)
      refine sX_callVv (As := [.ref x1]) (by decide +kernel) lm_X12_373 mf_X12_asks mi_X12_asks mc_12 (m_X12_asks G l v0 x1 M) (fun _ h => sRc_some h) (by decide) rfl rfl (Nat.le_of_ble_eq_true rfl) (fun M2 => ?_)
      refine sX_iload_n (i := 1) (by decide +kernel) rfl ?_
      exact sX_some (fun h _ => sW_iret (by decide +kernel) rfl (hr _ h).1.symm (hr _ h).2.symm)
    · refine sX_iload_n (i := 1) (by decide +kernel) rfl ?_
      exact sX_some (fun h _ => sW_iret (by decide +kernel) rfl (hr _ h).1.symm (hr _ h).2.symm)
  refine sX_rc ?_
  refine sX_aload_n (i := 0) (by decide +kernel) rfl ?_
  refine sX_aload_n (i := 0) (by decide +kernel) rfl ?_
  refine sX_getR lf_X12_204 tk_12_88 (by decide +kernel) (fun x3 => ?_)
  refine sX_callV (As := [.ref x3]) (by decide +kernel) lm_X12_327 mf_X12_takes mi_X12_takes mc_12 (m_X12_takes G l v0 x3 M0) (fun _ h => sRc_some h) (by decide) rfl rfl (Nat.le_of_ble_eq_true rfl) (fun x4 M5 _ => ?_)
  refine sX_ifeq (o := 7) (t := 15) (by decide +kernel) (by decide) (fun _ => ?_) (fun _ => ?_)
  · refine sX_aload_n (i := 0) (by decide +kernel) rfl ?_
    refine sX_aload_n (i := 0) (by decide +kernel) rfl ?_
    refine sX_getR lf_X12_207 tk_12_89 (by decide +kernel) (fun x6 => ?_)
    refine sX_callV (As := [.ref x6]) (by decide +kernel) lm_X12_327 mf_X12_takes mi_X12_takes mc_12 (m_X12_takes G l v0 x6 M5) (fun _ h => sRc_some h) (by decide) rfl rfl (Nat.le_of_ble_eq_true rfl) (fun x7 M8 _ => ?_)
    refine sX_ifeq (o := 7) (t := 30) (by decide +kernel) (by decide) (fun _ => ?_) (fun _ => ?_)
    · refine sX_aload_n (i := 0) (by decide +kernel) rfl ?_
      refine sX_aload_n (i := 0) (by decide +kernel) rfl ?_
      refine sX_getR lf_X12_210 tk_12_90 (by decide +kernel) (fun x9 => ?_)
      refine sX_callV (As := [.ref x9]) (by decide +kernel) lm_X12_327 mf_X12_takes mi_X12_takes mc_12 (m_X12_takes G l v0 x9 M8) (fun _ h => sRc_some h) (by decide) rfl rfl (Nat.le_of_ble_eq_true rfl) (fun x10 M11 _ => ?_)
      refine sX_ifeq (o := 7) (t := 45) (by decide +kernel) (by decide) (fun _ => ?_) (fun _ => ?_)
      · refine sX_aload_n (i := 0) (by decide +kernel) rfl ?_
        refine sX_aload_n (i := 0) (by decide +kernel) rfl ?_
        refine sX_getR lf_X12_213 tk_12_91 (by decide +kernel) (fun x12 => ?_)
        refine sX_callV (As := [.ref x12]) (by decide +kernel) lm_X12_327 mf_X12_takes mi_X12_takes mc_12 (m_X12_takes G l v0 x12 M11) (fun _ h => sRc_some h) (by decide) rfl rfl (Nat.le_of_ble_eq_true rfl) (fun x13 M14 _ => ?_)
        refine sX_ifeq (o := 7) (t := 60) (by decide +kernel) (by decide) (fun _ => ?_) (fun _ => ?_)
        · refine sX_aload_n (i := 0) (by decide +kernel) rfl ?_
          refine sX_aload_n (i := 0) (by decide +kernel) rfl ?_
          refine sX_getR lf_X12_216 tk_12_92 (by decide +kernel) (fun x15 => ?_)
          refine sX_callV (As := [.ref x15]) (by decide +kernel) lm_X12_327 mf_X12_takes mi_X12_takes mc_12 (m_X12_takes G l v0 x15 M14) (fun _ h => sRc_some h) (by decide) rfl rfl (Nat.le_of_ble_eq_true rfl) (fun x16 M17 _ => ?_)
          refine sX_ifeq (o := 7) (t := 75) (by decide +kernel) (by decide) (fun _ => ?_) (fun _ => ?_)
          · refine sX_iconst (n := 5) (v := (5 : Int32)) (by decide +kernel) (by decide) ?_
            exact sX.le (xB76 v0 ((5 : Int32)) M17) (sLe_s (sLe_n sLe_e))
          · refine sX_iconst (n := 4) (v := (4 : Int32)) (by decide +kernel) (by decide) ?_
            refine sX_goto (o := 4) (t := 76) (by decide +kernel) (by decide) ?_
            exact sX.le (xB76 v0 ((4 : Int32)) M17) (sLe_s (sLe_n sLe_e))
        · refine sX_iconst (n := 3) (v := (3 : Int32)) (by decide +kernel) (by decide) ?_
          refine sX_goto (o := 19) (t := 76) (by decide +kernel) (by decide) ?_
          exact sX.le (xB76 v0 ((3 : Int32)) M14) (sLe_s (sLe_n sLe_e))
      · refine sX_iconst (n := 2) (v := (2 : Int32)) (by decide +kernel) (by decide) ?_
        refine sX_goto (o := 34) (t := 76) (by decide +kernel) (by decide) ?_
        exact sX.le (xB76 v0 ((2 : Int32)) M11) (sLe_s (sLe_n sLe_e))
    · refine sX_iconst (n := 1) (v := (1 : Int32)) (by decide +kernel) (by decide) ?_
      refine sX_goto (o := 49) (t := 76) (by decide +kernel) (by decide) ?_
      exact sX.le (xB76 v0 ((1 : Int32)) M8) (sLe_s (sLe_n sLe_e))
  · refine sX_iconst (n := 0) (v := (0 : Int32)) (by decide +kernel) (by decide) ?_
    refine sX_goto (o := 64) (t := 76) (by decide +kernel) (by decide) ?_
    exact sX.le (xB76 v0 ((0 : Int32)) M5) (sLe_s (sLe_n sLe_e))
def f_X12_qTakes_B133 (v0 : Nat) (M : sMem) : Option sMem :=
  (pZ 12 127 124 M v0 ((0 : Int32))).bind fun M1 =>
  some M1
def f_X12_qTakes_B128 (v0 : Nat) (v2 : Int64) (M : sMem) : Option sMem :=
  (pJ 12 127 123 M v0 v2).bind fun M2 =>
  f_X12_qTakes_B133 v0 M2
def f_X12_qTakes_B90 (v0 : Nat) (v1 : Int32) (v2 : Int64) (M : sMem) : Option sMem :=
  if v1 ≤ (3 : Int32) then
    f_X12_qTakes_B133 v0 M
  else
    (gI 12 127 124 M v0).bind fun x3 =>
    if x3 = 0 then
      if v1 = (4 : Int32) then
        (gJ 12 127 123 M v0).bind fun x4 =>
        if v2 ≤ x4 then
          f_X12_qTakes_B133 v0 M
        else
          f_X12_qTakes_B128 v0 v2 M
      else
        (gJ 12 127 123 M v0).bind fun x5 =>
        if x5 ≤ v2 then
          f_X12_qTakes_B133 v0 M
        else
          f_X12_qTakes_B128 v0 v2 M
    else
      f_X12_qTakes_B128 v0 v2 M
def f_X12_qTakes_B75 (v0 : Nat) (v1 : Int32) (v2 : Int64) (M : sMem) : Option sMem :=
  if v1 = (3 : Int32) then
    (gJ 12 127 123 M v0).bind fun x6 =>
    (pJ 12 127 123 M v0 ((x6 + v2))).bind fun M7 =>
    f_X12_qTakes_B90 v0 v1 v2 M7
  else
    f_X12_qTakes_B90 v0 v1 v2 M
def f_X12_qTakes_B55 (v0 : Nat) (v1 : Int32) (v2 : Int64) (v5 : Int32) (M : sMem) : Option sMem :=
  if v1 = (2 : Int32) then
    if v5 = 0 then
      f_X12_qTakes_B75 v0 v1 v2 M
    else
      (gJ 12 127 123 M v0).bind fun x8 =>
      (pJ 12 127 123 M v0 ((x8 + (1 : Int64)))).bind fun M9 =>
      f_X12_qTakes_B75 v0 v1 v2 M9
  else
    f_X12_qTakes_B75 v0 v1 v2 M
def f_X12_qTakes_B48 (v0 : Nat) (v1 : Int32) (v2 : Int64) (v4 : Int32) (v5 : Int32) (M : sMem) : Option sMem :=
  (pJ 12 127 123 M v0 v4.toInt64).bind fun M10 =>
  f_X12_qTakes_B55 v0 v1 v2 v5 M10
def f_X12_qTakes_B38 (v0 : Nat) (v1 : Int32) (v2 : Int64) (v4 : Int32) (v5 : Int32) (M : sMem) : Option sMem :=
  if v1 = (1 : Int32) then
    if v5 = 0 then
      f_X12_qTakes_B55 v0 v1 v2 v5 M
    else
      f_X12_qTakes_B48 v0 v1 v2 v4 v5 M
  else
    f_X12_qTakes_B55 v0 v1 v2 v5 M
def f_X12_qTakes_B16 (v0 : Nat) (v1 : Int32) (v2 : Int64) (v4 : Int32) (s0 : Int32) (M : sMem) : Option sMem :=
  if v1 = 0 then
    if s0 = 0 then
      f_X12_qTakes_B38 v0 v1 v2 v4 s0 M
    else
      (gJ 12 127 123 M v0).bind fun x11 =>
      if x11 = (-1 : Int64) then
        f_X12_qTakes_B48 v0 v1 v2 v4 s0 M
      else
        f_X12_qTakes_B38 v0 v1 v2 v4 s0 M
  else
    f_X12_qTakes_B38 v0 v1 v2 v4 s0 M
def f_X12_qTakes_B15 (v0 : Nat) (v1 : Int32) (v2 : Int64) (v4 : Int32) (M : sMem) : Option sMem :=
  f_X12_qTakes_B16 v0 v1 v2 v4 ((0 : Int32)) M
def f_X12_qTakes (v0 : Nat) (v1 : Int32) (v2 : Int64) (v4 : Int32) (M0 : sMem) : Option sMem :=
  sRc 12 127 M0 v0 (
    if (3 : Int32) ≤ v1 then
      f_X12_qTakes_B15 v0 v1 v2 v4 M0
    else
      if v2 = (1 : Int64) then
        f_X12_qTakes_B16 v0 v1 v2 v4 ((1 : Int32)) M0
      else
        f_X12_qTakes_B15 v0 v1 v2 v4 M0)
set_option maxRecDepth 100000 in
set_option maxHeartbeats 4000000 in
theorem m_X12_qTakes (G : sG) (l : Launch) (v0 : Nat) (v1 : Int32) (v2 : Int64) (v4 : Int32) (M0 : sMem) : sCv G l 1 yX12_qTakes cX12_qTakes 6 none [.ref v0, .int v1, .long v2, .int v4] M0 (f_X12_qTakes v0 v1 v2 v4 M0) := by
  refine sC_v (ls := [some (.ref v0), some (.int v1), some (.long v2), none, some (.int v4), none]) (by decide +kernel) rfl (Nat.le_of_ble_eq_true rfl) (fun r M' K hr => ?_)
  unfold f_X12_qTakes
  have xB133 : ∀ (v0 : Nat) (M : sMem), sX G l 1 yX12_qTakes cX12_qTakes 6 none M0 r M' 133 [some (.ref v0), none, none, none, none, none] [] M (f_X12_qTakes_B133 v0 M) K := by
    intro v0 M
    unfold f_X12_qTakes_B133
    refine sX_aload_n (i := 0) (by decide +kernel) rfl ?_
    refine sX_iconst (n := 0) (v := (0 : Int32)) (by decide +kernel) (by decide) ?_
    refine sX_putZ lf_X12_750 tp_12_124 (by decide +kernel) (by decide) (fun M1 => ?_)
    exact sX_some (fun h _ => sW_vret (by decide +kernel) rfl (hr _ h).1.symm (hr _ h).2.symm)
  have xB128 : ∀ (v0 : Nat) (v2 : Int64) (M : sMem), sX G l 1 yX12_qTakes cX12_qTakes 6 none M0 r M' 128 [some (.ref v0), none, some (.long v2), none, none, none] [] M (f_X12_qTakes_B128 v0 v2 M) K := by
    intro v0 v2 M
    unfold f_X12_qTakes_B128
    refine sX_aload_n (i := 0) (by decide +kernel) rfl ?_
    refine sX_lload_n (i := 2) (by decide +kernel) rfl ?_
    refine sX_putJ lf_X12_747 tp_12_123 (by decide +kernel) (by decide) (fun M2 => ?_)
    exact sX.le (xB133 v0 M2) (sLe_s (sLe_n (sLe_n (sLe_n (sLe_n (sLe_n sLe_e))))))
  have xB90 : ∀ (v0 : Nat) (v1 : Int32) (v2 : Int64) (M : sMem), sX G l 1 yX12_qTakes cX12_qTakes 6 none M0 r M' 90 [some (.ref v0), some (.int v1), some (.long v2), none, none, none] [] M (f_X12_qTakes_B90 v0 v1 v2 M) K := by
    intro v0 v1 v2 M
    unfold f_X12_qTakes_B90
    refine sX_iload_n (i := 1) (by decide +kernel) rfl ?_
    refine sX_iconst (n := 3) (v := (3 : Int32)) (by decide +kernel) (by decide) ?_
    refine sX_icle (o := 41) (t := 133) (by decide +kernel) (by decide) (fun _ => ?_) (fun _ => ?_)
    · exact sX.le (xB133 v0 M) (sLe_s (sLe_n (sLe_n (sLe_n (sLe_n (sLe_n sLe_e))))))
    · refine sX_aload_n (i := 0) (by decide +kernel) rfl ?_
      refine sX_getI lf_X12_750 tk_12_124 (by decide +kernel) (fun x3 => ?_)
      refine sX_ifne (o := 29) (t := 128) (by decide +kernel) (by decide) (fun _ => ?_) (fun _ => ?_)
      · refine sX_iload_n (i := 1) (by decide +kernel) rfl ?_
        refine sX_iconst (n := 4) (v := (4 : Int32)) (by decide +kernel) (by decide) ?_
        refine sX_icne (o := 15) (t := 119) (by decide +kernel) (by decide) (fun _ => ?_) (fun _ => ?_)
        · refine sX_lload_n (i := 2) (by decide +kernel) rfl ?_
          refine sX_aload_n (i := 0) (by decide +kernel) rfl ?_
          refine sX_getJ lf_X12_747 tk_12_123 (by decide +kernel) (fun x4 => ?_)
          refine sX_lcle (o := 20) (t := 133) (by decide +kernel) (by decide +kernel) (by decide) (fun _ => ?_) (fun _ => ?_)
          · exact sX.le (xB133 v0 M) (sLe_s (sLe_n (sLe_n (sLe_n (sLe_n (sLe_n sLe_e))))))
          · refine sX_goto (o := 12) (t := 128) (by decide +kernel) (by decide) ?_
            exact sX.le (xB128 v0 v2 M) (sLe_s (sLe_n (sLe_s (sLe_n (sLe_n (sLe_n sLe_e))))))
        · refine sX_lload_n (i := 2) (by decide +kernel) rfl ?_
          refine sX_aload_n (i := 0) (by decide +kernel) rfl ?_
          refine sX_getJ lf_X12_747 tk_12_123 (by decide +kernel) (fun x5 => ?_)
          refine sX_lcge (o := 8) (t := 133) (by decide +kernel) (by decide +kernel) (by decide) (fun _ => ?_) (fun _ => ?_)
          · exact sX.le (xB133 v0 M) (sLe_s (sLe_n (sLe_n (sLe_n (sLe_n (sLe_n sLe_e))))))
          · exact sX.le (xB128 v0 v2 M) (sLe_s (sLe_n (sLe_s (sLe_n (sLe_n (sLe_n sLe_e))))))
      · exact sX.le (xB128 v0 v2 M) (sLe_s (sLe_n (sLe_s (sLe_n (sLe_n (sLe_n sLe_e))))))
  have xB75 : ∀ (v0 : Nat) (v1 : Int32) (v2 : Int64) (M : sMem), sX G l 1 yX12_qTakes cX12_qTakes 6 none M0 r M' 75 [some (.ref v0), some (.int v1), some (.long v2), none, none, none] [] M (f_X12_qTakes_B75 v0 v1 v2 M) K := by
    intro v0 v1 v2 M
    unfold f_X12_qTakes_B75
    refine sX_iload_n (i := 1) (by decide +kernel) rfl ?_
    refine sX_iconst (n := 3) (v := (3 : Int32)) (by decide +kernel) (by decide) ?_
    refine sX_icne (o := 13) (t := 90) (by decide +kernel) (by decide) (fun _ => ?_) (fun _ => ?_)
    · refine sX_aload_n (i := 0) (by decide +kernel) rfl ?_
      refine sX_dup (by decide +kernel) rfl ?_
      refine sX_getJ lf_X12_747 tk_12_123 (by decide +kernel) (fun x6 => ?_)
      refine sX_lload_n (i := 2) (by decide +kernel) rfl ?_
      refine sX_ladd (by decide +kernel) ?_
      refine sX_putJ lf_X12_747 tp_12_123 (by decide +kernel) (by decide) (fun M7 => ?_)
      exact sX.le (xB90 v0 v1 v2 M7) (sLe_s (sLe_s (sLe_s (sLe_n (sLe_n (sLe_n sLe_e))))))
    · exact sX.le (xB90 v0 v1 v2 M) (sLe_s (sLe_s (sLe_s (sLe_n (sLe_n (sLe_n sLe_e))))))
  have xB55 : ∀ (v0 : Nat) (v1 : Int32) (v2 : Int64) (v5 : Int32) (M : sMem), sX G l 1 yX12_qTakes cX12_qTakes 6 none M0 r M' 55 [some (.ref v0), some (.int v1), some (.long v2), none, none, some (.int v5)] [] M (f_X12_qTakes_B55 v0 v1 v2 v5 M) K := by
    intro v0 v1 v2 v5 M
    unfold f_X12_qTakes_B55
    refine sX_iload_n (i := 1) (by decide +kernel) rfl ?_
    refine sX_iconst (n := 2) (v := (2 : Int32)) (by decide +kernel) (by decide) ?_
    refine sX_icne (o := 18) (t := 75) (by decide +kernel) (by decide) (fun _ => ?_) (fun _ => ?_)
    · refine sX_iload (i := 5) (by decide +kernel) rfl ?_
      refine sX_ifeq (o := 13) (t := 75) (by decide +kernel) (by decide) (fun _ => ?_) (fun _ => ?_)
      · exact sX.le (xB75 v0 v1 v2 M) (sLe_s (sLe_s (sLe_s (sLe_n (sLe_n (sLe_n sLe_e))))))
      · refine sX_aload_n (i := 0) (by decide +kernel) rfl ?_
        refine sX_dup (by decide +kernel) rfl ?_
        refine sX_getJ lf_X12_747 tk_12_123 (by decide +kernel) (fun x8 => ?_)
        refine sX_lconst (n := 1) (v := (1 : Int64)) (by decide +kernel) (by decide) ?_
        refine sX_ladd (by decide +kernel) ?_
        refine sX_putJ lf_X12_747 tp_12_123 (by decide +kernel) (by decide) (fun M9 => ?_)
        exact sX.le (xB75 v0 v1 v2 M9) (sLe_s (sLe_s (sLe_s (sLe_n (sLe_n (sLe_n sLe_e))))))
    · exact sX.le (xB75 v0 v1 v2 M) (sLe_s (sLe_s (sLe_s (sLe_n (sLe_n (sLe_n sLe_e))))))
  have xB48 : ∀ (v0 : Nat) (v1 : Int32) (v2 : Int64) (v4 : Int32) (v5 : Int32) (M : sMem), sX G l 1 yX12_qTakes cX12_qTakes 6 none M0 r M' 48 [some (.ref v0), some (.int v1), some (.long v2), none, some (.int v4), some (.int v5)] [] M (f_X12_qTakes_B48 v0 v1 v2 v4 v5 M) K := by
    intro v0 v1 v2 v4 v5 M
    unfold f_X12_qTakes_B48
    refine sX_aload_n (i := 0) (by decide +kernel) rfl ?_
    refine sX_iload (i := 4) (by decide +kernel) rfl ?_
    refine sX_i2l (by decide +kernel) ?_
    refine sX_putJ lf_X12_747 tp_12_123 (by decide +kernel) (by decide) (fun M10 => ?_)
    exact sX.le (xB55 v0 v1 v2 v5 M10) (sLe_s (sLe_s (sLe_s (sLe_n (sLe_n (sLe_s sLe_e))))))
  have xB38 : ∀ (v0 : Nat) (v1 : Int32) (v2 : Int64) (v4 : Int32) (v5 : Int32) (M : sMem), sX G l 1 yX12_qTakes cX12_qTakes 6 none M0 r M' 38 [some (.ref v0), some (.int v1), some (.long v2), none, some (.int v4), some (.int v5)] [] M (f_X12_qTakes_B38 v0 v1 v2 v4 v5 M) K := by
    intro v0 v1 v2 v4 v5 M
    unfold f_X12_qTakes_B38
    refine sX_iload_n (i := 1) (by decide +kernel) rfl ?_
    refine sX_iconst (n := 1) (v := (1 : Int32)) (by decide +kernel) (by decide) ?_
    refine sX_icne (o := 15) (t := 55) (by decide +kernel) (by decide) (fun _ => ?_) (fun _ => ?_)
    · refine sX_iload (i := 5) (by decide +kernel) rfl ?_
      refine sX_ifeq (o := 10) (t := 55) (by decide +kernel) (by decide) (fun _ => ?_) (fun _ => ?_)
      · exact sX.le (xB55 v0 v1 v2 v5 M) (sLe_s (sLe_s (sLe_s (sLe_n (sLe_n (sLe_s sLe_e))))))
      · exact sX.le (xB48 v0 v1 v2 v4 v5 M) (sLe_s (sLe_s (sLe_s (sLe_n (sLe_s (sLe_s sLe_e))))))
    · exact sX.le (xB55 v0 v1 v2 v5 M) (sLe_s (sLe_s (sLe_s (sLe_n (sLe_n (sLe_s sLe_e))))))
  have xB16 : ∀ (v0 : Nat) (v1 : Int32) (v2 : Int64) (v4 : Int32) (s0 : Int32) (M : sMem), sX G l 1 yX12_qTakes cX12_qTakes 6 none M0 r M' 16 [some (.ref v0), some (.int v1), some (.long v2), none, some (.int v4), none] [.int s0] M (f_X12_qTakes_B16 v0 v1 v2 v4 s0 M) K := by
    intro v0 v1 v2 v4 s0 M
    unfold f_X12_qTakes_B16
    refine sX_istore (i := 5) (ls2 := [some (.ref v0), some (.int v1), some (.long v2), none, some (.int v4), some (.int s0)]) (by decide +kernel) (by decide) rfl ?_
    refine sX_iload_n (i := 1) (by decide +kernel) rfl ?_
    refine sX_ifne (o := 19) (t := 38) (by decide +kernel) (by decide) (fun _ => ?_) (fun _ => ?_)
    · refine sX_iload (i := 5) (by decide +kernel) rfl ?_
      refine sX_ifeq (o := 14) (t := 38) (by decide +kernel) (by decide) (fun _ => ?_) (fun _ => ?_)
      · exact sX.le (xB38 v0 v1 v2 v4 s0 M) (sLe_s (sLe_s (sLe_s (sLe_n (sLe_s (sLe_s sLe_e))))))
      · refine sX_aload_n (i := 0) (by decide +kernel) rfl ?_
        refine sX_getJ lf_X12_747 tk_12_123 (by decide +kernel) (fun x11 => ?_)
        refine sX_ldc2 (v := (-1 : Int64)) (by decide +kernel) kl_X12_741 ?_
        refine sX_lceq (o := 13) (t := 48) (by decide +kernel) (by decide +kernel) (by decide) (fun _ => ?_) (fun _ => ?_)
        · exact sX.le (xB48 v0 v1 v2 v4 s0 M) (sLe_s (sLe_s (sLe_s (sLe_n (sLe_s (sLe_s sLe_e))))))
        · exact sX.le (xB38 v0 v1 v2 v4 s0 M) (sLe_s (sLe_s (sLe_s (sLe_n (sLe_s (sLe_s sLe_e))))))
    · exact sX.le (xB38 v0 v1 v2 v4 s0 M) (sLe_s (sLe_s (sLe_s (sLe_n (sLe_s (sLe_s sLe_e))))))
  have xB15 : ∀ (v0 : Nat) (v1 : Int32) (v2 : Int64) (v4 : Int32) (M : sMem), sX G l 1 yX12_qTakes cX12_qTakes 6 none M0 r M' 15 [some (.ref v0), some (.int v1), some (.long v2), none, some (.int v4), none] [] M (f_X12_qTakes_B15 v0 v1 v2 v4 M) K := by
    intro v0 v1 v2 v4 M
    unfold f_X12_qTakes_B15
    refine sX_iconst (n := 0) (v := (0 : Int32)) (by decide +kernel) (by decide) ?_
    exact sX.le (xB16 v0 v1 v2 v4 ((0 : Int32)) M) (sLe_s (sLe_s (sLe_s (sLe_n (sLe_s (sLe_n sLe_e))))))
  refine sX_rc ?_
  refine sX_iload_n (i := 1) (by decide +kernel) rfl ?_
  refine sX_iconst (n := 3) (v := (3 : Int32)) (by decide +kernel) (by decide) ?_
  refine sX_icge (o := 13) (t := 15) (by decide +kernel) (by decide) (fun _ => ?_) (fun _ => ?_)
  · exact sX.le (xB15 v0 v1 v2 v4 M0) (sLe_s (sLe_s (sLe_s (sLe_n (sLe_s (sLe_n sLe_e))))))
  · refine sX_lload_n (i := 2) (by decide +kernel) rfl ?_
    refine sX_lconst (n := 1) (v := (1 : Int64)) (by decide +kernel) (by decide) ?_
    refine sX_lcne (o := 7) (t := 15) (by decide +kernel) (by decide +kernel) (by decide) (fun _ => ?_) (fun _ => ?_)
    · refine sX_iconst (n := 1) (v := (1 : Int32)) (by decide +kernel) (by decide) ?_
      refine sX_goto (o := 4) (t := 16) (by decide +kernel) (by decide) ?_
      exact sX.le (xB16 v0 v1 v2 v4 ((1 : Int32)) M0) (sLe_s (sLe_s (sLe_s (sLe_n (sLe_s (sLe_n sLe_e))))))
    · exact sX.le (xB15 v0 v1 v2 v4 M0) (sLe_s (sLe_s (sLe_s (sLe_n (sLe_s (sLe_n sLe_e))))))
def f_X12_ask_B290 (v0 : Nat) (M : sMem) : Option (Int64 × sMem) :=
  (gJ 12 127 123 M v0).bind fun x1 =>
  some ((x1, M))
def f_X12_ask_K265 (v0 : Nat) (v1 : Int32) (v2 : Int32) (M : sMem) : Option ((Int32 × sMem) ⊕ ((sMem))) :=
  (f_X12_carMany v0 M).bind fun x2 =>
  if x2 ≤ v2 then
    some (.inr M)
  else
    (f_X12_qTold v0 v2 M).bind fun (x3, M4) =>
    (f_X12_qTakes v0 v1 x3 v2 M4).bind fun M5 =>
    some (.inl ((((v2 + (1 : Int32))), M5)))
def f_X12_ask_L265 (v0 : Nat) (v1 : Int32) (v2 : Int32) (M : sMem) : Option (Int64 × sMem) :=
  (sItr (fun a : (Int32 × sMem) => f_X12_ask_K265 v0 v1 a.1 a.2) sFuel (v2, M)).bind (fun b => f_X12_ask_B290 v0 b)
def f_X12_ask_B258 (v0 : Nat) (v1 : Int32) (M : sMem) : Option (Int64 × sMem) :=
  (pI 12 127 58 M v0 ((3 : Int32))).bind fun M6 =>
  f_X12_ask_L265 v0 v1 ((0 : Int32)) M6
def f_X12_ask_B252 (v0 : Nat) (v1 : Int32) (v2 : Int32) (M : sMem) : Option ((Int32 × sMem) ⊕ ((sMem))) :=
  some (.inl ((((v2 + (1 : Int32))), M)))
def f_X12_ask_K208 (v0 : Nat) (v1 : Int32) (v2 : Int32) (v3 : Int32) (M : sMem) : Option ((Int32 × sMem) ⊕ ((sMem))) :=
  (f_X12_placeMany v0 M).bind fun x7 =>
  if x7 ≤ v3 then
    some (.inr M)
  else
    (gR 12 127 67 M v0).bind fun x8 =>
    (f_X12_placeOf v0 v2 M).bind fun x9 =>
    (f_X12_minuteOf v0 v2 M).bind fun x10 =>
    (f_X12_upSet v0 M).bind fun x11 =>
    (f_X12_driveOf v0 x9 v3 x10 x11 M).bind fun (x12, M13) =>
    (stI M13 x8 ((((7 : Int32) * v2) + v3)) x12).bind fun M14 =>
    some (.inl ((((v3 + (1 : Int32))), M14)))
def f_X12_ask_L208 (v0 : Nat) (v1 : Int32) (v2 : Int32) (v3 : Int32) (M : sMem) : Option ((Int32 × sMem) ⊕ ((sMem))) :=
  (sItr (fun a : (Int32 × sMem) => f_X12_ask_K208 v0 v1 v2 a.1 a.2) sFuel (v3, M)).bind (fun b => f_X12_ask_B252 v0 v1 v2 b)
def f_X12_ask_K187 (v0 : Nat) (v1 : Int32) (v2 : Int32) (M : sMem) : Option ((Int32 × sMem) ⊕ ((sMem))) :=
  (f_X12_carMany v0 M).bind fun x15 =>
  if x15 ≤ v2 then
    some (.inr M)
  else
    (gR 12 127 66 M v0).bind fun x16 =>
    (f_X12_waitOf v0 v2 M).bind fun (x17, M18) =>
    (stI M18 x16 v2 x17).bind fun M19 =>
    f_X12_ask_L208 v0 v1 v2 ((0 : Int32)) M19
def f_X12_ask_L187 (v0 : Nat) (v1 : Int32) (v2 : Int32) (M : sMem) : Option (Int64 × sMem) :=
  (sItr (fun a : (Int32 × sMem) => f_X12_ask_K187 v0 v1 a.1 a.2) sFuel (v2, M)).bind (fun b => f_X12_ask_B258 v0 v1 b)
def f_X12_ask_B173 (v0 : Nat) (v1 : Int32) (s0 : Nat) (s1 : Int64) (M : sMem) : Option (Int64 × sMem) :=
  (pJ 12 127 123 M s0 s1).bind fun M20 =>
  (pZ 12 127 124 M20 v0 ((1 : Int32))).bind fun M21 =>
  (f_X12_laysShut v0 M21).bind fun M22 =>
  f_X12_ask_L187 v0 v1 ((0 : Int32)) M22
def f_X12_ask_B133 (v0 : Nat) (v1 : Int32) (M : sMem) : Option (Int64 × sMem) :=
  (gI 12 127 5 M v0).bind fun x23 =>
  (pI 12 127 7 M v0 x23).bind fun M24 =>
  (gI 12 127 6 M24 v0).bind fun x25 =>
  (pI 12 127 8 M24 v0 x25).bind fun M26 =>
  (gI 12 127 5 M26 v0).bind fun x27 =>
  if x27 = 0 then
    if (2 : Int32) ≤ v1 then
      f_X12_ask_B173 v0 v1 v0 ((0 : Int64)) M26
    else
      f_X12_ask_B173 v0 v1 v0 ((-1 : Int64)) M26
  else
    some (((-1000000000000000 : Int64), M26))
def f_X12_ask_B109 (v0 : Nat) (v1 : Int32) (M : sMem) : Option (Int64 × sMem) :=
  (gI 12 127 5 M v0).bind fun x28 =>
  if x28 = 0 then
    (f_X12_look v0 M).bind fun (x29, M30) =>
    if x29 = (-1 : Int32) then
      f_X12_ask_B133 v0 v1 M30
    else
      (gI 12 127 2 M30 v0).bind fun x31 =>
      (f_X12_fail v0 ((1 : Int32)) x31 M30).bind fun M32 =>
      f_X12_ask_B133 v0 v1 M32
  else
    f_X12_ask_B133 v0 v1 M
def f_X12_ask_B98 (v0 : Nat) (v1 : Int32) (M : sMem) : Option (Int64 × sMem) :=
  (gI 12 127 5 M v0).bind fun x33 =>
  if x33 = 0 then
    (f_X12_qSums v0 M).bind fun M34 =>
    f_X12_ask_B109 v0 v1 M34
  else
    f_X12_ask_B109 v0 v1 M
def f_X12_ask_B79 (v0 : Nat) (v1 : Int32) (M : sMem) : Option (Int64 × sMem) :=
  (gI 12 127 5 M v0).bind fun x35 =>
  if x35 = 0 then
    if (3 : Int32) ≤ v1 then
      f_X12_ask_B98 v0 v1 M
    else
      (f_X12_qTest v0 M).bind fun M36 =>
      f_X12_ask_B109 v0 v1 M36
  else
    f_X12_ask_B98 v0 v1 M
def f_X12_ask (v0 : Nat) (M0 : sMem) : Option (Int64 × sMem) :=
  sRc 12 127 M0 v0 (
    (gI 12 127 57 M0 v0).bind fun x37 =>
    if x37 = 0 then
      (pI 12 127 1 M0 v0 ((0 : Int32))).bind fun M38 =>
      some (((-1000000000000000 : Int64), M38))
    else
      (gI 12 127 1 M0 v0).bind fun x39 =>
      (pI 12 127 3 M0 v0 x39).bind fun M40 =>
      (pI 12 127 1 M40 v0 ((0 : Int32))).bind fun M41 =>
      (pI 12 127 2 M41 v0 ((0 : Int32))).bind fun M42 =>
      (pI 12 127 4 M42 v0 ((-1 : Int32))).bind fun M43 =>
      (pI 12 127 5 M43 v0 ((0 : Int32))).bind fun M44 =>
      (pI 12 127 6 M44 v0 ((-1 : Int32))).bind fun M45 =>
      (pI 12 127 58 M45 v0 ((3 : Int32))).bind fun M46 =>
      (pI 12 127 116 M46 v0 ((0 : Int32))).bind fun M47 =>
      (pI 12 127 118 M47 v0 ((0 : Int32))).bind fun M48 =>
      (pI 12 127 119 M48 v0 ((0 : Int32))).bind fun M49 =>
      (pI 12 127 120 M49 v0 ((0 : Int32))).bind fun M50 =>
      (f_X12_qKind v0 M50).bind fun (x51, M52) =>
      f_X12_ask_B79 v0 x51 M52)
set_option maxRecDepth 100000 in
set_option maxHeartbeats 4000000 in
theorem m_X12_ask (G : sG) (l : Launch) (v0 : Nat) (M0 : sMem) : sC G l 10 yX12_ask cX12_ask 4 (some .long) [.ref v0] M0 rvJ (f_X12_ask v0 M0) := by
  refine sC_m (ls := [some (.ref v0), none, none, none]) (by decide +kernel) rfl (Nat.le_of_ble_eq_true rfl) (fun r M' K hr => ?_)
  unfold f_X12_ask
  have xB290 : ∀ (v0 : Nat) (M : sMem), sX G l 10 yX12_ask cX12_ask 4 (some .long) M0 r M' 290 [some (.ref v0), none, none, none] [] M (f_X12_ask_B290 v0 M) K := by
    intro v0 M
    unfold f_X12_ask_B290
    refine sX_aload_n (i := 0) (by decide +kernel) rfl ?_
    refine sX_getJ lf_X12_747 tk_12_123 (by decide +kernel) (fun x1 => ?_)
    exact sX_some (fun h _ => sW_lret (by decide +kernel) rfl (hr _ h).1.symm (hr _ h).2.symm)
  have xL265 : ∀ (v0 : Nat) (v1 : Int32) (v2 : Int32) (M : sMem), sX G l 10 yX12_ask cX12_ask 4 (some .long) M0 r M' 265 [some (.ref v0), some (.int v1), some (.int v2), none] [] M (f_X12_ask_L265 v0 v1 v2 M) K := by
    intro v0 v1 v2 M
    unfold f_X12_ask_L265
    refine sX_bind ?_
    refine sX_loop (LS := fun a : (Int32 × sMem) => [some (.ref v0), some (.int v1), some (.int a.1), none]) (MM := fun a => a.2) (fun K1 hb1 he1 => ?_) sFuel ((v2, M))
    have xK265 : ∀ (v2 : Int32) (M : sMem), sX G l 10 yX12_ask cX12_ask 4 (some .long) M0 r M' 265 [some (.ref v0), some (.int v1), some (.int v2), none] [] M (f_X12_ask_K265 v0 v1 v2 M) K1 := by
      intro v2 M
      unfold f_X12_ask_K265
      refine sX_iload_n (i := 2) (by decide +kernel) rfl ?_
      refine sX_aload_n (i := 0) (by decide +kernel) rfl ?_
      refine sX_callVp (As := []) (by decide +kernel) lm_X12_469 mf_X12_carMany mi_X12_carMany mc_12 (m_X12_carMany G l v0 M) (fun _ h => sRc_some h) (by decide) rfl rfl (Nat.le_of_ble_eq_true rfl) (fun x2 => ?_)
      refine sX_icge (o := 20) (t := 290) (by decide +kernel) (by decide) (fun _ => ?_) (fun _ => ?_)
      · refine sX_exit he1 ?_
        exact sX.le (xB290 v0 M) (sLe_s (sLe_n (sLe_n (sLe_n sLe_e))))
      · refine sX_aload_n (i := 0) (by decide +kernel) rfl ?_
        refine sX_iload_n (i := 1) (by decide +kernel) rfl ?_
        refine sX_aload_n (i := 0) (by decide +kernel) rfl ?_
        refine sX_iload_n (i := 2) (by decide +kernel) rfl ?_
        refine sX_callV (As := [.int v2]) (by decide +kernel) lm_X12_758 mf_X12_qTold mi_X12_qTold mc_12 (m_X12_qTold G l v0 v2 M) (fun _ h => sRc_some h) (by decide) rfl rfl (Nat.le_of_ble_eq_true rfl) (fun x3 M4 _ => ?_)
        refine sX_iload_n (i := 2) (by decide +kernel) rfl ?_
        refine sX_callVv (As := [.int v1, .long x3, .int v2]) (by decide +kernel) lm_X12_762 mf_X12_qTakes mi_X12_qTakes mc_12 (m_X12_qTakes G l v0 v1 x3 v2 M4) (fun _ h => sRc_some h) (by decide) rfl rfl (Nat.le_of_ble_eq_true rfl) (fun M5 => ?_)
        refine sX_iinc (i := 2) (n := 1) (v := v2 + (1 : Int32)) (ls2 := [some (.ref v0), some (.int v1), some (.int (v2 + (1 : Int32))), none]) (by decide +kernel) rfl rfl (by decide) rfl ?_
        refine sX_goto (o := -22) (t := 265) (by decide +kernel) (by decide) ?_
        exact sX_back (a := (((v2 + (1 : Int32))), M5)) hb1 rfl (sLe_s (sLe_s (sLe_s (sLe_n sLe_e))))
    exact fun a => xK265 a.1 a.2
  have xB258 : ∀ (v0 : Nat) (v1 : Int32) (M : sMem), sX G l 10 yX12_ask cX12_ask 4 (some .long) M0 r M' 258 [some (.ref v0), some (.int v1), none, none] [] M (f_X12_ask_B258 v0 v1 M) K := by
    intro v0 v1 M
    unfold f_X12_ask_B258
    refine sX_aload_n (i := 0) (by decide +kernel) rfl ?_
    refine sX_iconst (n := 3) (v := (3 : Int32)) (by decide +kernel) (by decide) ?_
    refine sX_putI lf_X12_358 tp_12_58 (by decide +kernel) (by decide) (fun M6 => ?_)
    refine sX_iconst (n := 0) (v := (0 : Int32)) (by decide +kernel) (by decide) ?_
    refine sX_istore_n (i := 2) (ls2 := [some (.ref v0), some (.int v1), some (.int (0 : Int32)), none]) (by decide +kernel) (by decide) rfl ?_
    exact sX.le (xL265 v0 v1 ((0 : Int32)) M6) (sLe_s (sLe_s (sLe_s (sLe_n sLe_e))))
  have xL187 : ∀ (v0 : Nat) (v1 : Int32) (v2 : Int32) (M : sMem), sX G l 10 yX12_ask cX12_ask 4 (some .long) M0 r M' 187 [some (.ref v0), some (.int v1), some (.int v2), none] [] M (f_X12_ask_L187 v0 v1 v2 M) K := by
    intro v0 v1 v2 M
    unfold f_X12_ask_L187
    refine sX_bind ?_
    refine sX_loop (LS := fun a : (Int32 × sMem) => [some (.ref v0), some (.int v1), some (.int a.1), none]) (MM := fun a => a.2) (fun K1 hb1 he1 => ?_) sFuel ((v2, M))
    have xB252 : ∀ (v2 : Int32) (M : sMem), sX G l 10 yX12_ask cX12_ask 4 (some .long) M0 r M' 252 [some (.ref v0), some (.int v1), some (.int v2), none] [] M (f_X12_ask_B252 v0 v1 v2 M) K1 := by
      intro v2 M
      unfold f_X12_ask_B252
      refine sX_iinc (i := 2) (n := 1) (v := v2 + (1 : Int32)) (ls2 := [some (.ref v0), some (.int v1), some (.int (v2 + (1 : Int32))), none]) (by decide +kernel) rfl rfl (by decide) rfl ?_
      refine sX_goto (o := -68) (t := 187) (by decide +kernel) (by decide) ?_
      exact sX_back (a := (((v2 + (1 : Int32))), M)) hb1 rfl (sLe_s (sLe_s (sLe_s (sLe_n sLe_e))))
    have xL208 : ∀ (v2 : Int32) (v3 : Int32) (M : sMem), sX G l 10 yX12_ask cX12_ask 4 (some .long) M0 r M' 208 [some (.ref v0), some (.int v1), some (.int v2), some (.int v3)] [] M (f_X12_ask_L208 v0 v1 v2 v3 M) K1 := by
      intro v2 v3 M
      unfold f_X12_ask_L208
      refine sX_bind ?_
      refine sX_loop (LS := fun a : (Int32 × sMem) => [some (.ref v0), some (.int v1), some (.int v2), some (.int a.1)]) (MM := fun a => a.2) (fun K2 hb2 he2 => ?_) sFuel ((v3, M))
      have xK208 : ∀ (v3 : Int32) (M : sMem), sX G l 10 yX12_ask cX12_ask 4 (some .long) M0 r M' 208 [some (.ref v0), some (.int v1), some (.int v2), some (.int v3)] [] M (f_X12_ask_K208 v0 v1 v2 v3 M) K2 := by
        intro v3 M
        unfold f_X12_ask_K208
        refine sX_iload_n (i := 3) (by decide +kernel) rfl ?_
        refine sX_aload_n (i := 0) (by decide +kernel) rfl ?_
        refine sX_callVp (As := []) (by decide +kernel) lm_X12_463 mf_X12_placeMany mi_X12_placeMany mc_12 (m_X12_placeMany G l v0 M) (fun _ h => sRc_some h) (by decide) rfl rfl (Nat.le_of_ble_eq_true rfl) (fun x7 => ?_)
        refine sX_icge (o := 39) (t := 252) (by decide +kernel) (by decide) (fun _ => ?_) (fun _ => ?_)
        · refine sX_exit he2 ?_
          exact sX.le (xB252 v2 M) (sLe_s (sLe_s (sLe_s (sLe_n sLe_e))))
        · refine sX_aload_n (i := 0) (by decide +kernel) rfl ?_
          refine sX_getR lf_X12_160 tk_12_67 (by decide +kernel) (fun x8 => ?_)
          refine sX_bipush (n := 7) (v := (7 : Int32)) (by decide +kernel) (by decide) ?_
          refine sX_iload_n (i := 2) (by decide +kernel) rfl ?_
          refine sX_imul (by decide +kernel) ?_
          refine sX_iload_n (i := 3) (by decide +kernel) rfl ?_
          refine sX_iadd (by decide +kernel) ?_
          refine sX_aload_n (i := 0) (by decide +kernel) rfl ?_
          refine sX_aload_n (i := 0) (by decide +kernel) rfl ?_
          refine sX_iload_n (i := 2) (by decide +kernel) rfl ?_
          refine sX_callVp (As := [.int v2]) (by decide +kernel) lm_X12_535 mf_X12_placeOf mi_X12_placeOf mc_12 (m_X12_placeOf G l v0 v2 M) (fun _ h => sRc_some h) (by decide) rfl rfl (Nat.le_of_ble_eq_true rfl) (fun x9 => ?_)
          refine sX_iload_n (i := 3) (by decide +kernel) rfl ?_
          refine sX_aload_n (i := 0) (by decide +kernel) rfl ?_
          refine sX_iload_n (i := 2) (by decide +kernel) rfl ?_
          refine sX_callVp (As := [.int v2]) (by decide +kernel) lm_X12_541 mf_X12_minuteOf mi_X12_minuteOf mc_12 (m_X12_minuteOf G l v0 v2 M) (fun _ h => sRc_some h) (by decide) rfl rfl (Nat.le_of_ble_eq_true rfl) (fun x10 => ?_)
          refine sX_aload_n (i := 0) (by decide +kernel) rfl ?_
          refine sX_callVp (As := []) (by decide +kernel) lm_X12_544 mf_X12_upSet mi_X12_upSet mc_12 (m_X12_upSet G l v0 M) (fun _ h => sRc_some h) (by decide) rfl rfl (Nat.le_of_ble_eq_true rfl) (fun x11 => ?_)
          refine sX_callV (As := [.int x9, .int v3, .int x10, .int x11]) (by decide +kernel) lm_X12_547 mf_X12_driveOf mi_X12_driveOf mc_12 (m_X12_driveOf G l v0 x9 v3 x10 x11 M) (fun _ h => sRc_some h) (by decide) rfl rfl (Nat.le_of_ble_eq_true rfl) (fun x12 M13 _ => ?_)
          refine sX_iastore (by decide +kernel) (by decide) (fun M14 => ?_)
          refine sX_iinc (i := 3) (n := 1) (v := v3 + (1 : Int32)) (ls2 := [some (.ref v0), some (.int v1), some (.int v2), some (.int (v3 + (1 : Int32)))]) (by decide +kernel) rfl rfl (by decide) rfl ?_
          refine sX_goto (o := -41) (t := 208) (by decide +kernel) (by decide) ?_
          exact sX_back (a := (((v3 + (1 : Int32))), M14)) hb2 rfl (sLe_s (sLe_s (sLe_s (sLe_s sLe_e))))
      exact fun a => xK208 a.1 a.2
    have xK187 : ∀ (v2 : Int32) (M : sMem), sX G l 10 yX12_ask cX12_ask 4 (some .long) M0 r M' 187 [some (.ref v0), some (.int v1), some (.int v2), none] [] M (f_X12_ask_K187 v0 v1 v2 M) K1 := by
      intro v2 M
      unfold f_X12_ask_K187
      refine sX_iload_n (i := 2) (by decide +kernel) rfl ?_
      refine sX_aload_n (i := 0) (by decide +kernel) rfl ?_
      refine sX_callVp (As := []) (by decide +kernel) lm_X12_469 mf_X12_carMany mi_X12_carMany mc_12 (m_X12_carMany G l v0 M) (fun _ h => sRc_some h) (by decide) rfl rfl (Nat.le_of_ble_eq_true rfl) (fun x15 => ?_)
      refine sX_icge (o := 66) (t := 258) (by decide +kernel) (by decide) (fun _ => ?_) (fun _ => ?_)
      · refine sX_exit he1 ?_
        exact sX.le (xB258 v0 v1 M) (sLe_s (sLe_s (sLe_n (sLe_n sLe_e))))
      · refine sX_aload_n (i := 0) (by decide +kernel) rfl ?_
        refine sX_getR lf_X12_157 tk_12_66 (by decide +kernel) (fun x16 => ?_)
        refine sX_iload_n (i := 2) (by decide +kernel) rfl ?_
        refine sX_aload_n (i := 0) (by decide +kernel) rfl ?_
        refine sX_iload_n (i := 2) (by decide +kernel) rfl ?_
        refine sX_callV (As := [.int v2]) (by decide +kernel) lm_X12_567 mf_X12_waitOf mi_X12_waitOf mc_12 (m_X12_waitOf G l v0 v2 M) (fun _ h => sRc_some h) (by decide) rfl rfl (Nat.le_of_ble_eq_true rfl) (fun x17 M18 _ => ?_)
        refine sX_iastore (by decide +kernel) (by decide) (fun M19 => ?_)
        refine sX_iconst (n := 0) (v := (0 : Int32)) (by decide +kernel) (by decide) ?_
        refine sX_istore_n (i := 3) (ls2 := [some (.ref v0), some (.int v1), some (.int v2), some (.int (0 : Int32))]) (by decide +kernel) (by decide) rfl ?_
        exact sX.le (xL208 v2 ((0 : Int32)) M19) (sLe_s (sLe_s (sLe_s (sLe_s sLe_e))))
    exact fun a => xK187 a.1 a.2
  have xB173 : ∀ (v0 : Nat) (v1 : Int32) (s0 : Nat) (s1 : Int64) (M : sMem), sX G l 10 yX12_ask cX12_ask 4 (some .long) M0 r M' 173 [some (.ref v0), some (.int v1), none, none] [.long s1, .ref s0] M (f_X12_ask_B173 v0 v1 s0 s1 M) K := by
    intro v0 v1 s0 s1 M
    unfold f_X12_ask_B173
    refine sX_putJ lf_X12_747 tp_12_123 (by decide +kernel) (by decide) (fun M20 => ?_)
    refine sX_aload_n (i := 0) (by decide +kernel) rfl ?_
    refine sX_iconst (n := 1) (v := (1 : Int32)) (by decide +kernel) (by decide) ?_
    refine sX_putZ lf_X12_750 tp_12_124 (by decide +kernel) (by decide) (fun M21 => ?_)
    refine sX_aload_n (i := 0) (by decide +kernel) rfl ?_
    refine sX_callVv (As := []) (by decide +kernel) lm_X12_564 mf_X12_laysShut mi_X12_laysShut mc_12 (m_X12_laysShut G l v0 M21) (fun _ h => sRc_some h) (by decide) rfl rfl (Nat.le_of_ble_eq_true rfl) (fun M22 => ?_)
    refine sX_iconst (n := 0) (v := (0 : Int32)) (by decide +kernel) (by decide) ?_
    refine sX_istore_n (i := 2) (ls2 := [some (.ref v0), some (.int v1), some (.int (0 : Int32)), none]) (by decide +kernel) (by decide) rfl ?_
    exact sX.le (xL187 v0 v1 ((0 : Int32)) M22) (sLe_s (sLe_s (sLe_s (sLe_n sLe_e))))
  have xB133 : ∀ (v0 : Nat) (v1 : Int32) (M : sMem), sX G l 10 yX12_ask cX12_ask 4 (some .long) M0 r M' 133 [some (.ref v0), some (.int v1), none, none] [] M (f_X12_ask_B133 v0 v1 M) K := by
    intro v0 v1 M
    unfold f_X12_ask_B133
    refine sX_aload_n (i := 0) (by decide +kernel) rfl ?_
    refine sX_aload_n (i := 0) (by decide +kernel) rfl ?_
    refine sX_getI lf_X12_300 tk_12_5 (by decide +kernel) (fun x23 => ?_)
    refine sX_putI lf_X12_444 tp_12_7 (by decide +kernel) (by decide) (fun M24 => ?_)
    refine sX_aload_n (i := 0) (by decide +kernel) rfl ?_
    refine sX_aload_n (i := 0) (by decide +kernel) rfl ?_
    refine sX_getI lf_X12_303 tk_12_6 (by decide +kernel) (fun x25 => ?_)
    refine sX_putI lf_X12_13 tp_12_8 (by decide +kernel) (by decide) (fun M26 => ?_)
    refine sX_aload_n (i := 0) (by decide +kernel) rfl ?_
    refine sX_getI lf_X12_300 tk_12_5 (by decide +kernel) (fun x27 => ?_)
    refine sX_ifeq (o := 7) (t := 160) (by decide +kernel) (by decide) (fun _ => ?_) (fun _ => ?_)
    · refine sX_aload_n (i := 0) (by decide +kernel) rfl ?_
      refine sX_iload_n (i := 1) (by decide +kernel) rfl ?_
      refine sX_iconst (n := 2) (v := (2 : Int32)) (by decide +kernel) (by decide) ?_
      refine sX_icge (o := 9) (t := 172) (by decide +kernel) (by decide) (fun _ => ?_) (fun _ => ?_)
      · refine sX_lconst (n := 0) (v := (0 : Int64)) (by decide +kernel) (by decide) ?_
        exact sX.le (xB173 v0 v1 v0 ((0 : Int64)) M26) (sLe_s (sLe_s (sLe_n (sLe_n sLe_e))))
      · refine sX_ldc2 (v := (-1 : Int64)) (by decide +kernel) kl_X12_741 ?_
        refine sX_goto (o := 4) (t := 173) (by decide +kernel) (by decide) ?_
        exact sX.le (xB173 v0 v1 v0 ((-1 : Int64)) M26) (sLe_s (sLe_s (sLe_n (sLe_n sLe_e))))
    · refine sX_ldc2 (v := (-1000000000000000 : Int64)) (by decide +kernel) kl_X12_753 ?_
      exact sX_some (fun h _ => sW_lret (by decide +kernel) rfl (hr _ h).1.symm (hr _ h).2.symm)
  have xB109 : ∀ (v0 : Nat) (v1 : Int32) (M : sMem), sX G l 10 yX12_ask cX12_ask 4 (some .long) M0 r M' 109 [some (.ref v0), some (.int v1), none, none] [] M (f_X12_ask_B109 v0 v1 M) K := by
    intro v0 v1 M
    unfold f_X12_ask_B109
    refine sX_aload_n (i := 0) (by decide +kernel) rfl ?_
    refine sX_getI lf_X12_300 tk_12_5 (by decide +kernel) (fun x28 => ?_)
    refine sX_ifne (o := 20) (t := 133) (by decide +kernel) (by decide) (fun _ => ?_) (fun _ => ?_)
    · refine sX_aload_n (i := 0) (by decide +kernel) rfl ?_
      refine sX_callV (As := []) (by decide +kernel) lm_X12_312 mf_X12_look mi_X12_look mc_12 (m_X12_look G l v0 M) (fun _ h => sRc_some h) (by decide) rfl rfl (Nat.le_of_ble_eq_true rfl) (fun x29 M30 _ => ?_)
      refine sX_iconst (n := -1) (v := (-1 : Int32)) (by decide +kernel) (by decide) ?_
      refine sX_iceq (o := 12) (t := 133) (by decide +kernel) (by decide) (fun _ => ?_) (fun _ => ?_)
      · exact sX.le (xB133 v0 v1 M30) (sLe_s (sLe_s (sLe_n (sLe_n sLe_e))))
      · refine sX_aload_n (i := 0) (by decide +kernel) rfl ?_
        refine sX_iconst (n := 1) (v := (1 : Int32)) (by decide +kernel) (by decide) ?_
        refine sX_aload_n (i := 0) (by decide +kernel) rfl ?_
        refine sX_getI lf_X12_306 tk_12_2 (by decide +kernel) (fun x31 => ?_)
        refine sX_callVv (As := [.int (1 : Int32), .int x31]) (by decide +kernel) lm_X12_330 mf_X12_fail mi_X12_fail mc_12 (m_X12_fail G l v0 ((1 : Int32)) x31 M30) (fun _ h => sRc_some h) (by decide) rfl rfl (Nat.le_of_ble_eq_true rfl) (fun M32 => ?_)
        exact sX.le (xB133 v0 v1 M32) (sLe_s (sLe_s (sLe_n (sLe_n sLe_e))))
    · exact sX.le (xB133 v0 v1 M) (sLe_s (sLe_s (sLe_n (sLe_n sLe_e))))
  have xB98 : ∀ (v0 : Nat) (v1 : Int32) (M : sMem), sX G l 10 yX12_ask cX12_ask 4 (some .long) M0 r M' 98 [some (.ref v0), some (.int v1), none, none] [] M (f_X12_ask_B98 v0 v1 M) K := by
    intro v0 v1 M
    unfold f_X12_ask_B98
    refine sX_aload_n (i := 0) (by decide +kernel) rfl ?_
    refine sX_getI lf_X12_300 tk_12_5 (by decide +kernel) (fun x33 => ?_)
    refine sX_ifne (o := 7) (t := 109) (by decide +kernel) (by decide) (fun _ => ?_) (fun _ => ?_)
    · refine sX_aload_n (i := 0) (by decide +kernel) rfl ?_
      refine sX_callVv (As := []) (by decide +kernel) lm_X12_410 mf_X12_qSums mi_X12_qSums mc_12 (m_X12_qSums G l v0 M) (fun _ h => sRc_some h) (by decide) rfl rfl (Nat.le_of_ble_eq_true rfl) (fun M34 => ?_)
      exact sX.le (xB109 v0 v1 M34) (sLe_s (sLe_s (sLe_n (sLe_n sLe_e))))
    · exact sX.le (xB109 v0 v1 M) (sLe_s (sLe_s (sLe_n (sLe_n sLe_e))))
  have xB79 : ∀ (v0 : Nat) (v1 : Int32) (M : sMem), sX G l 10 yX12_ask cX12_ask 4 (some .long) M0 r M' 79 [some (.ref v0), some (.int v1), none, none] [] M (f_X12_ask_B79 v0 v1 M) K := by
    intro v0 v1 M
    unfold f_X12_ask_B79
    refine sX_aload_n (i := 0) (by decide +kernel) rfl ?_
    refine sX_getI lf_X12_300 tk_12_5 (by decide +kernel) (fun x35 => ?_)
    refine sX_ifne (o := 15) (t := 98) (by decide +kernel) (by decide) (fun _ => ?_) (fun _ => ?_)
    · refine sX_iload_n (i := 1) (by decide +kernel) rfl ?_
      refine sX_iconst (n := 3) (v := (3 : Int32)) (by decide +kernel) (by decide) ?_
      refine sX_icge (o := 10) (t := 98) (by decide +kernel) (by decide) (fun _ => ?_) (fun _ => ?_)
      · exact sX.le (xB98 v0 v1 M) (sLe_s (sLe_s (sLe_n (sLe_n sLe_e))))
      · refine sX_aload_n (i := 0) (by decide +kernel) rfl ?_
        refine sX_callVv (As := []) (by decide +kernel) lm_X12_407 mf_X12_qTest mi_X12_qTest mc_12 (m_X12_qTest G l v0 M) (fun _ h => sRc_some h) (by decide) rfl rfl (Nat.le_of_ble_eq_true rfl) (fun M36 => ?_)
        refine sX_goto (o := 14) (t := 109) (by decide +kernel) (by decide) ?_
        exact sX.le (xB109 v0 v1 M36) (sLe_s (sLe_s (sLe_n (sLe_n sLe_e))))
    · exact sX.le (xB98 v0 v1 M) (sLe_s (sLe_s (sLe_n (sLe_n sLe_e))))
  refine sX_rc ?_
  refine sX_aload_n (i := 0) (by decide +kernel) rfl ?_
  refine sX_getI lf_X12_450 tk_12_57 (by decide +kernel) (fun x37 => ?_)
  refine sX_ifne (o := 12) (t := 16) (by decide +kernel) (by decide) (fun _ => ?_) (fun _ => ?_)
  · refine sX_aload_n (i := 0) (by decide +kernel) rfl ?_
    refine sX_iconst (n := 0) (v := (0 : Int32)) (by decide +kernel) (by decide) ?_
    refine sX_putI lf_X12_297 tp_12_1 (by decide +kernel) (by decide) (fun M38 => ?_)
    refine sX_ldc2 (v := (-1000000000000000 : Int64)) (by decide +kernel) kl_X12_753 ?_
    exact sX_some (fun h _ => sW_lret (by decide +kernel) rfl (hr _ h).1.symm (hr _ h).2.symm)
  · refine sX_aload_n (i := 0) (by decide +kernel) rfl ?_
    refine sX_aload_n (i := 0) (by decide +kernel) rfl ?_
    refine sX_getI lf_X12_297 tk_12_1 (by decide +kernel) (fun x39 => ?_)
    refine sX_putI lf_X12_309 tp_12_3 (by decide +kernel) (by decide) (fun M40 => ?_)
    refine sX_aload_n (i := 0) (by decide +kernel) rfl ?_
    refine sX_iconst (n := 0) (v := (0 : Int32)) (by decide +kernel) (by decide) ?_
    refine sX_putI lf_X12_297 tp_12_1 (by decide +kernel) (by decide) (fun M41 => ?_)
    refine sX_aload_n (i := 0) (by decide +kernel) rfl ?_
    refine sX_iconst (n := 0) (v := (0 : Int32)) (by decide +kernel) (by decide) ?_
    refine sX_putI lf_X12_306 tp_12_2 (by decide +kernel) (by decide) (fun M42 => ?_)
    refine sX_aload_n (i := 0) (by decide +kernel) rfl ?_
    refine sX_iconst (n := -1) (v := (-1 : Int32)) (by decide +kernel) (by decide) ?_
    refine sX_putI lf_X12_320 tp_12_4 (by decide +kernel) (by decide) (fun M43 => ?_)
    refine sX_aload_n (i := 0) (by decide +kernel) rfl ?_
    refine sX_iconst (n := 0) (v := (0 : Int32)) (by decide +kernel) (by decide) ?_
    refine sX_putI lf_X12_300 tp_12_5 (by decide +kernel) (by decide) (fun M44 => ?_)
    refine sX_aload_n (i := 0) (by decide +kernel) rfl ?_
    refine sX_iconst (n := -1) (v := (-1 : Int32)) (by decide +kernel) (by decide) ?_
    refine sX_putI lf_X12_303 tp_12_6 (by decide +kernel) (by decide) (fun M45 => ?_)
    refine sX_aload_n (i := 0) (by decide +kernel) rfl ?_
    refine sX_iconst (n := 3) (v := (3 : Int32)) (by decide +kernel) (by decide) ?_
    refine sX_putI lf_X12_358 tp_12_58 (by decide +kernel) (by decide) (fun M46 => ?_)
    refine sX_aload_n (i := 0) (by decide +kernel) rfl ?_
    refine sX_iconst (n := 0) (v := (0 : Int32)) (by decide +kernel) (by decide) ?_
    refine sX_putI lf_X12_395 tp_12_116 (by decide +kernel) (by decide) (fun M47 => ?_)
    refine sX_aload_n (i := 0) (by decide +kernel) rfl ?_
    refine sX_iconst (n := 0) (v := (0 : Int32)) (by decide +kernel) (by decide) ?_
    refine sX_putI lf_X12_398 tp_12_118 (by decide +kernel) (by decide) (fun M48 => ?_)
    refine sX_aload_n (i := 0) (by decide +kernel) rfl ?_
    refine sX_iconst (n := 0) (v := (0 : Int32)) (by decide +kernel) (by decide) ?_
    refine sX_putI lf_X12_401 tp_12_119 (by decide +kernel) (by decide) (fun M49 => ?_)
    refine sX_aload_n (i := 0) (by decide +kernel) rfl ?_
    refine sX_iconst (n := 0) (v := (0 : Int32)) (by decide +kernel) (by decide) ?_
    refine sX_putI lf_X12_404 tp_12_120 (by decide +kernel) (by decide) (fun M50 => ?_)
    refine sX_aload_n (i := 0) (by decide +kernel) rfl ?_
    refine sX_callV (As := []) (by decide +kernel) lm_X12_755 mf_X12_qKind mi_X12_qKind mc_12 (m_X12_qKind G l v0 M50) (fun _ h => sRc_some h) (by decide) rfl rfl (Nat.le_of_ble_eq_true rfl) (fun x51 M52 _ => ?_)
    refine sX_istore_n (i := 1) (ls2 := [some (.ref v0), some (.int x51), none, none]) (by decide +kernel) (by decide) rfl ?_
    exact sX.le (xB79 v0 x51 M52) (sLe_s (sLe_s (sLe_n (sLe_n sLe_e))))
def f_X12_checked_K6 (v0 : Nat) (v1 : Int32) (v2 : Int32) (v3 : Int32) (M0 : sMem) : Option ((Int32 × Int32) ⊕ ((Int32))) :=
  if v1 ≤ v3 then
    some (.inr v2)
  else
    (ldI 14 M0 v0 v3).bind fun x1 =>
    some (.inl (((((((3 : Int32) * v2) + x1) - (((3 : Int32) * v2) + x1) / (251 : Int32) * (251 : Int32))), ((v3 + (1 : Int32))))))
def f_X12_checked_L6 (v0 : Nat) (v1 : Int32) (v2 : Int32) (v3 : Int32) (M0 : sMem) : Option Int32 :=
  (sItr (fun a : (Int32 × Int32) => f_X12_checked_K6 v0 v1 a.1 a.2 M0) sFuel (v2, v3)).bind (fun b => some b)
def f_X12_checked (v0 : Nat) (v1 : Int32) (M0 : sMem) : Option Int32 :=
  f_X12_checked_L6 v0 v1 ((229 : Int32)) ((0 : Int32)) M0
set_option maxRecDepth 100000 in
set_option maxHeartbeats 4000000 in
theorem m_X12_checked (G : sG) (l : Launch) (v0 : Nat) (v1 : Int32) (M0 : sMem) : sCp G l 1 yX12_checked cX12_checked 4 (some .int) [.ref v0, .int v1] M0 rvI (f_X12_checked v0 v1 M0) := by
  refine sC_p (ls := [some (.ref v0), some (.int v1), none, none]) (by decide +kernel) rfl (Nat.le_of_ble_eq_true rfl) (fun r M' K hr => ?_)
  unfold f_X12_checked
  have xL6 : ∀ (v0 : Nat) (v1 : Int32) (v2 : Int32) (v3 : Int32), sX G l 1 yX12_checked cX12_checked 4 (some .int) M0 r M' 6 [some (.ref v0), some (.int v1), some (.int v2), some (.int v3)] [] M0 (f_X12_checked_L6 v0 v1 v2 v3 M0) K := by
    intro v0 v1 v2 v3
    unfold f_X12_checked_L6
    refine sX_bind ?_
    refine sX_loop (LS := fun a : (Int32 × Int32) => [some (.ref v0), some (.int v1), some (.int a.1), some (.int a.2)]) (MM := fun a => M0) (fun K1 hb1 he1 => ?_) sFuel ((v2, v3))
    have xK6 : ∀ (v2 : Int32) (v3 : Int32), sX G l 1 yX12_checked cX12_checked 4 (some .int) M0 r M' 6 [some (.ref v0), some (.int v1), some (.int v2), some (.int v3)] [] M0 (f_X12_checked_K6 v0 v1 v2 v3 M0) K1 := by
      intro v2 v3
      unfold f_X12_checked_K6
      refine sX_iload_n (i := 3) (by decide +kernel) rfl ?_
      refine sX_iload_n (i := 1) (by decide +kernel) rfl ?_
      refine sX_icge (o := 21) (t := 29) (by decide +kernel) (by decide) (fun _ => ?_) (fun _ => ?_)
      · refine sX_iload_n (i := 2) (by decide +kernel) rfl ?_
        refine sX_exit he1 ?_
        exact sX_some (fun h _ => sW_iret (by decide +kernel) rfl (hr _ h).1.symm (hr _ h).2.symm)
      · refine sX_iconst (n := 3) (v := (3 : Int32)) (by decide +kernel) (by decide) ?_
        refine sX_iload_n (i := 2) (by decide +kernel) rfl ?_
        refine sX_imul (by decide +kernel) ?_
        refine sX_aload_n (i := 0) (by decide +kernel) rfl ?_
        refine sX_iload_n (i := 3) (by decide +kernel) rfl ?_
        refine sX_iaload (by decide +kernel) (fun x1 => ?_)
        refine sX_iadd (by decide +kernel) ?_
        refine sX_sipush (n := 251) (v := (251 : Int32)) (by decide +kernel) (by decide) ?_
        refine sX_irem (by decide +kernel) (by decide) ?_
        refine sX_istore_n (i := 2) (ls2 := [some (.ref v0), some (.int v1), some (.int ((((3 : Int32) * v2) + x1) - (((3 : Int32) * v2) + x1) / (251 : Int32) * (251 : Int32))), some (.int v3)]) (by decide +kernel) (by decide) rfl ?_
        refine sX_iinc (i := 3) (n := 1) (v := v3 + (1 : Int32)) (ls2 := [some (.ref v0), some (.int v1), some (.int ((((3 : Int32) * v2) + x1) - (((3 : Int32) * v2) + x1) / (251 : Int32) * (251 : Int32))), some (.int (v3 + (1 : Int32)))]) (by decide +kernel) rfl rfl (by decide) rfl ?_
        refine sX_goto (o := -20) (t := 6) (by decide +kernel) (by decide) ?_
        exact sX_back (a := ((((((3 : Int32) * v2) + x1) - (((3 : Int32) * v2) + x1) / (251 : Int32) * (251 : Int32))), ((v3 + (1 : Int32))))) hb1 rfl (sLe_s (sLe_s (sLe_s (sLe_s sLe_e))))
    exact fun a => xK6 a.1 a.2
  refine sX_sipush (n := 229) (v := (229 : Int32)) (by decide +kernel) (by decide) ?_
  refine sX_istore_n (i := 2) (ls2 := [some (.ref v0), some (.int v1), some (.int (229 : Int32)), none]) (by decide +kernel) (by decide) rfl ?_
  refine sX_iconst (n := 0) (v := (0 : Int32)) (by decide +kernel) (by decide) ?_
  refine sX_istore_n (i := 3) (ls2 := [some (.ref v0), some (.int v1), some (.int (229 : Int32)), some (.int (0 : Int32))]) (by decide +kernel) (by decide) rfl ?_
  exact sX.le (xL6 v0 v1 ((229 : Int32)) ((0 : Int32))) (sLe_s (sLe_s (sLe_s (sLe_s sLe_e))))
def f_X12_writes (v0 : Nat) (v1 : Int32) (M0 : sMem) : Option sMem :=
  sRc 12 127 M0 v0 (
    (gR 12 127 125 M0 v0).bind fun x1 =>
    (gI 12 127 126 M0 v0).bind fun x2 =>
    (stI M0 x1 x2 v1).bind fun M3 =>
    (gI 12 127 126 M3 v0).bind fun x4 =>
    (pI 12 127 126 M3 v0 ((x4 + (1 : Int32)))).bind fun M5 =>
    some M5)
set_option maxRecDepth 100000 in
set_option maxHeartbeats 4000000 in
theorem m_X12_writes (G : sG) (l : Launch) (v0 : Nat) (v1 : Int32) (M0 : sMem) : sCv G l 1 yX12_writes cX12_writes 2 none [.ref v0, .int v1] M0 (f_X12_writes v0 v1 M0) := by
  refine sC_v (ls := [some (.ref v0), some (.int v1)]) (by decide +kernel) rfl (Nat.le_of_ble_eq_true rfl) (fun r M' K hr => ?_)
  unfold f_X12_writes
  refine sX_rc ?_
  refine sX_aload_n (i := 0) (by decide +kernel) rfl ?_
  refine sX_getR lf_X12_294 tk_12_125 (by decide +kernel) (fun x1 => ?_)
  refine sX_aload_n (i := 0) (by decide +kernel) rfl ?_
  refine sX_getI lf_X12_766 tk_12_126 (by decide +kernel) (fun x2 => ?_)
  refine sX_iload_n (i := 1) (by decide +kernel) rfl ?_
  refine sX_iastore (by decide +kernel) (by decide) (fun M3 => ?_)
  refine sX_aload_n (i := 0) (by decide +kernel) rfl ?_
  refine sX_dup (by decide +kernel) rfl ?_
  refine sX_getI lf_X12_766 tk_12_126 (by decide +kernel) (fun x4 => ?_)
  refine sX_iconst (n := 1) (v := (1 : Int32)) (by decide +kernel) (by decide) ?_
  refine sX_iadd (by decide +kernel) ?_
  refine sX_putI lf_X12_766 tp_12_126 (by decide +kernel) (by decide) (fun M5 => ?_)
  exact sX_some (fun h _ => sW_vret (by decide +kernel) rfl (hr _ h).1.symm (hr _ h).2.symm)
def f_X12_writesTwo (v0 : Nat) (v1 : Int32) (M0 : sMem) : Option sMem :=
  sRc 12 127 M0 v0 (
    (f_X12_writes v0 ((v1 / (256 : Int32))) M0).bind fun M1 =>
    (f_X12_writes v0 ((v1 - v1 / (256 : Int32) * (256 : Int32))) M1).bind fun M2 =>
    some M2)
set_option maxRecDepth 100000 in
set_option maxHeartbeats 4000000 in
theorem m_X12_writesTwo (G : sG) (l : Launch) (v0 : Nat) (v1 : Int32) (M0 : sMem) : sCv G l 2 yX12_writesTwo cX12_writesTwo 2 none [.ref v0, .int v1] M0 (f_X12_writesTwo v0 v1 M0) := by
  refine sC_v (ls := [some (.ref v0), some (.int v1)]) (by decide +kernel) rfl (Nat.le_of_ble_eq_true rfl) (fun r M' K hr => ?_)
  unfold f_X12_writesTwo
  refine sX_rc ?_
  refine sX_aload_n (i := 0) (by decide +kernel) rfl ?_
  refine sX_iload_n (i := 1) (by decide +kernel) rfl ?_
  refine sX_sipush (n := 256) (v := (256 : Int32)) (by decide +kernel) (by decide) ?_
  refine sX_idiv (by decide +kernel) (by decide) ?_
  refine sX_callVv (As := [.int (v1 / (256 : Int32))]) (by decide +kernel) lm_X12_769 mf_X12_writes mi_X12_writes mc_12 (m_X12_writes G l v0 ((v1 / (256 : Int32))) M0) (fun _ h => sRc_some h) (by decide) rfl rfl (Nat.le_of_ble_eq_true rfl) (fun M1 => ?_)
  refine sX_aload_n (i := 0) (by decide +kernel) rfl ?_
  refine sX_iload_n (i := 1) (by decide +kernel) rfl ?_
  refine sX_sipush (n := 256) (v := (256 : Int32)) (by decide +kernel) (by decide) ?_
  refine sX_irem (by decide +kernel) (by decide) ?_
  refine sX_callVv (As := [.int (v1 - v1 / (256 : Int32) * (256 : Int32))]) (by decide +kernel) lm_X12_769 mf_X12_writes mi_X12_writes mc_12 (m_X12_writes G l v0 ((v1 - v1 / (256 : Int32) * (256 : Int32))) M1) (fun _ h => sRc_some h) (by decide) rfl rfl (Nat.le_of_ble_eq_true rfl) (fun M2 => ?_)
  exact sX_some (fun h _ => sW_vret (by decide +kernel) rfl (hr _ h).1.symm (hr _ h).2.symm)
def f_X12_image_B111 (v0 : Nat) (M : sMem) : Option (Int32 × sMem) :=
  (gR 12 127 125 M v0).bind fun x1 =>
  (gI 12 127 126 M v0).bind fun x2 =>
  (f_X12_checked x1 x2 M).bind fun x3 =>
  (f_X12_writes v0 x3 M).bind fun M4 =>
  (gI 12 127 126 M4 v0).bind fun x5 =>
  some ((x5, M4))
def f_X12_image_K70 (v0 : Nat) (v1 : Int32) (M : sMem) : Option ((Int32 × sMem) ⊕ ((sMem))) :=
  (f_X12_carMany v0 M).bind fun x6 =>
  if x6 ≤ v1 then
    some (.inr M)
  else
    (f_X12_placeOf v0 v1 M).bind fun x7 =>
    (f_X12_writes v0 x7 M).bind fun M8 =>
    (f_X12_goalOf v0 v1 M8).bind fun x9 =>
    (f_X12_writes v0 x9 M8).bind fun M10 =>
    (f_X12_knowsOf v0 v1 M10).bind fun x11 =>
    (f_X12_writesTwo v0 x11 M10).bind fun M12 =>
    some (.inl ((((v1 + (1 : Int32))), M12)))
def f_X12_image_L70 (v0 : Nat) (v1 : Int32) (M : sMem) : Option (Int32 × sMem) :=
  (sItr (fun a : (Int32 × sMem) => f_X12_image_K70 v0 a.1 a.2) sFuel (v1, M)).bind (fun b => f_X12_image_B111 v0 b)
def f_X12_image_B68 (v0 : Nat) (M : sMem) : Option (Int32 × sMem) :=
  f_X12_image_L70 v0 ((0 : Int32)) M
def f_X12_image_K45 (v0 : Nat) (v1 : Int32) (M : sMem) : Option ((Int32 × sMem) ⊕ ((sMem))) :=
  (f_X12_eraMany v0 M).bind fun x13 =>
  if x13 ≤ v1 then
    some (.inr M)
  else
    (f_X12_lateOf v0 v1 M).bind fun x14 =>
    (f_X12_writes v0 x14 M).bind fun M15 =>
    some (.inl ((((v1 + (1 : Int32))), M15)))
def f_X12_image_L45 (v0 : Nat) (v1 : Int32) (M : sMem) : Option (Int32 × sMem) :=
  (sItr (fun a : (Int32 × sMem) => f_X12_image_K45 v0 a.1 a.2) sFuel (v1, M)).bind (fun b => f_X12_image_B68 v0 b)
def f_X12_image_B43 (v0 : Nat) (M : sMem) : Option (Int32 × sMem) :=
  f_X12_image_L45 v0 ((0 : Int32)) M
def f_X12_image_K17 (v0 : Nat) (v1 : Int32) (M : sMem) : Option ((Int32 × sMem) ⊕ ((sMem))) :=
  (f_X12_gateMany v0 M).bind fun x16 =>
  if x16 ≤ v1 then
    some (.inr M)
  else
    (gR 12 127 59 M v0).bind fun x17 =>
    (ldI 14 M x17 (((1 : Int32) + v1))).bind fun x18 =>
    (f_X12_writes v0 x18 M).bind fun M19 =>
    some (.inl ((((v1 + (1 : Int32))), M19)))
def f_X12_image_L17 (v0 : Nat) (v1 : Int32) (M : sMem) : Option (Int32 × sMem) :=
  (sItr (fun a : (Int32 × sMem) => f_X12_image_K17 v0 a.1 a.2) sFuel (v1, M)).bind (fun b => f_X12_image_B43 v0 b)
def f_X12_image (v0 : Nat) (M0 : sMem) : Option (Int32 × sMem) :=
  sRc 12 127 M0 v0 (
    (pI 12 127 126 M0 v0 ((0 : Int32))).bind fun M20 =>
    (gR 12 127 59 M20 v0).bind fun x21 =>
    (ldI 14 M20 x21 ((0 : Int32))).bind fun x22 =>
    (f_X12_writesTwo v0 x22 M20).bind fun M23 =>
    f_X12_image_L17 v0 ((0 : Int32)) M23)
set_option maxRecDepth 100000 in
set_option maxHeartbeats 4000000 in
theorem m_X12_image (G : sG) (l : Launch) (v0 : Nat) (M0 : sMem) : sC G l 3 yX12_image cX12_image 2 (some .int) [.ref v0] M0 rvI (f_X12_image v0 M0) := by
  refine sC_m (ls := [some (.ref v0), none]) (by decide +kernel) rfl (Nat.le_of_ble_eq_true rfl) (fun r M' K hr => ?_)
  unfold f_X12_image
  have xB111 : ∀ (v0 : Nat) (M : sMem), sX G l 3 yX12_image cX12_image 2 (some .int) M0 r M' 111 [some (.ref v0), none] [] M (f_X12_image_B111 v0 M) K := by
    intro v0 M
    unfold f_X12_image_B111
    refine sX_aload_n (i := 0) (by decide +kernel) rfl ?_
    refine sX_aload_n (i := 0) (by decide +kernel) rfl ?_
    refine sX_getR lf_X12_294 tk_12_125 (by decide +kernel) (fun x1 => ?_)
    refine sX_aload_n (i := 0) (by decide +kernel) rfl ?_
    refine sX_getI lf_X12_766 tk_12_126 (by decide +kernel) (fun x2 => ?_)
    refine sX_callSp (As := [.ref x1, .int x2]) (by decide +kernel) lm_X12_775 mf_X12_checked ms_X12_checked (m_X12_checked G l x1 x2 M) (by decide) rfl rfl (Nat.le_of_ble_eq_true rfl) (fun x3 => ?_)
    refine sX_callVv (As := [.int x3]) (by decide +kernel) lm_X12_769 mf_X12_writes mi_X12_writes mc_12 (m_X12_writes G l v0 x3 M) (fun _ h => sRc_some h) (by decide) rfl rfl (Nat.le_of_ble_eq_true rfl) (fun M4 => ?_)
    refine sX_aload_n (i := 0) (by decide +kernel) rfl ?_
    refine sX_getI lf_X12_766 tk_12_126 (by decide +kernel) (fun x5 => ?_)
    exact sX_some (fun h _ => sW_iret (by decide +kernel) rfl (hr _ h).1.symm (hr _ h).2.symm)
  have xL70 : ∀ (v0 : Nat) (v1 : Int32) (M : sMem), sX G l 3 yX12_image cX12_image 2 (some .int) M0 r M' 70 [some (.ref v0), some (.int v1)] [] M (f_X12_image_L70 v0 v1 M) K := by
    intro v0 v1 M
    unfold f_X12_image_L70
    refine sX_bind ?_
    refine sX_loop (LS := fun a : (Int32 × sMem) => [some (.ref v0), some (.int a.1)]) (MM := fun a => a.2) (fun K1 hb1 he1 => ?_) sFuel ((v1, M))
    have xK70 : ∀ (v1 : Int32) (M : sMem), sX G l 3 yX12_image cX12_image 2 (some .int) M0 r M' 70 [some (.ref v0), some (.int v1)] [] M (f_X12_image_K70 v0 v1 M) K1 := by
      intro v1 M
      unfold f_X12_image_K70
      refine sX_iload_n (i := 1) (by decide +kernel) rfl ?_
      refine sX_aload_n (i := 0) (by decide +kernel) rfl ?_
      refine sX_callVp (As := []) (by decide +kernel) lm_X12_469 mf_X12_carMany mi_X12_carMany mc_12 (m_X12_carMany G l v0 M) (fun _ h => sRc_some h) (by decide) rfl rfl (Nat.le_of_ble_eq_true rfl) (fun x6 => ?_)
      refine sX_icge (o := 36) (t := 111) (by decide +kernel) (by decide) (fun _ => ?_) (fun _ => ?_)
      · refine sX_exit he1 ?_
        exact sX.le (xB111 v0 M) (sLe_s (sLe_n sLe_e))
      · refine sX_aload_n (i := 0) (by decide +kernel) rfl ?_
        refine sX_aload_n (i := 0) (by decide +kernel) rfl ?_
        refine sX_iload_n (i := 1) (by decide +kernel) rfl ?_
        refine sX_callVp (As := [.int v1]) (by decide +kernel) lm_X12_535 mf_X12_placeOf mi_X12_placeOf mc_12 (m_X12_placeOf G l v0 v1 M) (fun _ h => sRc_some h) (by decide) rfl rfl (Nat.le_of_ble_eq_true rfl) (fun x7 => ?_)
        refine sX_callVv (As := [.int x7]) (by decide +kernel) lm_X12_769 mf_X12_writes mi_X12_writes mc_12 (m_X12_writes G l v0 x7 M) (fun _ h => sRc_some h) (by decide) rfl rfl (Nat.le_of_ble_eq_true rfl) (fun M8 => ?_)
        refine sX_aload_n (i := 0) (by decide +kernel) rfl ?_
        refine sX_aload_n (i := 0) (by decide +kernel) rfl ?_
        refine sX_iload_n (i := 1) (by decide +kernel) rfl ?_
        refine sX_callVp (As := [.int v1]) (by decide +kernel) lm_X12_538 mf_X12_goalOf mi_X12_goalOf mc_12 (m_X12_goalOf G l v0 v1 M8) (fun _ h => sRc_some h) (by decide) rfl rfl (Nat.le_of_ble_eq_true rfl) (fun x9 => ?_)
        refine sX_callVv (As := [.int x9]) (by decide +kernel) lm_X12_769 mf_X12_writes mi_X12_writes mc_12 (m_X12_writes G l v0 x9 M8) (fun _ h => sRc_some h) (by decide) rfl rfl (Nat.le_of_ble_eq_true rfl) (fun M10 => ?_)
        refine sX_aload_n (i := 0) (by decide +kernel) rfl ?_
        refine sX_aload_n (i := 0) (by decide +kernel) rfl ?_
        refine sX_iload_n (i := 1) (by decide +kernel) rfl ?_
        refine sX_callVp (As := [.int v1]) (by decide +kernel) lm_X12_557 mf_X12_knowsOf mi_X12_knowsOf mc_12 (m_X12_knowsOf G l v0 v1 M10) (fun _ h => sRc_some h) (by decide) rfl rfl (Nat.le_of_ble_eq_true rfl) (fun x11 => ?_)
        refine sX_callVv (As := [.int x11]) (by decide +kernel) lm_X12_772 mf_X12_writesTwo mi_X12_writesTwo mc_12 (m_X12_writesTwo G l v0 x11 M10) (fun _ h => sRc_some h) (by decide) rfl rfl (Nat.le_of_ble_eq_true rfl) (fun M12 => ?_)
        refine sX_iinc (i := 1) (n := 1) (v := v1 + (1 : Int32)) (ls2 := [some (.ref v0), some (.int (v1 + (1 : Int32)))]) (by decide +kernel) rfl rfl (by decide) rfl ?_
        refine sX_goto (o := -38) (t := 70) (by decide +kernel) (by decide) ?_
        exact sX_back (a := (((v1 + (1 : Int32))), M12)) hb1 rfl (sLe_s (sLe_s sLe_e))
    exact fun a => xK70 a.1 a.2
  have xB68 : ∀ (v0 : Nat) (M : sMem), sX G l 3 yX12_image cX12_image 2 (some .int) M0 r M' 68 [some (.ref v0), none] [] M (f_X12_image_B68 v0 M) K := by
    intro v0 M
    unfold f_X12_image_B68
    refine sX_iconst (n := 0) (v := (0 : Int32)) (by decide +kernel) (by decide) ?_
    refine sX_istore_n (i := 1) (ls2 := [some (.ref v0), some (.int (0 : Int32))]) (by decide +kernel) (by decide) rfl ?_
    exact sX.le (xL70 v0 ((0 : Int32)) M) (sLe_s (sLe_s sLe_e))
  have xL45 : ∀ (v0 : Nat) (v1 : Int32) (M : sMem), sX G l 3 yX12_image cX12_image 2 (some .int) M0 r M' 45 [some (.ref v0), some (.int v1)] [] M (f_X12_image_L45 v0 v1 M) K := by
    intro v0 v1 M
    unfold f_X12_image_L45
    refine sX_bind ?_
    refine sX_loop (LS := fun a : (Int32 × sMem) => [some (.ref v0), some (.int a.1)]) (MM := fun a => a.2) (fun K1 hb1 he1 => ?_) sFuel ((v1, M))
    have xK45 : ∀ (v1 : Int32) (M : sMem), sX G l 3 yX12_image cX12_image 2 (some .int) M0 r M' 45 [some (.ref v0), some (.int v1)] [] M (f_X12_image_K45 v0 v1 M) K1 := by
      intro v1 M
      unfold f_X12_image_K45
      refine sX_iload_n (i := 1) (by decide +kernel) rfl ?_
      refine sX_aload_n (i := 0) (by decide +kernel) rfl ?_
      refine sX_callVp (As := []) (by decide +kernel) lm_X12_466 mf_X12_eraMany mi_X12_eraMany mc_12 (m_X12_eraMany G l v0 M) (fun _ h => sRc_some h) (by decide) rfl rfl (Nat.le_of_ble_eq_true rfl) (fun x13 => ?_)
      refine sX_icge (o := 18) (t := 68) (by decide +kernel) (by decide) (fun _ => ?_) (fun _ => ?_)
      · refine sX_exit he1 ?_
        exact sX.le (xB68 v0 M) (sLe_s (sLe_n sLe_e))
      · refine sX_aload_n (i := 0) (by decide +kernel) rfl ?_
        refine sX_aload_n (i := 0) (by decide +kernel) rfl ?_
        refine sX_iload_n (i := 1) (by decide +kernel) rfl ?_
        refine sX_callVp (As := [.int v1]) (by decide +kernel) lm_X12_515 mf_X12_lateOf mi_X12_lateOf mc_12 (m_X12_lateOf G l v0 v1 M) (fun _ h => sRc_some h) (by decide) rfl rfl (Nat.le_of_ble_eq_true rfl) (fun x14 => ?_)
        refine sX_callVv (As := [.int x14]) (by decide +kernel) lm_X12_769 mf_X12_writes mi_X12_writes mc_12 (m_X12_writes G l v0 x14 M) (fun _ h => sRc_some h) (by decide) rfl rfl (Nat.le_of_ble_eq_true rfl) (fun M15 => ?_)
        refine sX_iinc (i := 1) (n := 1) (v := v1 + (1 : Int32)) (ls2 := [some (.ref v0), some (.int (v1 + (1 : Int32)))]) (by decide +kernel) rfl rfl (by decide) rfl ?_
        refine sX_goto (o := -20) (t := 45) (by decide +kernel) (by decide) ?_
        exact sX_back (a := (((v1 + (1 : Int32))), M15)) hb1 rfl (sLe_s (sLe_s sLe_e))
    exact fun a => xK45 a.1 a.2
  have xB43 : ∀ (v0 : Nat) (M : sMem), sX G l 3 yX12_image cX12_image 2 (some .int) M0 r M' 43 [some (.ref v0), none] [] M (f_X12_image_B43 v0 M) K := by
    intro v0 M
    unfold f_X12_image_B43
    refine sX_iconst (n := 0) (v := (0 : Int32)) (by decide +kernel) (by decide) ?_
    refine sX_istore_n (i := 1) (ls2 := [some (.ref v0), some (.int (0 : Int32))]) (by decide +kernel) (by decide) rfl ?_
    exact sX.le (xL45 v0 ((0 : Int32)) M) (sLe_s (sLe_s sLe_e))
  have xL17 : ∀ (v0 : Nat) (v1 : Int32) (M : sMem), sX G l 3 yX12_image cX12_image 2 (some .int) M0 r M' 17 [some (.ref v0), some (.int v1)] [] M (f_X12_image_L17 v0 v1 M) K := by
    intro v0 v1 M
    unfold f_X12_image_L17
    refine sX_bind ?_
    refine sX_loop (LS := fun a : (Int32 × sMem) => [some (.ref v0), some (.int a.1)]) (MM := fun a => a.2) (fun K1 hb1 he1 => ?_) sFuel ((v1, M))
    have xK17 : ∀ (v1 : Int32) (M : sMem), sX G l 3 yX12_image cX12_image 2 (some .int) M0 r M' 17 [some (.ref v0), some (.int v1)] [] M (f_X12_image_K17 v0 v1 M) K1 := by
      intro v1 M
      unfold f_X12_image_K17
      refine sX_iload_n (i := 1) (by decide +kernel) rfl ?_
      refine sX_aload_n (i := 0) (by decide +kernel) rfl ?_
      refine sX_callVp (As := []) (by decide +kernel) lm_X12_460 mf_X12_gateMany mi_X12_gateMany mc_12 (m_X12_gateMany G l v0 M) (fun _ h => sRc_some h) (by decide) rfl rfl (Nat.le_of_ble_eq_true rfl) (fun x16 => ?_)
      refine sX_icge (o := 21) (t := 43) (by decide +kernel) (by decide) (fun _ => ?_) (fun _ => ?_)
      · refine sX_exit he1 ?_
        exact sX.le (xB43 v0 M) (sLe_s (sLe_n sLe_e))
      · refine sX_aload_n (i := 0) (by decide +kernel) rfl ?_
        refine sX_aload_n (i := 0) (by decide +kernel) rfl ?_
        refine sX_getR lf_X12_151 tk_12_59 (by decide +kernel) (fun x17 => ?_)
        refine sX_iconst (n := 1) (v := (1 : Int32)) (by decide +kernel) (by decide) ?_
        refine sX_iload_n (i := 1) (by decide +kernel) rfl ?_
        refine sX_iadd (by decide +kernel) ?_
        refine sX_iaload (by decide +kernel) (fun x18 => ?_)
        refine sX_callVv (As := [.int x18]) (by decide +kernel) lm_X12_769 mf_X12_writes mi_X12_writes mc_12 (m_X12_writes G l v0 x18 M) (fun _ h => sRc_some h) (by decide) rfl rfl (Nat.le_of_ble_eq_true rfl) (fun M19 => ?_)
        refine sX_iinc (i := 1) (n := 1) (v := v1 + (1 : Int32)) (ls2 := [some (.ref v0), some (.int (v1 + (1 : Int32)))]) (by decide +kernel) rfl rfl (by decide) rfl ?_
        refine sX_goto (o := -23) (t := 17) (by decide +kernel) (by decide) ?_
        exact sX_back (a := (((v1 + (1 : Int32))), M19)) hb1 rfl (sLe_s (sLe_s sLe_e))
    exact fun a => xK17 a.1 a.2
  refine sX_rc ?_
  refine sX_aload_n (i := 0) (by decide +kernel) rfl ?_
  refine sX_iconst (n := 0) (v := (0 : Int32)) (by decide +kernel) (by decide) ?_
  refine sX_putI lf_X12_766 tp_12_126 (by decide +kernel) (by decide) (fun M20 => ?_)
  refine sX_aload_n (i := 0) (by decide +kernel) rfl ?_
  refine sX_aload_n (i := 0) (by decide +kernel) rfl ?_
  refine sX_getR lf_X12_151 tk_12_59 (by decide +kernel) (fun x21 => ?_)
  refine sX_iconst (n := 0) (v := (0 : Int32)) (by decide +kernel) (by decide) ?_
  refine sX_iaload (by decide +kernel) (fun x22 => ?_)
  refine sX_callVv (As := [.int x22]) (by decide +kernel) lm_X12_772 mf_X12_writesTwo mi_X12_writesTwo mc_12 (m_X12_writesTwo G l v0 x22 M20) (fun _ h => sRc_some h) (by decide) rfl rfl (Nat.le_of_ble_eq_true rfl) (fun M23 => ?_)
  refine sX_iconst (n := 0) (v := (0 : Int32)) (by decide +kernel) (by decide) ?_
  refine sX_istore_n (i := 1) (ls2 := [some (.ref v0), some (.int (0 : Int32))]) (by decide +kernel) (by decide) rfl ?_
  exact sX.le (xL17 v0 ((0 : Int32)) M23) (sLe_s (sLe_s sLe_e))
def f_X12_octet (v0 : Nat) (v1 : Int32) (M0 : sMem) : Option Int32 :=
  sRc 12 127 M0 v0 (
    if v1 < 0 then
      some ((-1 : Int32))
    else
      (gI 12 127 126 M0 v0).bind fun x1 =>
      if x1 ≤ v1 then
        some ((-1 : Int32))
      else
        (gR 12 127 125 M0 v0).bind fun x2 =>
        (ldI 14 M0 x2 v1).bind fun x3 =>
        some x3)
set_option maxRecDepth 100000 in
set_option maxHeartbeats 4000000 in
theorem m_X12_octet (G : sG) (l : Launch) (v0 : Nat) (v1 : Int32) (M0 : sMem) : sCp G l 1 yX12_octet cX12_octet 2 (some .int) [.ref v0, .int v1] M0 rvI (f_X12_octet v0 v1 M0) := by
  refine sC_p (ls := [some (.ref v0), some (.int v1)]) (by decide +kernel) rfl (Nat.le_of_ble_eq_true rfl) (fun r M' K hr => ?_)
  unfold f_X12_octet
  refine sX_rc ?_
  refine sX_iload_n (i := 1) (by decide +kernel) rfl ?_
  refine sX_iflt (o := 20) (t := 21) (by decide +kernel) (by decide) (fun _ => ?_) (fun _ => ?_)
  · refine sX_iconst (n := -1) (v := (-1 : Int32)) (by decide +kernel) (by decide) ?_
    exact sX_some (fun h _ => sW_iret (by decide +kernel) rfl (hr _ h).1.symm (hr _ h).2.symm)
  · refine sX_iload_n (i := 1) (by decide +kernel) rfl ?_
    refine sX_aload_n (i := 0) (by decide +kernel) rfl ?_
    refine sX_getI lf_X12_766 tk_12_126 (by decide +kernel) (fun x1 => ?_)
    refine sX_icge (o := 12) (t := 21) (by decide +kernel) (by decide) (fun _ => ?_) (fun _ => ?_)
    · refine sX_iconst (n := -1) (v := (-1 : Int32)) (by decide +kernel) (by decide) ?_
      exact sX_some (fun h _ => sW_iret (by decide +kernel) rfl (hr _ h).1.symm (hr _ h).2.symm)
    · refine sX_aload_n (i := 0) (by decide +kernel) rfl ?_
      refine sX_getR lf_X12_294 tk_12_125 (by decide +kernel) (fun x2 => ?_)
      refine sX_iload_n (i := 1) (by decide +kernel) rfl ?_
      refine sX_iaload (by decide +kernel) (fun x3 => ?_)
      refine sX_goto (o := 4) (t := 22) (by decide +kernel) (by decide) ?_
      exact sX_some (fun h _ => sW_iret (by decide +kernel) rfl (hr _ h).1.symm (hr _ h).2.symm)
def f_X12_twoAt (v0 : Nat) (v1 : Int32) (M0 : sMem) : Option Int32 :=
  sRc 12 127 M0 v0 (
    (gR 12 127 0 M0 v0).bind fun x1 =>
    (ldI 14 M0 x1 v1).bind fun x2 =>
    (gR 12 127 0 M0 v0).bind fun x3 =>
    (ldI 14 M0 x3 ((v1 + (1 : Int32)))).bind fun x4 =>
    some ((((256 : Int32) * x2) + x4)))
set_option maxRecDepth 100000 in
set_option maxHeartbeats 4000000 in
theorem m_X12_twoAt (G : sG) (l : Launch) (v0 : Nat) (v1 : Int32) (M0 : sMem) : sCp G l 1 yX12_twoAt cX12_twoAt 2 (some .int) [.ref v0, .int v1] M0 rvI (f_X12_twoAt v0 v1 M0) := by
  refine sC_p (ls := [some (.ref v0), some (.int v1)]) (by decide +kernel) rfl (Nat.le_of_ble_eq_true rfl) (fun r M' K hr => ?_)
  unfold f_X12_twoAt
  refine sX_rc ?_
  refine sX_sipush (n := 256) (v := (256 : Int32)) (by decide +kernel) (by decide) ?_
  refine sX_aload_n (i := 0) (by decide +kernel) rfl ?_
  refine sX_getR lf_X12_7 tk_12_0 (by decide +kernel) (fun x1 => ?_)
  refine sX_iload_n (i := 1) (by decide +kernel) rfl ?_
  refine sX_iaload (by decide +kernel) (fun x2 => ?_)
  refine sX_imul (by decide +kernel) ?_
  refine sX_aload_n (i := 0) (by decide +kernel) rfl ?_
  refine sX_getR lf_X12_7 tk_12_0 (by decide +kernel) (fun x3 => ?_)
  refine sX_iload_n (i := 1) (by decide +kernel) rfl ?_
  refine sX_iconst (n := 1) (v := (1 : Int32)) (by decide +kernel) (by decide) ?_
  refine sX_iadd (by decide +kernel) ?_
  refine sX_iaload (by decide +kernel) (fun x4 => ?_)
  refine sX_iadd (by decide +kernel) ?_
  exact sX_some (fun h _ => sW_iret (by decide +kernel) rfl (hr _ h).1.symm (hr _ h).2.symm)
def f_X12_isImage_K129 (v0 : Nat) (v1 : Int32) (v4 : Int32) (M0 : sMem) : Option ((Int32) ⊕ ((Int32))) :=
  if (v1 - (1 : Int32)) ≤ v4 then
    some (.inr ((1 : Int32)))
  else
    (gR 12 127 0 M0 v0).bind fun x1 =>
    (ldI 14 M0 x1 v4).bind fun x2 =>
    (f_X12_isPlace v0 x2.toInt64 M0).bind fun x3 =>
    if x3 = 0 then
      some (.inr ((0 : Int32)))
    else
      (gR 12 127 0 M0 v0).bind fun x4 =>
      (ldI 14 M0 x4 ((v4 + (1 : Int32)))).bind fun x5 =>
      (f_X12_isPlace v0 x5.toInt64 M0).bind fun x6 =>
      if x6 = 0 then
        some (.inr ((0 : Int32)))
      else
        (gR 12 127 0 M0 v0).bind fun x7 =>
        (ldI 14 M0 x7 v4).bind fun x8 =>
        (gR 12 127 0 M0 v0).bind fun x9 =>
        (ldI 14 M0 x9 ((v4 + (1 : Int32)))).bind fun x10 =>
        if x8 = x10 then
          some (.inr ((0 : Int32)))
        else
          (f_X12_twoAt v0 ((v4 + (2 : Int32))) M0).bind fun x11 =>
          if x11 ≤ (999 : Int32) then
            some (.inl (((v4 + (4 : Int32)))))
          else
            some (.inr ((0 : Int32)))
def f_X12_isImage_L129 (v0 : Nat) (v1 : Int32) (v4 : Int32) (M0 : sMem) : Option Int32 :=
  (sItr (fun a : (Int32) => f_X12_isImage_K129 v0 v1 a M0) sFuel v4).bind (fun b => some b)
def f_X12_isImage_B126 (v0 : Nat) (v1 : Int32) (v3 : Int32) (M0 : sMem) : Option Int32 :=
  f_X12_isImage_L129 v0 v1 v3 M0
def f_X12_isImage_K100 (v0 : Nat) (v1 : Int32) (v3 : Int32) (v4 : Int32) (M0 : sMem) : Option ((Int32) ⊕ ((Unit) ⊕ ((Int32)))) :=
  if v3 ≤ v4 then
    some (.inr (.inl (())))
  else
    (gR 12 127 0 M0 v0).bind fun x12 =>
    (ldI 14 M0 x12 v4).bind fun x13 =>
    if x13 ≤ (99 : Int32) then
      some (.inl (((v4 + (1 : Int32)))))
    else
      some (.inr (.inr ((0 : Int32))))
def f_X12_isImage_L100 (v0 : Nat) (v1 : Int32) (v3 : Int32) (v4 : Int32) (M0 : sMem) : Option Int32 :=
  (sItr (fun a : (Int32) => f_X12_isImage_K100 v0 v1 v3 a M0) sFuel v4).bind (fun b => match b with
    | .inl (b) => f_X12_isImage_B126 v0 v1 v3 M0
    | .inr (b) => some b)
def f_X12_isImage_B97 (v0 : Nat) (v1 : Int32) (v2 : Int32) (v3 : Int32) (M0 : sMem) : Option Int32 :=
  f_X12_isImage_L100 v0 v1 v3 v2 M0
def f_X12_isImage_K72 (v0 : Nat) (v1 : Int32) (v2 : Int32) (v3 : Int32) (v4 : Int32) (M0 : sMem) : Option ((Int32) ⊕ ((Unit) ⊕ ((Int32)))) :=
  if v2 ≤ v4 then
    some (.inr (.inl (())))
  else
    (gR 12 127 0 M0 v0).bind fun x14 =>
    (ldI 14 M0 x14 v4).bind fun x15 =>
    if x15 ≤ (1 : Int32) then
      some (.inl (((v4 + (1 : Int32)))))
    else
      some (.inr (.inr ((0 : Int32))))
def f_X12_isImage_L72 (v0 : Nat) (v1 : Int32) (v2 : Int32) (v3 : Int32) (v4 : Int32) (M0 : sMem) : Option Int32 :=
  (sItr (fun a : (Int32) => f_X12_isImage_K72 v0 v1 v2 v3 a M0) sFuel v4).bind (fun b => match b with
    | .inl (b) => f_X12_isImage_B97 v0 v1 v2 v3 M0
    | .inr (b) => some b)
def f_X12_isImage (v0 : Nat) (v1 : Int32) (M0 : sMem) : Option Int32 :=
  sRc 12 127 M0 v0 (
    (f_X12_gateMany v0 M0).bind fun x16 =>
    (f_X12_eraMany v0 M0).bind fun x17 =>
    (gI 12 127 57 M0 v0).bind fun x18 =>
    if x18 = 0 then
      some ((0 : Int32))
    else
      (f_X12_carMany v0 M0).bind fun x19 =>
      if v1 = (((((2 : Int32) + x16) + x17) + ((4 : Int32) * x19)) + (1 : Int32)) then
        (gR 12 127 0 M0 v0).bind fun x20 =>
        (ldI 14 M0 x20 ((v1 - (1 : Int32)))).bind fun x21 =>
        (gR 12 127 0 M0 v0).bind fun x22 =>
        (f_X12_checked x22 ((v1 - (1 : Int32))) M0).bind fun x23 =>
        if x21 = x23 then
          (f_X12_twoAt v0 ((0 : Int32)) M0).bind fun x24 =>
          if x24 ≤ (999 : Int32) then
            f_X12_isImage_L72 v0 v1 (((2 : Int32) + x16)) ((((2 : Int32) + x16) + x17)) ((2 : Int32)) M0
          else
            some ((0 : Int32))
        else
          some ((0 : Int32))
      else
        some ((0 : Int32)))
set_option maxRecDepth 100000 in
set_option maxHeartbeats 4000000 in
theorem m_X12_isImage (G : sG) (l : Launch) (v0 : Nat) (v1 : Int32) (M0 : sMem) : sCp G l 3 yX12_isImage cX12_isImage 5 (some .boolean) [.ref v0, .int v1] M0 rvI (f_X12_isImage v0 v1 M0) := by
  refine sC_p (ls := [some (.ref v0), some (.int v1), none, none, none]) (by decide +kernel) rfl (Nat.le_of_ble_eq_true rfl) (fun r M' K hr => ?_)
  unfold f_X12_isImage
  have xL129 : ∀ (v0 : Nat) (v1 : Int32) (v4 : Int32), sX G l 3 yX12_isImage cX12_isImage 5 (some .boolean) M0 r M' 129 [some (.ref v0), some (.int v1), none, none, some (.int v4)] [] M0 (f_X12_isImage_L129 v0 v1 v4 M0) K := by
    intro v0 v1 v4
    unfold f_X12_isImage_L129
    refine sX_bind ?_
    refine sX_loop (LS := fun a : (Int32) => [some (.ref v0), some (.int v1), none, none, some (.int a)]) (MM := fun a => M0) (fun K1 hb1 he1 => ?_) sFuel v4
    have xK129 : ∀ (v4 : Int32), sX G l 3 yX12_isImage cX12_isImage 5 (some .boolean) M0 r M' 129 [some (.ref v0), some (.int v1), none, none, some (.int v4)] [] M0 (f_X12_isImage_K129 v0 v1 v4 M0) K1 := by
      intro v4
      unfold f_X12_isImage_K129
      refine sX_iload (i := 4) (by decide +kernel) rfl ?_
      refine sX_iload_n (i := 1) (by decide +kernel) rfl ?_
      refine sX_iconst (n := 1) (v := (1 : Int32)) (by decide +kernel) (by decide) ?_
      refine sX_isub (by decide +kernel) ?_
      refine sX_icge (o := 76) (t := 210) (by decide +kernel) (by decide) (fun _ => ?_) (fun _ => ?_)
      · refine sX_iconst (n := 1) (v := (1 : Int32)) (by decide +kernel) (by decide) ?_
        refine sX_exit he1 ?_
        exact sX_some (fun h _ => sW_zret (by decide +kernel) rfl (by decide) (hr _ h).1.symm (hr _ h).2.symm)
      · refine sX_aload_n (i := 0) (by decide +kernel) rfl ?_
        refine sX_aload_n (i := 0) (by decide +kernel) rfl ?_
        refine sX_getR lf_X12_7 tk_12_0 (by decide +kernel) (fun x1 => ?_)
        refine sX_iload (i := 4) (by decide +kernel) rfl ?_
        refine sX_iaload (by decide +kernel) (fun x2 => ?_)
        refine sX_i2l (by decide +kernel) ?_
        refine sX_callVp (As := [.long x2.toInt64]) (by decide +kernel) lm_X12_608 mf_X12_isPlace mi_X12_isPlace mc_12 (m_X12_isPlace G l v0 x2.toInt64 M0) (fun _ h => sRc_some h) (by decide) rfl rfl (Nat.le_of_ble_eq_true rfl) (fun x3 => ?_)
        refine sX_ifeq (o := 53) (t := 202) (by decide +kernel) (by decide) (fun _ => ?_) (fun _ => ?_)
        · refine sX_iconst (n := 0) (v := (0 : Int32)) (by decide +kernel) (by decide) ?_
          refine sX_exit he1 ?_
          exact sX_some (fun h _ => sW_zret (by decide +kernel) rfl (by decide) (hr _ h).1.symm (hr _ h).2.symm)
        · refine sX_aload_n (i := 0) (by decide +kernel) rfl ?_
          refine sX_aload_n (i := 0) (by decide +kernel) rfl ?_
          refine sX_getR lf_X12_7 tk_12_0 (by decide +kernel) (fun x4 => ?_)
          refine sX_iload (i := 4) (by decide +kernel) rfl ?_
          refine sX_iconst (n := 1) (v := (1 : Int32)) (by decide +kernel) (by decide) ?_
          refine sX_iadd (by decide +kernel) ?_
          refine sX_iaload (by decide +kernel) (fun x5 => ?_)
          refine sX_i2l (by decide +kernel) ?_
          refine sX_callVp (As := [.long x5.toInt64]) (by decide +kernel) lm_X12_608 mf_X12_isPlace mi_X12_isPlace mc_12 (m_X12_isPlace G l v0 x5.toInt64 M0) (fun _ h => sRc_some h) (by decide) rfl rfl (Nat.le_of_ble_eq_true rfl) (fun x6 => ?_)
          refine sX_ifeq (o := 36) (t := 202) (by decide +kernel) (by decide) (fun _ => ?_) (fun _ => ?_)
          · refine sX_iconst (n := 0) (v := (0 : Int32)) (by decide +kernel) (by decide) ?_
            refine sX_exit he1 ?_
            exact sX_some (fun h _ => sW_zret (by decide +kernel) rfl (by decide) (hr _ h).1.symm (hr _ h).2.symm)
          · refine sX_aload_n (i := 0) (by decide +kernel) rfl ?_
            refine sX_getR lf_X12_7 tk_12_0 (by decide +kernel) (fun x7 => ?_)
            refine sX_iload (i := 4) (by decide +kernel) rfl ?_
            refine sX_iaload (by decide +kernel) (fun x8 => ?_)
            refine sX_aload_n (i := 0) (by decide +kernel) rfl ?_
            refine sX_getR lf_X12_7 tk_12_0 (by decide +kernel) (fun x9 => ?_)
            refine sX_iload (i := 4) (by decide +kernel) rfl ?_
            refine sX_iconst (n := 1) (v := (1 : Int32)) (by decide +kernel) (by decide) ?_
            refine sX_iadd (by decide +kernel) ?_
            refine sX_iaload (by decide +kernel) (fun x10 => ?_)
            refine sX_iceq (o := 17) (t := 202) (by decide +kernel) (by decide) (fun _ => ?_) (fun _ => ?_)
            · refine sX_iconst (n := 0) (v := (0 : Int32)) (by decide +kernel) (by decide) ?_
              refine sX_exit he1 ?_
              exact sX_some (fun h _ => sW_zret (by decide +kernel) rfl (by decide) (hr _ h).1.symm (hr _ h).2.symm)
            · refine sX_aload_n (i := 0) (by decide +kernel) rfl ?_
              refine sX_iload (i := 4) (by decide +kernel) rfl ?_
              refine sX_iconst (n := 2) (v := (2 : Int32)) (by decide +kernel) (by decide) ?_
              refine sX_iadd (by decide +kernel) ?_
              refine sX_callVp (As := [.int (v4 + (2 : Int32))]) (by decide +kernel) lm_X12_779 mf_X12_twoAt mi_X12_twoAt mc_12 (m_X12_twoAt G l v0 ((v4 + (2 : Int32))) M0) (fun _ h => sRc_some h) (by decide) rfl rfl (Nat.le_of_ble_eq_true rfl) (fun x11 => ?_)
              refine sX_sipush (n := 999) (v := (999 : Int32)) (by decide +kernel) (by decide) ?_
              refine sX_icle (o := 5) (t := 204) (by decide +kernel) (by decide) (fun _ => ?_) (fun _ => ?_)
              · refine sX_iinc (i := 4) (n := 4) (v := v4 + (4 : Int32)) (ls2 := [some (.ref v0), some (.int v1), none, none, some (.int (v4 + (4 : Int32)))]) (by decide +kernel) rfl rfl (by decide) rfl ?_
                refine sX_goto (o := -78) (t := 129) (by decide +kernel) (by decide) ?_
                exact sX_back (a := ((v4 + (4 : Int32)))) hb1 rfl (sLe_s (sLe_s (sLe_n (sLe_n (sLe_s sLe_e)))))
              · refine sX_iconst (n := 0) (v := (0 : Int32)) (by decide +kernel) (by decide) ?_
                refine sX_exit he1 ?_
                exact sX_some (fun h _ => sW_zret (by decide +kernel) rfl (by decide) (hr _ h).1.symm (hr _ h).2.symm)
    exact fun a => xK129 a
  have xB126 : ∀ (v0 : Nat) (v1 : Int32) (v3 : Int32), sX G l 3 yX12_isImage cX12_isImage 5 (some .boolean) M0 r M' 126 [some (.ref v0), some (.int v1), none, some (.int v3), none] [] M0 (f_X12_isImage_B126 v0 v1 v3 M0) K := by
    intro v0 v1 v3
    unfold f_X12_isImage_B126
    refine sX_iload_n (i := 3) (by decide +kernel) rfl ?_
    refine sX_istore (i := 4) (ls2 := [some (.ref v0), some (.int v1), none, some (.int v3), some (.int v3)]) (by decide +kernel) (by decide) rfl ?_
    exact sX.le (xL129 v0 v1 v3) (sLe_s (sLe_s (sLe_n (sLe_n (sLe_s sLe_e)))))
  have xL100 : ∀ (v0 : Nat) (v1 : Int32) (v3 : Int32) (v4 : Int32), sX G l 3 yX12_isImage cX12_isImage 5 (some .boolean) M0 r M' 100 [some (.ref v0), some (.int v1), none, some (.int v3), some (.int v4)] [] M0 (f_X12_isImage_L100 v0 v1 v3 v4 M0) K := by
    intro v0 v1 v3 v4
    unfold f_X12_isImage_L100
    refine sX_bind ?_
    refine sX_loop (LS := fun a : (Int32) => [some (.ref v0), some (.int v1), none, some (.int v3), some (.int a)]) (MM := fun a => M0) (fun K1 hb1 he1 => ?_) sFuel v4
    have xK100 : ∀ (v4 : Int32), sX G l 3 yX12_isImage cX12_isImage 5 (some .boolean) M0 r M' 100 [some (.ref v0), some (.int v1), none, some (.int v3), some (.int v4)] [] M0 (f_X12_isImage_K100 v0 v1 v3 v4 M0) K1 := by
      intro v4
      unfold f_X12_isImage_K100
      refine sX_iload (i := 4) (by decide +kernel) rfl ?_
      refine sX_iload_n (i := 3) (by decide +kernel) rfl ?_
      refine sX_icge (o := 23) (t := 126) (by decide +kernel) (by decide) (fun _ => ?_) (fun _ => ?_)
      · refine sX_exit he1 ?_
        exact sX.le (xB126 v0 v1 v3) (sLe_s (sLe_s (sLe_n (sLe_s (sLe_n sLe_e)))))
      · refine sX_aload_n (i := 0) (by decide +kernel) rfl ?_
        refine sX_getR lf_X12_7 tk_12_0 (by decide +kernel) (fun x12 => ?_)
        refine sX_iload (i := 4) (by decide +kernel) rfl ?_
        refine sX_iaload (by decide +kernel) (fun x13 => ?_)
        refine sX_bipush (n := 99) (v := (99 : Int32)) (by decide +kernel) (by decide) ?_
        refine sX_icle (o := 5) (t := 120) (by decide +kernel) (by decide) (fun _ => ?_) (fun _ => ?_)
        · refine sX_iinc (i := 4) (n := 1) (v := v4 + (1 : Int32)) (ls2 := [some (.ref v0), some (.int v1), none, some (.int v3), some (.int (v4 + (1 : Int32)))]) (by decide +kernel) rfl rfl (by decide) rfl ?_
          refine sX_goto (o := -23) (t := 100) (by decide +kernel) (by decide) ?_
          exact sX_back (a := ((v4 + (1 : Int32)))) hb1 rfl (sLe_s (sLe_s (sLe_n (sLe_s (sLe_s sLe_e)))))
        · refine sX_iconst (n := 0) (v := (0 : Int32)) (by decide +kernel) (by decide) ?_
          refine sX_exit he1 ?_
          exact sX_some (fun h _ => sW_zret (by decide +kernel) rfl (by decide) (hr _ h).1.symm (hr _ h).2.symm)
    exact fun a => xK100 a
  have xB97 : ∀ (v0 : Nat) (v1 : Int32) (v2 : Int32) (v3 : Int32), sX G l 3 yX12_isImage cX12_isImage 5 (some .boolean) M0 r M' 97 [some (.ref v0), some (.int v1), some (.int v2), some (.int v3), none] [] M0 (f_X12_isImage_B97 v0 v1 v2 v3 M0) K := by
    intro v0 v1 v2 v3
    unfold f_X12_isImage_B97
    refine sX_iload_n (i := 2) (by decide +kernel) rfl ?_
    refine sX_istore (i := 4) (ls2 := [some (.ref v0), some (.int v1), some (.int v2), some (.int v3), some (.int v2)]) (by decide +kernel) (by decide) rfl ?_
    exact sX.le (xL100 v0 v1 v3 v2) (sLe_s (sLe_s (sLe_n (sLe_s (sLe_s sLe_e)))))
  have xL72 : ∀ (v0 : Nat) (v1 : Int32) (v2 : Int32) (v3 : Int32) (v4 : Int32), sX G l 3 yX12_isImage cX12_isImage 5 (some .boolean) M0 r M' 72 [some (.ref v0), some (.int v1), some (.int v2), some (.int v3), some (.int v4)] [] M0 (f_X12_isImage_L72 v0 v1 v2 v3 v4 M0) K := by
    intro v0 v1 v2 v3 v4
    unfold f_X12_isImage_L72
    refine sX_bind ?_
    refine sX_loop (LS := fun a : (Int32) => [some (.ref v0), some (.int v1), some (.int v2), some (.int v3), some (.int a)]) (MM := fun a => M0) (fun K1 hb1 he1 => ?_) sFuel v4
    have xK72 : ∀ (v4 : Int32), sX G l 3 yX12_isImage cX12_isImage 5 (some .boolean) M0 r M' 72 [some (.ref v0), some (.int v1), some (.int v2), some (.int v3), some (.int v4)] [] M0 (f_X12_isImage_K72 v0 v1 v2 v3 v4 M0) K1 := by
      intro v4
      unfold f_X12_isImage_K72
      refine sX_iload (i := 4) (by decide +kernel) rfl ?_
      refine sX_iload_n (i := 2) (by decide +kernel) rfl ?_
      refine sX_icge (o := 22) (t := 97) (by decide +kernel) (by decide) (fun _ => ?_) (fun _ => ?_)
      · refine sX_exit he1 ?_
        exact sX.le (xB97 v0 v1 v2 v3) (sLe_s (sLe_s (sLe_s (sLe_s (sLe_n sLe_e)))))
      · refine sX_aload_n (i := 0) (by decide +kernel) rfl ?_
        refine sX_getR lf_X12_7 tk_12_0 (by decide +kernel) (fun x14 => ?_)
        refine sX_iload (i := 4) (by decide +kernel) rfl ?_
        refine sX_iaload (by decide +kernel) (fun x15 => ?_)
        refine sX_iconst (n := 1) (v := (1 : Int32)) (by decide +kernel) (by decide) ?_
        refine sX_icle (o := 5) (t := 91) (by decide +kernel) (by decide) (fun _ => ?_) (fun _ => ?_)
        · refine sX_iinc (i := 4) (n := 1) (v := v4 + (1 : Int32)) (ls2 := [some (.ref v0), some (.int v1), some (.int v2), some (.int v3), some (.int (v4 + (1 : Int32)))]) (by decide +kernel) rfl rfl (by decide) rfl ?_
          refine sX_goto (o := -22) (t := 72) (by decide +kernel) (by decide) ?_
          exact sX_back (a := ((v4 + (1 : Int32)))) hb1 rfl (sLe_s (sLe_s (sLe_s (sLe_s (sLe_s sLe_e)))))
        · refine sX_iconst (n := 0) (v := (0 : Int32)) (by decide +kernel) (by decide) ?_
          refine sX_exit he1 ?_
          exact sX_some (fun h _ => sW_zret (by decide +kernel) rfl (by decide) (hr _ h).1.symm (hr _ h).2.symm)
    exact fun a => xK72 a
  refine sX_rc ?_
  refine sX_iconst (n := 2) (v := (2 : Int32)) (by decide +kernel) (by decide) ?_
  refine sX_aload_n (i := 0) (by decide +kernel) rfl ?_
  refine sX_callVp (As := []) (by decide +kernel) lm_X12_460 mf_X12_gateMany mi_X12_gateMany mc_12 (m_X12_gateMany G l v0 M0) (fun _ h => sRc_some h) (by decide) rfl rfl (Nat.le_of_ble_eq_true rfl) (fun x16 => ?_)
  refine sX_iadd (by decide +kernel) ?_
  refine sX_istore_n (i := 2) (ls2 := [some (.ref v0), some (.int v1), some (.int ((2 : Int32) + x16)), none, none]) (by decide +kernel) (by decide) rfl ?_
  refine sX_iload_n (i := 2) (by decide +kernel) rfl ?_
  refine sX_aload_n (i := 0) (by decide +kernel) rfl ?_
  refine sX_callVp (As := []) (by decide +kernel) lm_X12_466 mf_X12_eraMany mi_X12_eraMany mc_12 (m_X12_eraMany G l v0 M0) (fun _ h => sRc_some h) (by decide) rfl rfl (Nat.le_of_ble_eq_true rfl) (fun x17 => ?_)
  refine sX_iadd (by decide +kernel) ?_
  refine sX_istore_n (i := 3) (ls2 := [some (.ref v0), some (.int v1), some (.int ((2 : Int32) + x16)), some (.int (((2 : Int32) + x16) + x17)), none]) (by decide +kernel) (by decide) rfl ?_
  refine sX_aload_n (i := 0) (by decide +kernel) rfl ?_
  refine sX_getI lf_X12_450 tk_12_57 (by decide +kernel) (fun x18 => ?_)
  refine sX_ifeq (o := 49) (t := 67) (by decide +kernel) (by decide) (fun _ => ?_) (fun _ => ?_)
  · refine sX_iconst (n := 0) (v := (0 : Int32)) (by decide +kernel) (by decide) ?_
    exact sX_some (fun h _ => sW_zret (by decide +kernel) rfl (by decide) (hr _ h).1.symm (hr _ h).2.symm)
  · refine sX_iload_n (i := 1) (by decide +kernel) rfl ?_
    refine sX_iload_n (i := 3) (by decide +kernel) rfl ?_
    refine sX_iconst (n := 4) (v := (4 : Int32)) (by decide +kernel) (by decide) ?_
    refine sX_aload_n (i := 0) (by decide +kernel) rfl ?_
    refine sX_callVp (As := []) (by decide +kernel) lm_X12_469 mf_X12_carMany mi_X12_carMany mc_12 (m_X12_carMany G l v0 M0) (fun _ h => sRc_some h) (by decide) rfl rfl (Nat.le_of_ble_eq_true rfl) (fun x19 => ?_)
    refine sX_imul (by decide +kernel) ?_
    refine sX_iadd (by decide +kernel) ?_
    refine sX_iconst (n := 1) (v := (1 : Int32)) (by decide +kernel) (by decide) ?_
    refine sX_iadd (by decide +kernel) ?_
    refine sX_icne (o := 35) (t := 67) (by decide +kernel) (by decide) (fun _ => ?_) (fun _ => ?_)
    · refine sX_aload_n (i := 0) (by decide +kernel) rfl ?_
      refine sX_getR lf_X12_7 tk_12_0 (by decide +kernel) (fun x20 => ?_)
      refine sX_iload_n (i := 1) (by decide +kernel) rfl ?_
      refine sX_iconst (n := 1) (v := (1 : Int32)) (by decide +kernel) (by decide) ?_
      refine sX_isub (by decide +kernel) ?_
      refine sX_iaload (by decide +kernel) (fun x21 => ?_)
      refine sX_aload_n (i := 0) (by decide +kernel) rfl ?_
      refine sX_getR lf_X12_7 tk_12_0 (by decide +kernel) (fun x22 => ?_)
      refine sX_iload_n (i := 1) (by decide +kernel) rfl ?_
      refine sX_iconst (n := 1) (v := (1 : Int32)) (by decide +kernel) (by decide) ?_
      refine sX_isub (by decide +kernel) ?_
      refine sX_callSp (As := [.ref x22, .int (v1 - (1 : Int32))]) (by decide +kernel) lm_X12_775 mf_X12_checked ms_X12_checked (m_X12_checked G l x22 ((v1 - (1 : Int32))) M0) (by decide) rfl rfl (Nat.le_of_ble_eq_true rfl) (fun x23 => ?_)
      refine sX_icne (o := 14) (t := 67) (by decide +kernel) (by decide) (fun _ => ?_) (fun _ => ?_)
      · refine sX_aload_n (i := 0) (by decide +kernel) rfl ?_
        refine sX_iconst (n := 0) (v := (0 : Int32)) (by decide +kernel) (by decide) ?_
        refine sX_callVp (As := [.int (0 : Int32)]) (by decide +kernel) lm_X12_779 mf_X12_twoAt mi_X12_twoAt mc_12 (m_X12_twoAt G l v0 ((0 : Int32)) M0) (fun _ h => sRc_some h) (by decide) rfl rfl (Nat.le_of_ble_eq_true rfl) (fun x24 => ?_)
        refine sX_sipush (n := 999) (v := (999 : Int32)) (by decide +kernel) (by decide) ?_
        refine sX_icle (o := 5) (t := 69) (by decide +kernel) (by decide) (fun _ => ?_) (fun _ => ?_)
        · refine sX_iconst (n := 2) (v := (2 : Int32)) (by decide +kernel) (by decide) ?_
          refine sX_istore (i := 4) (ls2 := [some (.ref v0), some (.int v1), some (.int ((2 : Int32) + x16)), some (.int (((2 : Int32) + x16) + x17)), some (.int (2 : Int32))]) (by decide +kernel) (by decide) rfl ?_
          exact sX.le (xL72 v0 v1 (((2 : Int32) + x16)) ((((2 : Int32) + x16) + x17)) ((2 : Int32))) (sLe_s (sLe_s (sLe_s (sLe_s (sLe_s sLe_e)))))
        · refine sX_iconst (n := 0) (v := (0 : Int32)) (by decide +kernel) (by decide) ?_
          exact sX_some (fun h _ => sW_zret (by decide +kernel) rfl (by decide) (hr _ h).1.symm (hr _ h).2.symm)
      · refine sX_iconst (n := 0) (v := (0 : Int32)) (by decide +kernel) (by decide) ?_
        exact sX_some (fun h _ => sW_zret (by decide +kernel) rfl (by decide) (hr _ h).1.symm (hr _ h).2.symm)
    · refine sX_iconst (n := 0) (v := (0 : Int32)) (by decide +kernel) (by decide) ?_
      exact sX_some (fun h _ => sW_zret (by decide +kernel) rfl (by decide) (hr _ h).1.symm (hr _ h).2.symm)
