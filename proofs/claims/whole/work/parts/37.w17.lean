def f_X12_car (v0 : Nat) (v1 : Int32) (v2 : Int32) (M0 : sMem) : Option Int32 :=
  sRc 12 127 M0 v0 (
    (f_X12_isCar v0 v1 M0).bind fun x1 =>
    if x1 = 0 then
      some ((-1 : Int32))
    else
      if v2 = (0 : Int32) then
        (f_X12_placeOf v0 v1 M0).bind fun x5 =>
        some x5
      else
      if v2 = (1 : Int32) then
        (f_X12_goalOf v0 v1 M0).bind fun x4 =>
        some x4
      else
      if v2 = (2 : Int32) then
        (f_X12_minuteOf v0 v1 M0).bind fun x3 =>
        some x3
      else
      if v2 = (3 : Int32) then
        (f_X12_knowsOf v0 v1 M0).bind fun x2 =>
        some x2
      else
      some ((-1 : Int32)))
set_option maxRecDepth 100000 in
set_option maxHeartbeats 4000000 in
theorem m_X12_car (G : sG) (l : Launch) (v0 : Nat) (v1 : Int32) (v2 : Int32) (M0 : sMem) : sCp G l 3 yX12_car cX12_car 3 (some .int) [.ref v0, .int v1, .int v2] M0 rvI (f_X12_car v0 v1 v2 M0) := by
  refine sC_p (ls := [some (.ref v0), some (.int v1), some (.int v2)]) (by decide +kernel) rfl (Nat.le_of_ble_eq_true rfl) (fun r M' K hr => ?_)
  unfold f_X12_car
  refine sX_rc ?_
  refine sX_aload_n (i := 0) (by decide +kernel) rfl ?_
  refine sX_iload_n (i := 1) (by decide +kernel) rfl ?_
  refine sX_callVp (As := [.int v1]) (by decide +kernel) lm_X12_594 mf_X12_isCar mi_X12_isCar mc_12 (m_X12_isCar G l v0 v1 M0) (fun _ h => sRc_some h) (by decide) rfl rfl (Nat.le_of_ble_eq_true rfl) (fun x1 => ?_)
  refine sX_ifne (o := 5) (t := 10) (by decide +kernel) (by decide) (fun _ => ?_) (fun _ => ?_)
  · refine sX_iconst (n := -1) (v := (-1 : Int32)) (by decide +kernel) (by decide) ?_
    exact sX_some (fun h _ => sW_iret (by decide +kernel) rfl (hr _ h).1.symm (hr _ h).2.symm)
  · refine sX_iload_n (i := 2) (by decide +kernel) rfl ?_
    refine sX_if (fun hx => ?_) (fun n0 => ?_)
    · refine sX_tin (n := (0 : Int32)) (t := 40) (off := 29) (dflt := 53) (lo := 0) (hi := 3) (offs := #[29, 35, 41, 47]) (len := 29) (by decide +kernel) hx (by decide) (by decide) (by decide) (by decide) ?_
      refine sX_aload_n (i := 0) (by decide +kernel) rfl ?_
      refine sX_iload_n (i := 1) (by decide +kernel) rfl ?_
      refine sX_callVp (As := [.int v1]) (by decide +kernel) lm_X12_535 mf_X12_placeOf mi_X12_placeOf mc_12 (m_X12_placeOf G l v0 v1 M0) (fun _ h => sRc_some h) (by decide) rfl rfl (Nat.le_of_ble_eq_true rfl) (fun x5 => ?_)
      exact sX_some (fun h _ => sW_iret (by decide +kernel) rfl (hr _ h).1.symm (hr _ h).2.symm)
    · refine sX_if (fun hx => ?_) (fun n1 => ?_)
      · refine sX_tin (n := (1 : Int32)) (t := 46) (off := 35) (dflt := 53) (lo := 0) (hi := 3) (offs := #[29, 35, 41, 47]) (len := 29) (by decide +kernel) hx (by decide) (by decide) (by decide) (by decide) ?_
        refine sX_aload_n (i := 0) (by decide +kernel) rfl ?_
        refine sX_iload_n (i := 1) (by decide +kernel) rfl ?_
        refine sX_callVp (As := [.int v1]) (by decide +kernel) lm_X12_538 mf_X12_goalOf mi_X12_goalOf mc_12 (m_X12_goalOf G l v0 v1 M0) (fun _ h => sRc_some h) (by decide) rfl rfl (Nat.le_of_ble_eq_true rfl) (fun x4 => ?_)
        exact sX_some (fun h _ => sW_iret (by decide +kernel) rfl (hr _ h).1.symm (hr _ h).2.symm)
      · refine sX_if (fun hx => ?_) (fun n2 => ?_)
        · refine sX_tin (n := (2 : Int32)) (t := 52) (off := 41) (dflt := 53) (lo := 0) (hi := 3) (offs := #[29, 35, 41, 47]) (len := 29) (by decide +kernel) hx (by decide) (by decide) (by decide) (by decide) ?_
          refine sX_aload_n (i := 0) (by decide +kernel) rfl ?_
          refine sX_iload_n (i := 1) (by decide +kernel) rfl ?_
          refine sX_callVp (As := [.int v1]) (by decide +kernel) lm_X12_541 mf_X12_minuteOf mi_X12_minuteOf mc_12 (m_X12_minuteOf G l v0 v1 M0) (fun _ h => sRc_some h) (by decide) rfl rfl (Nat.le_of_ble_eq_true rfl) (fun x3 => ?_)
          exact sX_some (fun h _ => sW_iret (by decide +kernel) rfl (hr _ h).1.symm (hr _ h).2.symm)
        · refine sX_if (fun hx => ?_) (fun n3 => ?_)
          · refine sX_tin (n := (3 : Int32)) (t := 58) (off := 47) (dflt := 53) (lo := 0) (hi := 3) (offs := #[29, 35, 41, 47]) (len := 29) (by decide +kernel) hx (by decide) (by decide) (by decide) (by decide) ?_
            refine sX_aload_n (i := 0) (by decide +kernel) rfl ?_
            refine sX_iload_n (i := 1) (by decide +kernel) rfl ?_
            refine sX_callVp (As := [.int v1]) (by decide +kernel) lm_X12_557 mf_X12_knowsOf mi_X12_knowsOf mc_12 (m_X12_knowsOf G l v0 v1 M0) (fun _ h => sRc_some h) (by decide) rfl rfl (Nat.le_of_ble_eq_true rfl) (fun x2 => ?_)
            exact sX_some (fun h _ => sW_iret (by decide +kernel) rfl (hr _ h).1.symm (hr _ h).2.symm)
          · refine sX_tout (t := 64) (dflt := 53) (lo := 0) (hi := 3) (offs := #[29, 35, 41, 47]) (len := 29) (by decide +kernel) (by have e0 := sNe n0 (z := 0) (by decide); have e1 := sNe n1 (z := 1) (by decide); have e2 := sNe n2 (z := 2) (by decide); have e3 := sNe n3 (z := 3) (by decide); omega) (by decide) ?_
            refine sX_iconst (n := -1) (v := (-1 : Int32)) (by decide +kernel) (by decide) ?_
            exact sX_some (fun h _ => sW_iret (by decide +kernel) rfl (hr _ h).1.symm (hr _ h).2.symm)
def f_X12_kept (v0 : Nat) (v1 : Int32) (v2 : Int32) (M0 : sMem) : Option Int32 :=
  sRc 12 127 M0 v0 (
    (gR 12 127 59 M0 v0).bind fun x1 =>
    (ldI 14 M0 x1 ((27 : Int32))).bind fun x2 =>
    (f_X12_isIn v1.toInt64 ((0 : Int64)) (((x2 - (1 : Int32))).toInt64) M0).bind fun x3 =>
    if x3 = 0 then
      some ((-1 : Int32))
    else
      (f_X12_isIn v2.toInt64 ((0 : Int64)) ((2 : Int64)) M0).bind fun x4 =>
      if x4 = 0 then
        some ((-1 : Int32))
      else
        (gR 12 127 59 M0 v0).bind fun x5 =>
        (ldI 14 M0 x5 ((((28 : Int32) + ((3 : Int32) * v1)) + v2))).bind fun x6 =>
        some x6)
set_option maxRecDepth 100000 in
set_option maxHeartbeats 4000000 in
theorem m_X12_kept (G : sG) (l : Launch) (v0 : Nat) (v1 : Int32) (v2 : Int32) (M0 : sMem) : sCp G l 2 yX12_kept cX12_kept 3 (some .int) [.ref v0, .int v1, .int v2] M0 rvI (f_X12_kept v0 v1 v2 M0) := by
  refine sC_p (ls := [some (.ref v0), some (.int v1), some (.int v2)]) (by decide +kernel) rfl (Nat.le_of_ble_eq_true rfl) (fun r M' K hr => ?_)
  unfold f_X12_kept
  refine sX_rc ?_
  refine sX_iload_n (i := 1) (by decide +kernel) rfl ?_
  refine sX_i2l (by decide +kernel) ?_
  refine sX_lconst (n := 0) (v := (0 : Int64)) (by decide +kernel) (by decide) ?_
  refine sX_aload_n (i := 0) (by decide +kernel) rfl ?_
  refine sX_getR lf_X12_151 tk_12_59 (by decide +kernel) (fun x1 => ?_)
  refine sX_bipush (n := 27) (v := (27 : Int32)) (by decide +kernel) (by decide) ?_
  refine sX_iaload (by decide +kernel) (fun x2 => ?_)
  refine sX_iconst (n := 1) (v := (1 : Int32)) (by decide +kernel) (by decide) ?_
  refine sX_isub (by decide +kernel) ?_
  refine sX_i2l (by decide +kernel) ?_
  refine sX_callSp (As := [.long v1.toInt64, .long (0 : Int64), .long ((x2 - (1 : Int32))).toInt64]) (by decide +kernel) lm_X12_343 mf_X12_isIn ms_X12_isIn (m_X12_isIn G l v1.toInt64 ((0 : Int64)) (((x2 - (1 : Int32))).toInt64) M0) (by decide) rfl rfl (Nat.le_of_ble_eq_true rfl) (fun x3 => ?_)
  refine sX_ifeq (o := 31) (t := 47) (by decide +kernel) (by decide) (fun _ => ?_) (fun _ => ?_)
  · refine sX_iconst (n := -1) (v := (-1 : Int32)) (by decide +kernel) (by decide) ?_
    exact sX_some (fun h _ => sW_iret (by decide +kernel) rfl (hr _ h).1.symm (hr _ h).2.symm)
  · refine sX_iload_n (i := 2) (by decide +kernel) rfl ?_
    refine sX_i2l (by decide +kernel) ?_
    refine sX_lconst (n := 0) (v := (0 : Int64)) (by decide +kernel) (by decide) ?_
    refine sX_ldc2 (v := (2 : Int64)) (by decide +kernel) kl_X12_597 ?_
    refine sX_callSp (As := [.long v2.toInt64, .long (0 : Int64), .long (2 : Int64)]) (by decide +kernel) lm_X12_343 mf_X12_isIn ms_X12_isIn (m_X12_isIn G l v2.toInt64 ((0 : Int64)) ((2 : Int64)) M0) (by decide) rfl rfl (Nat.le_of_ble_eq_true rfl) (fun x4 => ?_)
    refine sX_ifeq (o := 19) (t := 47) (by decide +kernel) (by decide) (fun _ => ?_) (fun _ => ?_)
    · refine sX_iconst (n := -1) (v := (-1 : Int32)) (by decide +kernel) (by decide) ?_
      exact sX_some (fun h _ => sW_iret (by decide +kernel) rfl (hr _ h).1.symm (hr _ h).2.symm)
    · refine sX_aload_n (i := 0) (by decide +kernel) rfl ?_
      refine sX_getR lf_X12_151 tk_12_59 (by decide +kernel) (fun x5 => ?_)
      refine sX_bipush (n := 28) (v := (28 : Int32)) (by decide +kernel) (by decide) ?_
      refine sX_iconst (n := 3) (v := (3 : Int32)) (by decide +kernel) (by decide) ?_
      refine sX_iload_n (i := 1) (by decide +kernel) rfl ?_
      refine sX_imul (by decide +kernel) ?_
      refine sX_iadd (by decide +kernel) ?_
      refine sX_iload_n (i := 2) (by decide +kernel) rfl ?_
      refine sX_iadd (by decide +kernel) ?_
      refine sX_iaload (by decide +kernel) (fun x6 => ?_)
      refine sX_goto (o := 4) (t := 48) (by decide +kernel) (by decide) ?_
      exact sX_some (fun h _ => sW_iret (by decide +kernel) rfl (hr _ h).1.symm (hr _ h).2.symm)
def f_X12_isMinute (v0 : Int32) (M0 : sMem) : Option Int32 :=
  (f_X12_isIn v0.toInt64 ((0 : Int64)) ((199 : Int64)) M0).bind fun x1 =>
  if x1 = 0 ∨ x1 = 1 then some x1 else none
set_option maxRecDepth 100000 in
set_option maxHeartbeats 4000000 in
theorem m_X12_isMinute (G : sG) (l : Launch) (v0 : Int32) (M0 : sMem) : sCp G l 2 yX12_isMinute cX12_isMinute 1 (some .boolean) [.int v0] M0 rvI (f_X12_isMinute v0 M0) := by
  refine sC_p (ls := [some (.int v0)]) (by decide +kernel) rfl (Nat.le_of_ble_eq_true rfl) (fun r M' K hr => ?_)
  unfold f_X12_isMinute
  refine sX_iload_n (i := 0) (by decide +kernel) rfl ?_
  refine sX_i2l (by decide +kernel) ?_
  refine sX_lconst (n := 0) (v := (0 : Int64)) (by decide +kernel) (by decide) ?_
  refine sX_ldc2 (v := (199 : Int64)) (by decide +kernel) kl_X12_599 ?_
  refine sX_callSp (As := [.long v0.toInt64, .long (0 : Int64), .long (199 : Int64)]) (by decide +kernel) lm_X12_343 mf_X12_isIn ms_X12_isIn (m_X12_isIn G l v0.toInt64 ((0 : Int64)) ((199 : Int64)) M0) (by decide) rfl rfl (Nat.le_of_ble_eq_true rfl) (fun x1 => ?_)
  refine sX_g (fun hz => ?_)
  exact sX_some (fun h _ => sW_zret (by decide +kernel) rfl (nar_bool hz).1 (hr _ h).1.symm (hr _ h).2.symm)
def f_X12_head (v0 : Nat) (v1 : Int32) (v2 : Int32) (M0 : sMem) : Option Int32 :=
  sRc 12 127 M0 v0 (
    (f_X12_isEra v0 v1 M0).bind fun x1 =>
    if x1 = 0 then
      some ((-1 : Int32))
    else
      (f_X12_isMinute v2 M0).bind fun x2 =>
      if x2 = 0 then
        some ((-1 : Int32))
      else
        (f_X12_lateOf v0 v1 M0).bind fun x3 =>
        (f_X12_headOf v0 v1 x3 v2 M0).bind fun x4 =>
        some x4)
set_option maxRecDepth 100000 in
set_option maxHeartbeats 4000000 in
theorem m_X12_head (G : sG) (l : Launch) (v0 : Nat) (v1 : Int32) (v2 : Int32) (M0 : sMem) : sCp G l 3 yX12_head cX12_head 3 (some .int) [.ref v0, .int v1, .int v2] M0 rvI (f_X12_head v0 v1 v2 M0) := by
  refine sC_p (ls := [some (.ref v0), some (.int v1), some (.int v2)]) (by decide +kernel) rfl (Nat.le_of_ble_eq_true rfl) (fun r M' K hr => ?_)
  unfold f_X12_head
  refine sX_rc ?_
  refine sX_aload_n (i := 0) (by decide +kernel) rfl ?_
  refine sX_iload_n (i := 1) (by decide +kernel) rfl ?_
  refine sX_callVp (As := [.int v1]) (by decide +kernel) lm_X12_591 mf_X12_isEra mi_X12_isEra mc_12 (m_X12_isEra G l v0 v1 M0) (fun _ h => sRc_some h) (by decide) rfl rfl (Nat.le_of_ble_eq_true rfl) (fun x1 => ?_)
  refine sX_ifeq (o := 24) (t := 29) (by decide +kernel) (by decide) (fun _ => ?_) (fun _ => ?_)
  · refine sX_iconst (n := -1) (v := (-1 : Int32)) (by decide +kernel) (by decide) ?_
    exact sX_some (fun h _ => sW_iret (by decide +kernel) rfl (hr _ h).1.symm (hr _ h).2.symm)
  · refine sX_iload_n (i := 2) (by decide +kernel) rfl ?_
    refine sX_callSp (As := [.int v2]) (by decide +kernel) lm_X12_601 mf_X12_isMinute ms_X12_isMinute (m_X12_isMinute G l v2 M0) (by decide) rfl rfl (Nat.le_of_ble_eq_true rfl) (fun x2 => ?_)
    refine sX_ifeq (o := 17) (t := 29) (by decide +kernel) (by decide) (fun _ => ?_) (fun _ => ?_)
    · refine sX_iconst (n := -1) (v := (-1 : Int32)) (by decide +kernel) (by decide) ?_
      exact sX_some (fun h _ => sW_iret (by decide +kernel) rfl (hr _ h).1.symm (hr _ h).2.symm)
    · refine sX_aload_n (i := 0) (by decide +kernel) rfl ?_
      refine sX_iload_n (i := 1) (by decide +kernel) rfl ?_
      refine sX_aload_n (i := 0) (by decide +kernel) rfl ?_
      refine sX_iload_n (i := 1) (by decide +kernel) rfl ?_
      refine sX_callVp (As := [.int v1]) (by decide +kernel) lm_X12_515 mf_X12_lateOf mi_X12_lateOf mc_12 (m_X12_lateOf G l v0 v1 M0) (fun _ h => sRc_some h) (by decide) rfl rfl (Nat.le_of_ble_eq_true rfl) (fun x3 => ?_)
      refine sX_iload_n (i := 2) (by decide +kernel) rfl ?_
      refine sX_callVp (As := [.int v1, .int x3, .int v2]) (by decide +kernel) lm_X12_489 mf_X12_headOf mi_X12_headOf mc_12 (m_X12_headOf G l v0 v1 x3 v2 M0) (fun _ h => sRc_some h) (by decide) rfl rfl (Nat.le_of_ble_eq_true rfl) (fun x4 => ?_)
      refine sX_goto (o := 4) (t := 30) (by decide +kernel) (by decide) ?_
      exact sX_some (fun h _ => sW_iret (by decide +kernel) rfl (hr _ h).1.symm (hr _ h).2.symm)
def f_X12_closed (v0 : Nat) (v1 : Int32) (v2 : Int32) (M0 : sMem) : Option (Int32 × sMem) :=
  sRc 12 127 M0 v0 (
    (f_X12_isGate v0 v1.toInt64 M0).bind fun x1 =>
    if x1 = 0 then
      some (((-1 : Int32), M0))
    else
      (f_X12_isMinute v2 M0).bind fun x2 =>
      if x2 = 0 then
        some (((-1 : Int32), M0))
      else
        (f_X12_laysShut v0 M0).bind fun M3 =>
        (f_X12_isClosed v0 v1 v2 M3).bind fun x4 =>
        if x4 = 0 then
          some (((0 : Int32), M3))
        else
          some (((1 : Int32), M3)))
set_option maxRecDepth 100000 in
set_option maxHeartbeats 4000000 in
theorem m_X12_closed (G : sG) (l : Launch) (v0 : Nat) (v1 : Int32) (v2 : Int32) (M0 : sMem) : sC G l 7 yX12_closed cX12_closed 3 (some .int) [.ref v0, .int v1, .int v2] M0 rvI (f_X12_closed v0 v1 v2 M0) := by
  refine sC_m (ls := [some (.ref v0), some (.int v1), some (.int v2)]) (by decide +kernel) rfl (Nat.le_of_ble_eq_true rfl) (fun r M' K hr => ?_)
  unfold f_X12_closed
  refine sX_rc ?_
  refine sX_aload_n (i := 0) (by decide +kernel) rfl ?_
  refine sX_iload_n (i := 1) (by decide +kernel) rfl ?_
  refine sX_i2l (by decide +kernel) ?_
  refine sX_callVp (As := [.long v1.toInt64]) (by decide +kernel) lm_X12_587 mf_X12_isGate mi_X12_isGate mc_12 (m_X12_isGate G l v0 v1.toInt64 M0) (fun _ h => sRc_some h) (by decide) rfl rfl (Nat.le_of_ble_eq_true rfl) (fun x1 => ?_)
  refine sX_ifeq (o := 10) (t := 16) (by decide +kernel) (by decide) (fun _ => ?_) (fun _ => ?_)
  · refine sX_iconst (n := -1) (v := (-1 : Int32)) (by decide +kernel) (by decide) ?_
    exact sX_some (fun h _ => sW_iret (by decide +kernel) rfl (hr _ h).1.symm (hr _ h).2.symm)
  · refine sX_iload_n (i := 2) (by decide +kernel) rfl ?_
    refine sX_callSp (As := [.int v2]) (by decide +kernel) lm_X12_601 mf_X12_isMinute ms_X12_isMinute (m_X12_isMinute G l v2 M0) (by decide) rfl rfl (Nat.le_of_ble_eq_true rfl) (fun x2 => ?_)
    refine sX_ifne (o := 5) (t := 18) (by decide +kernel) (by decide) (fun _ => ?_) (fun _ => ?_)
    · refine sX_iconst (n := -1) (v := (-1 : Int32)) (by decide +kernel) (by decide) ?_
      exact sX_some (fun h _ => sW_iret (by decide +kernel) rfl (hr _ h).1.symm (hr _ h).2.symm)
    · refine sX_aload_n (i := 0) (by decide +kernel) rfl ?_
      refine sX_callVv (As := []) (by decide +kernel) lm_X12_564 mf_X12_laysShut mi_X12_laysShut mc_12 (m_X12_laysShut G l v0 M0) (fun _ h => sRc_some h) (by decide) rfl rfl (Nat.le_of_ble_eq_true rfl) (fun M3 => ?_)
      refine sX_aload_n (i := 0) (by decide +kernel) rfl ?_
      refine sX_iload_n (i := 1) (by decide +kernel) rfl ?_
      refine sX_iload_n (i := 2) (by decide +kernel) rfl ?_
      refine sX_callVp (As := [.int v1, .int v2]) (by decide +kernel) lm_X12_604 mf_X12_isClosed mi_X12_isClosed mc_12 (m_X12_isClosed G l v0 v1 v2 M3) (fun _ h => sRc_some h) (by decide) rfl rfl (Nat.le_of_ble_eq_true rfl) (fun x4 => ?_)
      refine sX_ifeq (o := 7) (t := 35) (by decide +kernel) (by decide) (fun _ => ?_) (fun _ => ?_)
      · refine sX_iconst (n := 0) (v := (0 : Int32)) (by decide +kernel) (by decide) ?_
        exact sX_some (fun h _ => sW_iret (by decide +kernel) rfl (hr _ h).1.symm (hr _ h).2.symm)
      · refine sX_iconst (n := 1) (v := (1 : Int32)) (by decide +kernel) (by decide) ?_
        refine sX_goto (o := 4) (t := 36) (by decide +kernel) (by decide) ?_
        exact sX_some (fun h _ => sW_iret (by decide +kernel) rfl (hr _ h).1.symm (hr _ h).2.symm)
def f_X12_opens_K24 (v0 : Nat) (v1 : Int32) (v3 : Int32) (M : sMem) : Option ((Int32) ⊕ (((Int32 × sMem)))) :=
  if (200 : Int32) ≤ v3 then
    some (.inr (((-1 : Int32), M)))
  else
    (f_X12_isClosed v0 v1 v3 M).bind fun x1 =>
    if x1 = 0 then
      some (.inr ((v3, M)))
    else
      some (.inl (((v3 + (1 : Int32)))))
def f_X12_opens_L24 (v0 : Nat) (v1 : Int32) (v3 : Int32) (M : sMem) : Option (Int32 × sMem) :=
  (sItr (fun a : (Int32) => f_X12_opens_K24 v0 v1 a M) sFuel v3).bind (fun b => some b)
def f_X12_opens (v0 : Nat) (v1 : Int32) (v2 : Int32) (M0 : sMem) : Option (Int32 × sMem) :=
  sRc 12 127 M0 v0 (
    (f_X12_isGate v0 v1.toInt64 M0).bind fun x2 =>
    if x2 = 0 then
      some (((-1 : Int32), M0))
    else
      (f_X12_isMinute v2 M0).bind fun x3 =>
      if x3 = 0 then
        some (((-1 : Int32), M0))
      else
        (f_X12_laysShut v0 M0).bind fun M4 =>
        f_X12_opens_L24 v0 v1 v2 M4)
set_option maxRecDepth 100000 in
set_option maxHeartbeats 4000000 in
theorem m_X12_opens (G : sG) (l : Launch) (v0 : Nat) (v1 : Int32) (v2 : Int32) (M0 : sMem) : sC G l 7 yX12_opens cX12_opens 4 (some .int) [.ref v0, .int v1, .int v2] M0 rvI (f_X12_opens v0 v1 v2 M0) := by
  refine sC_m (ls := [some (.ref v0), some (.int v1), some (.int v2), none]) (by decide +kernel) rfl (Nat.le_of_ble_eq_true rfl) (fun r M' K hr => ?_)
  unfold f_X12_opens
  have xL24 : ∀ (v0 : Nat) (v1 : Int32) (v3 : Int32) (M : sMem), sX G l 7 yX12_opens cX12_opens 4 (some .int) M0 r M' 24 [some (.ref v0), some (.int v1), none, some (.int v3)] [] M (f_X12_opens_L24 v0 v1 v3 M) K := by
    intro v0 v1 v3 M
    unfold f_X12_opens_L24
    refine sX_bind ?_
    refine sX_loop (LS := fun a : (Int32) => [some (.ref v0), some (.int v1), none, some (.int a)]) (MM := fun a => M) (fun K1 hb1 he1 => ?_) sFuel v3
    have xK24 : ∀ (v3 : Int32), sX G l 7 yX12_opens cX12_opens 4 (some .int) M0 r M' 24 [some (.ref v0), some (.int v1), none, some (.int v3)] [] M (f_X12_opens_K24 v0 v1 v3 M) K1 := by
      intro v3
      unfold f_X12_opens_K24
      refine sX_iload_n (i := 3) (by decide +kernel) rfl ?_
      refine sX_sipush (n := 200) (v := (200 : Int32)) (by decide +kernel) (by decide) ?_
      refine sX_icge (o := 20) (t := 48) (by decide +kernel) (by decide) (fun _ => ?_) (fun _ => ?_)
      · refine sX_iconst (n := -1) (v := (-1 : Int32)) (by decide +kernel) (by decide) ?_
        refine sX_exit he1 ?_
        exact sX_some (fun h _ => sW_iret (by decide +kernel) rfl (hr _ h).1.symm (hr _ h).2.symm)
      · refine sX_aload_n (i := 0) (by decide +kernel) rfl ?_
        refine sX_iload_n (i := 1) (by decide +kernel) rfl ?_
        refine sX_iload_n (i := 3) (by decide +kernel) rfl ?_
        refine sX_callVp (As := [.int v1, .int v3]) (by decide +kernel) lm_X12_604 mf_X12_isClosed mi_X12_isClosed mc_12 (m_X12_isClosed G l v0 v1 v3 M) (fun _ h => sRc_some h) (by decide) rfl rfl (Nat.le_of_ble_eq_true rfl) (fun x1 => ?_)
        refine sX_ifne (o := 5) (t := 42) (by decide +kernel) (by decide) (fun _ => ?_) (fun _ => ?_)
        · refine sX_iload_n (i := 3) (by decide +kernel) rfl ?_
          refine sX_exit he1 ?_
          exact sX_some (fun h _ => sW_iret (by decide +kernel) rfl (hr _ h).1.symm (hr _ h).2.symm)
        · refine sX_iinc (i := 3) (n := 1) (v := v3 + (1 : Int32)) (ls2 := [some (.ref v0), some (.int v1), none, some (.int (v3 + (1 : Int32)))]) (by decide +kernel) rfl rfl (by decide) rfl ?_
          refine sX_goto (o := -21) (t := 24) (by decide +kernel) (by decide) ?_
          exact sX_back (a := ((v3 + (1 : Int32)))) hb1 rfl (sLe_s (sLe_s (sLe_n (sLe_s sLe_e))))
    exact fun a => xK24 a
  refine sX_rc ?_
  refine sX_aload_n (i := 0) (by decide +kernel) rfl ?_
  refine sX_iload_n (i := 1) (by decide +kernel) rfl ?_
  refine sX_i2l (by decide +kernel) ?_
  refine sX_callVp (As := [.long v1.toInt64]) (by decide +kernel) lm_X12_587 mf_X12_isGate mi_X12_isGate mc_12 (m_X12_isGate G l v0 v1.toInt64 M0) (fun _ h => sRc_some h) (by decide) rfl rfl (Nat.le_of_ble_eq_true rfl) (fun x2 => ?_)
  refine sX_ifeq (o := 10) (t := 16) (by decide +kernel) (by decide) (fun _ => ?_) (fun _ => ?_)
  · refine sX_iconst (n := -1) (v := (-1 : Int32)) (by decide +kernel) (by decide) ?_
    exact sX_some (fun h _ => sW_iret (by decide +kernel) rfl (hr _ h).1.symm (hr _ h).2.symm)
  · refine sX_iload_n (i := 2) (by decide +kernel) rfl ?_
    refine sX_callSp (As := [.int v2]) (by decide +kernel) lm_X12_601 mf_X12_isMinute ms_X12_isMinute (m_X12_isMinute G l v2 M0) (by decide) rfl rfl (Nat.le_of_ble_eq_true rfl) (fun x3 => ?_)
    refine sX_ifne (o := 5) (t := 18) (by decide +kernel) (by decide) (fun _ => ?_) (fun _ => ?_)
    · refine sX_iconst (n := -1) (v := (-1 : Int32)) (by decide +kernel) (by decide) ?_
      exact sX_some (fun h _ => sW_iret (by decide +kernel) rfl (hr _ h).1.symm (hr _ h).2.symm)
    · refine sX_aload_n (i := 0) (by decide +kernel) rfl ?_
      refine sX_callVv (As := []) (by decide +kernel) lm_X12_564 mf_X12_laysShut mi_X12_laysShut mc_12 (m_X12_laysShut G l v0 M0) (fun _ h => sRc_some h) (by decide) rfl rfl (Nat.le_of_ble_eq_true rfl) (fun M4 => ?_)
      refine sX_iload_n (i := 2) (by decide +kernel) rfl ?_
      refine sX_istore_n (i := 3) (ls2 := [some (.ref v0), some (.int v1), some (.int v2), some (.int v2)]) (by decide +kernel) (by decide) rfl ?_
      exact sX.le (xL24 v0 v1 v2 M4) (sLe_s (sLe_s (sLe_n (sLe_s sLe_e))))
def f_X12_drive (v0 : Nat) (v1 : Int32) (v2 : Int32) (v3 : Int32) (M0 : sMem) : Option (Int32 × sMem) :=
  sRc 12 127 M0 v0 (
    (f_X12_isPlace v0 v1.toInt64 M0).bind fun x1 =>
    if x1 = 0 then
      some (((-1 : Int32), M0))
    else
      (f_X12_isPlace v0 v2.toInt64 M0).bind fun x2 =>
      if x2 = 0 then
        some (((-1 : Int32), M0))
      else
        (f_X12_isMinute v3 M0).bind fun x3 =>
        if x3 = 0 then
          some (((-1 : Int32), M0))
        else
          (f_X12_laysShut v0 M0).bind fun M4 =>
          (f_X12_upSet v0 M4).bind fun x5 =>
          (f_X12_driveOf v0 v1 v2 v3 x5 M4).bind fun (x6, M7) =>
          some ((x6, M7)))
set_option maxRecDepth 100000 in
set_option maxHeartbeats 4000000 in
theorem m_X12_drive (G : sG) (l : Launch) (v0 : Nat) (v1 : Int32) (v2 : Int32) (v3 : Int32) (M0 : sMem) : sC G l 7 yX12_drive cX12_drive 4 (some .int) [.ref v0, .int v1, .int v2, .int v3] M0 rvI (f_X12_drive v0 v1 v2 v3 M0) := by
  refine sC_m (ls := [some (.ref v0), some (.int v1), some (.int v2), some (.int v3)]) (by decide +kernel) rfl (Nat.le_of_ble_eq_true rfl) (fun r M' K hr => ?_)
  unfold f_X12_drive
  refine sX_rc ?_
  refine sX_aload_n (i := 0) (by decide +kernel) rfl ?_
  refine sX_iload_n (i := 1) (by decide +kernel) rfl ?_
  refine sX_i2l (by decide +kernel) ?_
  refine sX_callVp (As := [.long v1.toInt64]) (by decide +kernel) lm_X12_608 mf_X12_isPlace mi_X12_isPlace mc_12 (m_X12_isPlace G l v0 v1.toInt64 M0) (fun _ h => sRc_some h) (by decide) rfl rfl (Nat.le_of_ble_eq_true rfl) (fun x1 => ?_)
  refine sX_ifeq (o := 19) (t := 25) (by decide +kernel) (by decide) (fun _ => ?_) (fun _ => ?_)
  · refine sX_iconst (n := -1) (v := (-1 : Int32)) (by decide +kernel) (by decide) ?_
    exact sX_some (fun h _ => sW_iret (by decide +kernel) rfl (hr _ h).1.symm (hr _ h).2.symm)
  · refine sX_aload_n (i := 0) (by decide +kernel) rfl ?_
    refine sX_iload_n (i := 2) (by decide +kernel) rfl ?_
    refine sX_i2l (by decide +kernel) ?_
    refine sX_callVp (As := [.long v2.toInt64]) (by decide +kernel) lm_X12_608 mf_X12_isPlace mi_X12_isPlace mc_12 (m_X12_isPlace G l v0 v2.toInt64 M0) (fun _ h => sRc_some h) (by decide) rfl rfl (Nat.le_of_ble_eq_true rfl) (fun x2 => ?_)
    refine sX_ifeq (o := 10) (t := 25) (by decide +kernel) (by decide) (fun _ => ?_) (fun _ => ?_)
    · refine sX_iconst (n := -1) (v := (-1 : Int32)) (by decide +kernel) (by decide) ?_
      exact sX_some (fun h _ => sW_iret (by decide +kernel) rfl (hr _ h).1.symm (hr _ h).2.symm)
    · refine sX_iload_n (i := 3) (by decide +kernel) rfl ?_
      refine sX_callSp (As := [.int v3]) (by decide +kernel) lm_X12_601 mf_X12_isMinute ms_X12_isMinute (m_X12_isMinute G l v3 M0) (by decide) rfl rfl (Nat.le_of_ble_eq_true rfl) (fun x3 => ?_)
      refine sX_ifne (o := 5) (t := 27) (by decide +kernel) (by decide) (fun _ => ?_) (fun _ => ?_)
      · refine sX_iconst (n := -1) (v := (-1 : Int32)) (by decide +kernel) (by decide) ?_
        exact sX_some (fun h _ => sW_iret (by decide +kernel) rfl (hr _ h).1.symm (hr _ h).2.symm)
      · refine sX_aload_n (i := 0) (by decide +kernel) rfl ?_
        refine sX_callVv (As := []) (by decide +kernel) lm_X12_564 mf_X12_laysShut mi_X12_laysShut mc_12 (m_X12_laysShut G l v0 M0) (fun _ h => sRc_some h) (by decide) rfl rfl (Nat.le_of_ble_eq_true rfl) (fun M4 => ?_)
        refine sX_aload_n (i := 0) (by decide +kernel) rfl ?_
        refine sX_iload_n (i := 1) (by decide +kernel) rfl ?_
        refine sX_iload_n (i := 2) (by decide +kernel) rfl ?_
        refine sX_iload_n (i := 3) (by decide +kernel) rfl ?_
        refine sX_aload_n (i := 0) (by decide +kernel) rfl ?_
        refine sX_callVp (As := []) (by decide +kernel) lm_X12_544 mf_X12_upSet mi_X12_upSet mc_12 (m_X12_upSet G l v0 M4) (fun _ h => sRc_some h) (by decide) rfl rfl (Nat.le_of_ble_eq_true rfl) (fun x5 => ?_)
        refine sX_callV (As := [.int v1, .int v2, .int v3, .int x5]) (by decide +kernel) lm_X12_547 mf_X12_driveOf mi_X12_driveOf mc_12 (m_X12_driveOf G l v0 v1 v2 v3 x5 M4) (fun _ h => sRc_some h) (by decide) rfl rfl (Nat.le_of_ble_eq_true rfl) (fun x6 M7 _ => ?_)
        exact sX_some (fun h _ => sW_iret (by decide +kernel) rfl (hr _ h).1.symm (hr _ h).2.symm)
def f_X12_waits (v0 : Nat) (v1 : Int32) (M0 : sMem) : Option (Int32 × sMem) :=
  sRc 12 127 M0 v0 (
    (f_X12_isCar v0 v1 M0).bind fun x1 =>
    if x1 = 0 then
      some (((-1 : Int32), M0))
    else
      (f_X12_laysShut v0 M0).bind fun M2 =>
      (f_X12_waitOf v0 v1 M2).bind fun (x3, M4) =>
      some ((x3, M4)))
set_option maxRecDepth 100000 in
set_option maxHeartbeats 4000000 in
theorem m_X12_waits (G : sG) (l : Launch) (v0 : Nat) (v1 : Int32) (M0 : sMem) : sC G l 7 yX12_waits cX12_waits 2 (some .int) [.ref v0, .int v1] M0 rvI (f_X12_waits v0 v1 M0) := by
  refine sC_m (ls := [some (.ref v0), some (.int v1)]) (by decide +kernel) rfl (Nat.le_of_ble_eq_true rfl) (fun r M' K hr => ?_)
  unfold f_X12_waits
  refine sX_rc ?_
  refine sX_aload_n (i := 0) (by decide +kernel) rfl ?_
  refine sX_iload_n (i := 1) (by decide +kernel) rfl ?_
  refine sX_callVp (As := [.int v1]) (by decide +kernel) lm_X12_594 mf_X12_isCar mi_X12_isCar mc_12 (m_X12_isCar G l v0 v1 M0) (fun _ h => sRc_some h) (by decide) rfl rfl (Nat.le_of_ble_eq_true rfl) (fun x1 => ?_)
  refine sX_ifne (o := 5) (t := 10) (by decide +kernel) (by decide) (fun _ => ?_) (fun _ => ?_)
  · refine sX_iconst (n := -1) (v := (-1 : Int32)) (by decide +kernel) (by decide) ?_
    exact sX_some (fun h _ => sW_iret (by decide +kernel) rfl (hr _ h).1.symm (hr _ h).2.symm)
  · refine sX_aload_n (i := 0) (by decide +kernel) rfl ?_
    refine sX_callVv (As := []) (by decide +kernel) lm_X12_564 mf_X12_laysShut mi_X12_laysShut mc_12 (m_X12_laysShut G l v0 M0) (fun _ h => sRc_some h) (by decide) rfl rfl (Nat.le_of_ble_eq_true rfl) (fun M2 => ?_)
    refine sX_aload_n (i := 0) (by decide +kernel) rfl ?_
    refine sX_iload_n (i := 1) (by decide +kernel) rfl ?_
    refine sX_callV (As := [.int v1]) (by decide +kernel) lm_X12_567 mf_X12_waitOf mi_X12_waitOf mc_12 (m_X12_waitOf G l v0 v1 M2) (fun _ h => sRc_some h) (by decide) rfl rfl (Nat.le_of_ble_eq_true rfl) (fun x3 M4 _ => ?_)
    exact sX_some (fun h _ => sW_iret (by decide +kernel) rfl (hr _ h).1.symm (hr _ h).2.symm)
def f_X12_later_B57 (v0 : Nat) (s0 : Int32) (M : sMem) : Option (Int32 × sMem) :=
  (f_X12_takesBack v0 M).bind fun M1 =>
  some ((s0, M1))
def f_X12_later (v0 : Nat) (v1 : Int32) (v2 : Int32) (v3 : Int32) (M0 : sMem) : Option (Int32 × sMem) :=
  sRc 12 127 M0 v0 (
    (f_X12_isCar v0 v1 M0).bind fun x2 =>
    if x2 = 0 then
      some (((-1 : Int32), M0))
    else
      (f_X12_isAhead v0 v2 ((0 : Int32)) ((60 : Int32)) M0).bind fun x3 =>
      if x3 = 0 then
        some (((-1 : Int32), M0))
      else
        (f_X12_isIn v3.toInt64 ((0 : Int64)) ((1 : Int64)) M0).bind fun x4 =>
        if x4 = 0 then
          some (((-1 : Int32), M0))
        else
          (f_X12_putsAside v0 M0).bind fun M5 =>
          (f_X12_daysGo v0 v2 M5).bind fun M6 =>
          if v3 = 0 then
            (f_X12_placeOf v0 v1 M6).bind fun x7 =>
            f_X12_later_B57 v0 x7 M6
          else
            (f_X12_knowsOf v0 v1 M6).bind fun x8 =>
            f_X12_later_B57 v0 x8 M6)
set_option maxRecDepth 100000 in
set_option maxHeartbeats 4000000 in
theorem m_X12_later (G : sG) (l : Launch) (v0 : Nat) (v1 : Int32) (v2 : Int32) (v3 : Int32) (M0 : sMem) : sC G l 9 yX12_later cX12_later 5 (some .int) [.ref v0, .int v1, .int v2, .int v3] M0 rvI (f_X12_later v0 v1 v2 v3 M0) := by
  refine sC_m (ls := [some (.ref v0), some (.int v1), some (.int v2), some (.int v3), none]) (by decide +kernel) rfl (Nat.le_of_ble_eq_true rfl) (fun r M' K hr => ?_)
  unfold f_X12_later
  have xB57 : ∀ (v0 : Nat) (s0 : Int32) (M : sMem), sX G l 9 yX12_later cX12_later 5 (some .int) M0 r M' 57 [some (.ref v0), none, none, none, none] [.int s0] M (f_X12_later_B57 v0 s0 M) K := by
    intro v0 s0 M
    unfold f_X12_later_B57
    refine sX_istore (i := 4) (ls2 := [some (.ref v0), none, none, none, some (.int s0)]) (by decide +kernel) (by decide) rfl ?_
    refine sX_aload_n (i := 0) (by decide +kernel) rfl ?_
    refine sX_callVv (As := []) (by decide +kernel) lm_X12_620 mf_X12_takesBack mi_X12_takesBack mc_12 (m_X12_takesBack G l v0 M) (fun _ h => sRc_some h) (by decide) rfl rfl (Nat.le_of_ble_eq_true rfl) (fun M1 => ?_)
    refine sX_iload (i := 4) (by decide +kernel) rfl ?_
    exact sX_some (fun h _ => sW_iret (by decide +kernel) rfl (hr _ h).1.symm (hr _ h).2.symm)
  refine sX_rc ?_
  refine sX_aload_n (i := 0) (by decide +kernel) rfl ?_
  refine sX_iload_n (i := 1) (by decide +kernel) rfl ?_
  refine sX_callVp (As := [.int v1]) (by decide +kernel) lm_X12_594 mf_X12_isCar mi_X12_isCar mc_12 (m_X12_isCar G l v0 v1 M0) (fun _ h => sRc_some h) (by decide) rfl rfl (Nat.le_of_ble_eq_true rfl) (fun x2 => ?_)
  refine sX_ifeq (o := 24) (t := 29) (by decide +kernel) (by decide) (fun _ => ?_) (fun _ => ?_)
  · refine sX_iconst (n := -1) (v := (-1 : Int32)) (by decide +kernel) (by decide) ?_
    exact sX_some (fun h _ => sW_iret (by decide +kernel) rfl (hr _ h).1.symm (hr _ h).2.symm)
  · refine sX_aload_n (i := 0) (by decide +kernel) rfl ?_
    refine sX_iload_n (i := 2) (by decide +kernel) rfl ?_
    refine sX_iconst (n := 0) (v := (0 : Int32)) (by decide +kernel) (by decide) ?_
    refine sX_bipush (n := 60) (v := (60 : Int32)) (by decide +kernel) (by decide) ?_
    refine sX_callVp (As := [.int v2, .int (0 : Int32), .int (60 : Int32)]) (by decide +kernel) lm_X12_611 mf_X12_isAhead mi_X12_isAhead mc_12 (m_X12_isAhead G l v0 v2 ((0 : Int32)) ((60 : Int32)) M0) (fun _ h => sRc_some h) (by decide) rfl rfl (Nat.le_of_ble_eq_true rfl) (fun x3 => ?_)
    refine sX_ifeq (o := 13) (t := 29) (by decide +kernel) (by decide) (fun _ => ?_) (fun _ => ?_)
    · refine sX_iconst (n := -1) (v := (-1 : Int32)) (by decide +kernel) (by decide) ?_
      exact sX_some (fun h _ => sW_iret (by decide +kernel) rfl (hr _ h).1.symm (hr _ h).2.symm)
    · refine sX_iload_n (i := 3) (by decide +kernel) rfl ?_
      refine sX_i2l (by decide +kernel) ?_
      refine sX_lconst (n := 0) (v := (0 : Int64)) (by decide +kernel) (by decide) ?_
      refine sX_lconst (n := 1) (v := (1 : Int64)) (by decide +kernel) (by decide) ?_
      refine sX_callSp (As := [.long v3.toInt64, .long (0 : Int64), .long (1 : Int64)]) (by decide +kernel) lm_X12_343 mf_X12_isIn ms_X12_isIn (m_X12_isIn G l v3.toInt64 ((0 : Int64)) ((1 : Int64)) M0) (by decide) rfl rfl (Nat.le_of_ble_eq_true rfl) (fun x4 => ?_)
      refine sX_ifne (o := 5) (t := 31) (by decide +kernel) (by decide) (fun _ => ?_) (fun _ => ?_)
      · refine sX_iconst (n := -1) (v := (-1 : Int32)) (by decide +kernel) (by decide) ?_
        exact sX_some (fun h _ => sW_iret (by decide +kernel) rfl (hr _ h).1.symm (hr _ h).2.symm)
      · refine sX_aload_n (i := 0) (by decide +kernel) rfl ?_
        refine sX_callVv (As := []) (by decide +kernel) lm_X12_614 mf_X12_putsAside mi_X12_putsAside mc_12 (m_X12_putsAside G l v0 M0) (fun _ h => sRc_some h) (by decide) rfl rfl (Nat.le_of_ble_eq_true rfl) (fun M5 => ?_)
        refine sX_aload_n (i := 0) (by decide +kernel) rfl ?_
        refine sX_iload_n (i := 2) (by decide +kernel) rfl ?_
        refine sX_callVv (As := [.int v2]) (by decide +kernel) lm_X12_617 mf_X12_daysGo mi_X12_daysGo mc_12 (m_X12_daysGo G l v0 v2 M5) (fun _ h => sRc_some h) (by decide) rfl rfl (Nat.le_of_ble_eq_true rfl) (fun M6 => ?_)
        refine sX_iload_n (i := 3) (by decide +kernel) rfl ?_
        refine sX_ifne (o := 11) (t := 52) (by decide +kernel) (by decide) (fun _ => ?_) (fun _ => ?_)
        · refine sX_aload_n (i := 0) (by decide +kernel) rfl ?_
          refine sX_iload_n (i := 1) (by decide +kernel) rfl ?_
          refine sX_callVp (As := [.int v1]) (by decide +kernel) lm_X12_535 mf_X12_placeOf mi_X12_placeOf mc_12 (m_X12_placeOf G l v0 v1 M6) (fun _ h => sRc_some h) (by decide) rfl rfl (Nat.le_of_ble_eq_true rfl) (fun x7 => ?_)
          refine sX_goto (o := 8) (t := 57) (by decide +kernel) (by decide) ?_
          exact sX.le (xB57 v0 x7 M6) (sLe_s (sLe_n (sLe_n (sLe_n (sLe_n sLe_e)))))
        · refine sX_aload_n (i := 0) (by decide +kernel) rfl ?_
          refine sX_iload_n (i := 1) (by decide +kernel) rfl ?_
          refine sX_callVp (As := [.int v1]) (by decide +kernel) lm_X12_557 mf_X12_knowsOf mi_X12_knowsOf mc_12 (m_X12_knowsOf G l v0 v1 M6) (fun _ h => sRc_some h) (by decide) rfl rfl (Nat.le_of_ble_eq_true rfl) (fun x8 => ?_)
          exact sX.le (xB57 v0 x8 M6) (sLe_s (sLe_n (sLe_n (sLe_n (sLe_n sLe_e)))))
def f_X12_late (v0 : Nat) (v1 : Int32) (v2 : Int32) (M0 : sMem) : Option (Int32 × sMem) :=
  sRc 12 127 M0 v0 (
    (f_X12_isEra v0 v1 M0).bind fun x1 =>
    if x1 = 0 then
      some (((-1 : Int32), M0))
    else
      (f_X12_isAhead v0 v2 ((0 : Int32)) ((60 : Int32)) M0).bind fun x2 =>
      if x2 = 0 then
        some (((-1 : Int32), M0))
      else
        (f_X12_putsAside v0 M0).bind fun M3 =>
        (f_X12_daysGo v0 v2 M3).bind fun M4 =>
        (f_X12_lateOf v0 v1 M4).bind fun x5 =>
        (f_X12_takesBack v0 M4).bind fun M6 =>
        some ((x5, M6)))
set_option maxRecDepth 100000 in
set_option maxHeartbeats 4000000 in
theorem m_X12_late (G : sG) (l : Launch) (v0 : Nat) (v1 : Int32) (v2 : Int32) (M0 : sMem) : sC G l 9 yX12_late cX12_late 4 (some .int) [.ref v0, .int v1, .int v2] M0 rvI (f_X12_late v0 v1 v2 M0) := by
  refine sC_m (ls := [some (.ref v0), some (.int v1), some (.int v2), none]) (by decide +kernel) rfl (Nat.le_of_ble_eq_true rfl) (fun r M' K hr => ?_)
  unfold f_X12_late
  refine sX_rc ?_
  refine sX_aload_n (i := 0) (by decide +kernel) rfl ?_
  refine sX_iload_n (i := 1) (by decide +kernel) rfl ?_
  refine sX_callVp (As := [.int v1]) (by decide +kernel) lm_X12_591 mf_X12_isEra mi_X12_isEra mc_12 (m_X12_isEra G l v0 v1 M0) (fun _ h => sRc_some h) (by decide) rfl rfl (Nat.le_of_ble_eq_true rfl) (fun x1 => ?_)
  refine sX_ifeq (o := 14) (t := 19) (by decide +kernel) (by decide) (fun _ => ?_) (fun _ => ?_)
  · refine sX_iconst (n := -1) (v := (-1 : Int32)) (by decide +kernel) (by decide) ?_
    exact sX_some (fun h _ => sW_iret (by decide +kernel) rfl (hr _ h).1.symm (hr _ h).2.symm)
  · refine sX_aload_n (i := 0) (by decide +kernel) rfl ?_
    refine sX_iload_n (i := 2) (by decide +kernel) rfl ?_
    refine sX_iconst (n := 0) (v := (0 : Int32)) (by decide +kernel) (by decide) ?_
    refine sX_bipush (n := 60) (v := (60 : Int32)) (by decide +kernel) (by decide) ?_
    refine sX_callVp (As := [.int v2, .int (0 : Int32), .int (60 : Int32)]) (by decide +kernel) lm_X12_611 mf_X12_isAhead mi_X12_isAhead mc_12 (m_X12_isAhead G l v0 v2 ((0 : Int32)) ((60 : Int32)) M0) (fun _ h => sRc_some h) (by decide) rfl rfl (Nat.le_of_ble_eq_true rfl) (fun x2 => ?_)
    refine sX_ifne (o := 5) (t := 21) (by decide +kernel) (by decide) (fun _ => ?_) (fun _ => ?_)
    · refine sX_iconst (n := -1) (v := (-1 : Int32)) (by decide +kernel) (by decide) ?_
      exact sX_some (fun h _ => sW_iret (by decide +kernel) rfl (hr _ h).1.symm (hr _ h).2.symm)
    · refine sX_aload_n (i := 0) (by decide +kernel) rfl ?_
      refine sX_callVv (As := []) (by decide +kernel) lm_X12_614 mf_X12_putsAside mi_X12_putsAside mc_12 (m_X12_putsAside G l v0 M0) (fun _ h => sRc_some h) (by decide) rfl rfl (Nat.le_of_ble_eq_true rfl) (fun M3 => ?_)
      refine sX_aload_n (i := 0) (by decide +kernel) rfl ?_
      refine sX_iload_n (i := 2) (by decide +kernel) rfl ?_
      refine sX_callVv (As := [.int v2]) (by decide +kernel) lm_X12_617 mf_X12_daysGo mi_X12_daysGo mc_12 (m_X12_daysGo G l v0 v2 M3) (fun _ h => sRc_some h) (by decide) rfl rfl (Nat.le_of_ble_eq_true rfl) (fun M4 => ?_)
      refine sX_aload_n (i := 0) (by decide +kernel) rfl ?_
      refine sX_iload_n (i := 1) (by decide +kernel) rfl ?_
      refine sX_callVp (As := [.int v1]) (by decide +kernel) lm_X12_515 mf_X12_lateOf mi_X12_lateOf mc_12 (m_X12_lateOf G l v0 v1 M4) (fun _ h => sRc_some h) (by decide) rfl rfl (Nat.le_of_ble_eq_true rfl) (fun x5 => ?_)
      refine sX_istore_n (i := 3) (ls2 := [some (.ref v0), some (.int v1), some (.int v2), some (.int x5)]) (by decide +kernel) (by decide) rfl ?_
      refine sX_aload_n (i := 0) (by decide +kernel) rfl ?_
      refine sX_callVv (As := []) (by decide +kernel) lm_X12_620 mf_X12_takesBack mi_X12_takesBack mc_12 (m_X12_takesBack G l v0 M4) (fun _ h => sRc_some h) (by decide) rfl rfl (Nat.le_of_ble_eq_true rfl) (fun M6 => ?_)
      refine sX_iload_n (i := 3) (by decide +kernel) rfl ?_
      exact sX_some (fun h _ => sW_iret (by decide +kernel) rfl (hr _ h).1.symm (hr _ h).2.symm)
def f_X12_lift_B113 (v0 : Nat) (v1 : Int32) (v2 : Int32) (v3 : Int32) (v4 : Int32) (v5 : Int32) (M : sMem) : Option ((Int32 × Int32 × sMem) ⊕ (((Int32 × sMem)))) :=
  some (.inl ((v4, ((v5 + (1 : Int32))), M)))
def f_X12_lift_B72 (v0 : Nat) (v1 : Int32) (v2 : Int32) (v3 : Int32) (v4 : Int32) (v5 : Int32) (M : sMem) : Option ((Int32 × Int32 × sMem) ⊕ (((Int32 × sMem)))) :=
  (f_X12_placeOf v0 v1 M).bind fun x1 =>
  (f_X12_goalOf v0 v1 M).bind fun x2 =>
  (f_X12_minuteOf v0 v1 M).bind fun x3 =>
  (f_X12_driveOf v0 x1 x2 x3 ((v3 ||| v5)) M).bind fun (x4, M5) =>
  if x4 = (-1 : Int32) then
    f_X12_lift_B113 v0 v1 v2 v3 v4 v5 M5
  else
    if v2 < x4 then
      f_X12_lift_B113 v0 v1 v2 v3 v4 v5 M5
    else
      f_X12_lift_B113 v0 v1 v2 v3 v5 v5 M5
def f_X12_lift_K32 (v0 : Nat) (v1 : Int32) (v2 : Int32) (v3 : Int32) (v4 : Int32) (v5 : Int32) (M : sMem) : Option ((Int32 × Int32 × sMem) ⊕ (((Int32 × sMem)))) :=
  (f_X12_gateMany v0 M).bind fun x6 =>
  if ((1 : Int32) <<< (x6 &&& 31)) ≤ v5 then
    some (.inr ((v4, M)))
  else
    if (v5 &&& v3) = 0 then
      if v4 = (-1 : Int32) then
        f_X12_lift_B72 v0 v1 v2 v3 v4 v5 M
      else
        (f_X12_bits v5 M).bind fun x7 =>
        (f_X12_bits v4 M).bind fun x8 =>
        if x7 < x8 then
          f_X12_lift_B72 v0 v1 v2 v3 v4 v5 M
        else
          f_X12_lift_B113 v0 v1 v2 v3 v4 v5 M
    else
      f_X12_lift_B113 v0 v1 v2 v3 v4 v5 M
def f_X12_lift_L32 (v0 : Nat) (v1 : Int32) (v2 : Int32) (v3 : Int32) (v4 : Int32) (v5 : Int32) (M : sMem) : Option (Int32 × sMem) :=
  (sItr (fun a : (Int32 × Int32 × sMem) => f_X12_lift_K32 v0 v1 v2 v3 a.1 a.2.1 a.2.2) sFuel (v4, v5, M)).bind (fun b => some b)
def f_X12_lift (v0 : Nat) (v1 : Int32) (v2 : Int32) (M0 : sMem) : Option (Int32 × sMem) :=
  sRc 12 127 M0 v0 (
    (f_X12_isCar v0 v1 M0).bind fun x9 =>
    if x9 = 0 then
      some (((-1 : Int32), M0))
    else
      (f_X12_isMinute v2 M0).bind fun x10 =>
      if x10 = 0 then
        some (((-1 : Int32), M0))
      else
        (f_X12_laysShut v0 M0).bind fun M11 =>
        (f_X12_upSet v0 M11).bind fun x12 =>
        f_X12_lift_L32 v0 v1 v2 x12 ((-1 : Int32)) ((0 : Int32)) M11)
set_option maxRecDepth 100000 in
set_option maxHeartbeats 4000000 in
theorem m_X12_lift (G : sG) (l : Launch) (v0 : Nat) (v1 : Int32) (v2 : Int32) (M0 : sMem) : sC G l 7 yX12_lift cX12_lift 7 (some .int) [.ref v0, .int v1, .int v2] M0 rvI (f_X12_lift v0 v1 v2 M0) := by
  refine sC_m (ls := [some (.ref v0), some (.int v1), some (.int v2), none, none, none, none]) (by decide +kernel) rfl (Nat.le_of_ble_eq_true rfl) (fun r M' K hr => ?_)
  unfold f_X12_lift
  have xL32 : ∀ (v0 : Nat) (v1 : Int32) (v2 : Int32) (v3 : Int32) (v4 : Int32) (v5 : Int32) (M : sMem), sX G l 7 yX12_lift cX12_lift 7 (some .int) M0 r M' 32 [some (.ref v0), some (.int v1), some (.int v2), some (.int v3), some (.int v4), some (.int v5), none] [] M (f_X12_lift_L32 v0 v1 v2 v3 v4 v5 M) K := by
    intro v0 v1 v2 v3 v4 v5 M
    unfold f_X12_lift_L32
    refine sX_bind ?_
    refine sX_loop (LS := fun a : (Int32 × Int32 × sMem) => [some (.ref v0), some (.int v1), some (.int v2), some (.int v3), some (.int a.1), some (.int a.2.1), none]) (MM := fun a => a.2.2) (fun K1 hb1 he1 => ?_) sFuel ((v4, v5, M))
    have xB113 : ∀ (v4 : Int32) (v5 : Int32) (M : sMem), sX G l 7 yX12_lift cX12_lift 7 (some .int) M0 r M' 113 [some (.ref v0), some (.int v1), some (.int v2), some (.int v3), some (.int v4), some (.int v5), none] [] M (f_X12_lift_B113 v0 v1 v2 v3 v4 v5 M) K1 := by
      intro v4 v5 M
      unfold f_X12_lift_B113
      refine sX_iinc (i := 5) (n := 1) (v := v5 + (1 : Int32)) (ls2 := [some (.ref v0), some (.int v1), some (.int v2), some (.int v3), some (.int v4), some (.int (v5 + (1 : Int32))), none]) (by decide +kernel) rfl rfl (by decide) rfl ?_
      refine sX_goto (o := -84) (t := 32) (by decide +kernel) (by decide) ?_
      exact sX_back (a := (v4, ((v5 + (1 : Int32))), M)) hb1 rfl (sLe_s (sLe_s (sLe_s (sLe_s (sLe_s (sLe_s (sLe_n sLe_e)))))))
    have xB72 : ∀ (v4 : Int32) (v5 : Int32) (M : sMem), sX G l 7 yX12_lift cX12_lift 7 (some .int) M0 r M' 72 [some (.ref v0), some (.int v1), some (.int v2), some (.int v3), some (.int v4), some (.int v5), none] [] M (f_X12_lift_B72 v0 v1 v2 v3 v4 v5 M) K1 := by
      intro v4 v5 M
      unfold f_X12_lift_B72
      refine sX_aload_n (i := 0) (by decide +kernel) rfl ?_
      refine sX_aload_n (i := 0) (by decide +kernel) rfl ?_
      refine sX_iload_n (i := 1) (by decide +kernel) rfl ?_
      refine sX_callVp (As := [.int v1]) (by decide +kernel) lm_X12_535 mf_X12_placeOf mi_X12_placeOf mc_12 (m_X12_placeOf G l v0 v1 M) (fun _ h => sRc_some h) (by decide) rfl rfl (Nat.le_of_ble_eq_true rfl) (fun x1 => ?_)
      refine sX_aload_n (i := 0) (by decide +kernel) rfl ?_
      refine sX_iload_n (i := 1) (by decide +kernel) rfl ?_
      refine sX_callVp (As := [.int v1]) (by decide +kernel) lm_X12_538 mf_X12_goalOf mi_X12_goalOf mc_12 (m_X12_goalOf G l v0 v1 M) (fun _ h => sRc_some h) (by decide) rfl rfl (Nat.le_of_ble_eq_true rfl) (fun x2 => ?_)
      refine sX_aload_n (i := 0) (by decide +kernel) rfl ?_
      refine sX_iload_n (i := 1) (by decide +kernel) rfl ?_
      refine sX_callVp (As := [.int v1]) (by decide +kernel) lm_X12_541 mf_X12_minuteOf mi_X12_minuteOf mc_12 (m_X12_minuteOf G l v0 v1 M) (fun _ h => sRc_some h) (by decide) rfl rfl (Nat.le_of_ble_eq_true rfl) (fun x3 => ?_)
      refine sX_iload_n (i := 3) (by decide +kernel) rfl ?_
      refine sX_iload (i := 5) (by decide +kernel) rfl ?_
      refine sX_ior (by decide +kernel) ?_
      refine sX_callV (As := [.int x1, .int x2, .int x3, .int (v3 ||| v5)]) (by decide +kernel) lm_X12_547 mf_X12_driveOf mi_X12_driveOf mc_12 (m_X12_driveOf G l v0 x1 x2 x3 ((v3 ||| v5)) M) (fun _ h => sRc_some h) (by decide) rfl rfl (Nat.le_of_ble_eq_true rfl) (fun x4 M5 _ => ?_)
      refine sX_istore (i := 6) (ls2 := [some (.ref v0), some (.int v1), some (.int v2), some (.int v3), some (.int v4), some (.int v5), some (.int x4)]) (by decide +kernel) (by decide) rfl ?_
      refine sX_iload (i := 6) (by decide +kernel) rfl ?_
      refine sX_iconst (n := -1) (v := (-1 : Int32)) (by decide +kernel) (by decide) ?_
      refine sX_iceq (o := 13) (t := 113) (by decide +kernel) (by decide) (fun _ => ?_) (fun _ => ?_)
      · exact sX.le (xB113 v4 v5 M5) (sLe_s (sLe_s (sLe_s (sLe_s (sLe_s (sLe_s (sLe_n sLe_e)))))))
      · refine sX_iload (i := 6) (by decide +kernel) rfl ?_
        refine sX_iload_n (i := 2) (by decide +kernel) rfl ?_
        refine sX_icgt (o := 7) (t := 113) (by decide +kernel) (by decide) (fun _ => ?_) (fun _ => ?_)
        · exact sX.le (xB113 v4 v5 M5) (sLe_s (sLe_s (sLe_s (sLe_s (sLe_s (sLe_s (sLe_n sLe_e)))))))
        · refine sX_iload (i := 5) (by decide +kernel) rfl ?_
          refine sX_istore (i := 4) (ls2 := [some (.ref v0), some (.int v1), some (.int v2), some (.int v3), some (.int v5), some (.int v5), some (.int x4)]) (by decide +kernel) (by decide) rfl ?_
          exact sX.le (xB113 v5 v5 M5) (sLe_s (sLe_s (sLe_s (sLe_s (sLe_s (sLe_s (sLe_n sLe_e)))))))
    have xK32 : ∀ (v4 : Int32) (v5 : Int32) (M : sMem), sX G l 7 yX12_lift cX12_lift 7 (some .int) M0 r M' 32 [some (.ref v0), some (.int v1), some (.int v2), some (.int v3), some (.int v4), some (.int v5), none] [] M (f_X12_lift_K32 v0 v1 v2 v3 v4 v5 M) K1 := by
      intro v4 v5 M
      unfold f_X12_lift_K32
      refine sX_iload (i := 5) (by decide +kernel) rfl ?_
      refine sX_iconst (n := 1) (v := (1 : Int32)) (by decide +kernel) (by decide) ?_
      refine sX_aload_n (i := 0) (by decide +kernel) rfl ?_
      refine sX_callVp (As := []) (by decide +kernel) lm_X12_460 mf_X12_gateMany mi_X12_gateMany mc_12 (m_X12_gateMany G l v0 M) (fun _ h => sRc_some h) (by decide) rfl rfl (Nat.le_of_ble_eq_true rfl) (fun x6 => ?_)
      refine sX_ishl (by decide +kernel) ?_
      refine sX_icge (o := 79) (t := 119) (by decide +kernel) (by decide) (fun _ => ?_) (fun _ => ?_)
      · refine sX_iload (i := 4) (by decide +kernel) rfl ?_
        refine sX_exit he1 ?_
        exact sX_some (fun h _ => sW_iret (by decide +kernel) rfl (hr _ h).1.symm (hr _ h).2.symm)
      · refine sX_iload (i := 5) (by decide +kernel) rfl ?_
        refine sX_iload_n (i := 3) (by decide +kernel) rfl ?_
        refine sX_iand (by decide +kernel) ?_
        refine sX_ifne (o := 66) (t := 113) (by decide +kernel) (by decide) (fun _ => ?_) (fun _ => ?_)
        · refine sX_iload (i := 4) (by decide +kernel) rfl ?_
          refine sX_iconst (n := -1) (v := (-1 : Int32)) (by decide +kernel) (by decide) ?_
          refine sX_iceq (o := 19) (t := 72) (by decide +kernel) (by decide) (fun _ => ?_) (fun _ => ?_)
          · exact sX.le (xB72 v4 v5 M) (sLe_s (sLe_s (sLe_s (sLe_s (sLe_s (sLe_s (sLe_n sLe_e)))))))
          · refine sX_iload (i := 5) (by decide +kernel) rfl ?_
            refine sX_callSp (As := [.int v5]) (by decide +kernel) lm_X12_582 mf_X12_bits ms_X12_bits (m_X12_bits G l v5 M) (by decide) rfl rfl (Nat.le_of_ble_eq_true rfl) (fun x7 => ?_)
            refine sX_iload (i := 4) (by decide +kernel) rfl ?_
            refine sX_callSp (As := [.int v4]) (by decide +kernel) lm_X12_582 mf_X12_bits ms_X12_bits (m_X12_bits G l v4 M) (by decide) rfl rfl (Nat.le_of_ble_eq_true rfl) (fun x8 => ?_)
            refine sX_iclt (o := 6) (t := 72) (by decide +kernel) (by decide) (fun _ => ?_) (fun _ => ?_)
            · exact sX.le (xB72 v4 v5 M) (sLe_s (sLe_s (sLe_s (sLe_s (sLe_s (sLe_s (sLe_n sLe_e)))))))
            · refine sX_goto (o := 44) (t := 113) (by decide +kernel) (by decide) ?_
              exact sX.le (xB113 v4 v5 M) (sLe_s (sLe_s (sLe_s (sLe_s (sLe_s (sLe_s (sLe_n sLe_e)))))))
        · exact sX.le (xB113 v4 v5 M) (sLe_s (sLe_s (sLe_s (sLe_s (sLe_s (sLe_s (sLe_n sLe_e)))))))
    exact fun a => xK32 a.1 a.2.1 a.2.2
  refine sX_rc ?_
  refine sX_aload_n (i := 0) (by decide +kernel) rfl ?_
  refine sX_iload_n (i := 1) (by decide +kernel) rfl ?_
  refine sX_callVp (As := [.int v1]) (by decide +kernel) lm_X12_594 mf_X12_isCar mi_X12_isCar mc_12 (m_X12_isCar G l v0 v1 M0) (fun _ h => sRc_some h) (by decide) rfl rfl (Nat.le_of_ble_eq_true rfl) (fun x9 => ?_)
  refine sX_ifeq (o := 10) (t := 15) (by decide +kernel) (by decide) (fun _ => ?_) (fun _ => ?_)
  · refine sX_iconst (n := -1) (v := (-1 : Int32)) (by decide +kernel) (by decide) ?_
    exact sX_some (fun h _ => sW_iret (by decide +kernel) rfl (hr _ h).1.symm (hr _ h).2.symm)
  · refine sX_iload_n (i := 2) (by decide +kernel) rfl ?_
    refine sX_callSp (As := [.int v2]) (by decide +kernel) lm_X12_601 mf_X12_isMinute ms_X12_isMinute (m_X12_isMinute G l v2 M0) (by decide) rfl rfl (Nat.le_of_ble_eq_true rfl) (fun x10 => ?_)
    refine sX_ifne (o := 5) (t := 17) (by decide +kernel) (by decide) (fun _ => ?_) (fun _ => ?_)
    · refine sX_iconst (n := -1) (v := (-1 : Int32)) (by decide +kernel) (by decide) ?_
      exact sX_some (fun h _ => sW_iret (by decide +kernel) rfl (hr _ h).1.symm (hr _ h).2.symm)
    · refine sX_aload_n (i := 0) (by decide +kernel) rfl ?_
      refine sX_callVv (As := []) (by decide +kernel) lm_X12_564 mf_X12_laysShut mi_X12_laysShut mc_12 (m_X12_laysShut G l v0 M0) (fun _ h => sRc_some h) (by decide) rfl rfl (Nat.le_of_ble_eq_true rfl) (fun M11 => ?_)
      refine sX_aload_n (i := 0) (by decide +kernel) rfl ?_
      refine sX_callVp (As := []) (by decide +kernel) lm_X12_544 mf_X12_upSet mi_X12_upSet mc_12 (m_X12_upSet G l v0 M11) (fun _ h => sRc_some h) (by decide) rfl rfl (Nat.le_of_ble_eq_true rfl) (fun x12 => ?_)
      refine sX_istore_n (i := 3) (ls2 := [some (.ref v0), some (.int v1), some (.int v2), some (.int x12), none, none, none]) (by decide +kernel) (by decide) rfl ?_
      refine sX_iconst (n := -1) (v := (-1 : Int32)) (by decide +kernel) (by decide) ?_
      refine sX_istore (i := 4) (ls2 := [some (.ref v0), some (.int v1), some (.int v2), some (.int x12), some (.int (-1 : Int32)), none, none]) (by decide +kernel) (by decide) rfl ?_
      refine sX_iconst (n := 0) (v := (0 : Int32)) (by decide +kernel) (by decide) ?_
      refine sX_istore (i := 5) (ls2 := [some (.ref v0), some (.int v1), some (.int v2), some (.int x12), some (.int (-1 : Int32)), some (.int (0 : Int32)), none]) (by decide +kernel) (by decide) rfl ?_
      exact sX.le (xL32 v0 v1 v2 x12 ((-1 : Int32)) ((0 : Int32)) M11) (sLe_s (sLe_s (sLe_s (sLe_s (sLe_s (sLe_s (sLe_n sLe_e)))))))
def f_X12_leave_B101 (v2 : Int32) (v3 : Int32) (v4 : Int32) (M : sMem) : Option (Int32 × sMem) :=
  if v3 = (-1 : Int32) then
    some (((-1 : Int32), M))
  else
    if v2 = 0 then
      some ((v3, M))
    else
      some ((v4, M))
def f_X12_leave_B95 (v0 : Nat) (v1 : Int32) (v2 : Int32) (v3 : Int32) (v4 : Int32) (v5 : Int32) (M : sMem) : Option ((Int32 × Int32 × Int32 × sMem) ⊕ ((Int32 × Int32 × sMem))) :=
  some (.inl ((v3, v4, ((v5 + (1 : Int32))), M)))
def f_X12_leave_B85 (v0 : Nat) (v1 : Int32) (v2 : Int32) (v5 : Int32) (v6 : Int32) (M : sMem) : Option ((Int32 × Int32 × Int32 × sMem) ⊕ ((Int32 × Int32 × sMem))) :=
  f_X12_leave_B95 v0 v1 v2 v5 ((v6 - v5)) v5 M
def f_X12_leave_K32 (v0 : Nat) (v1 : Int32) (v2 : Int32) (v3 : Int32) (v4 : Int32) (v5 : Int32) (M : sMem) : Option ((Int32 × Int32 × Int32 × sMem) ⊕ ((Int32 × Int32 × sMem))) :=
  if (100 : Int32) ≤ v5 then
    some (.inr ((v3, v4, M)))
  else
    (f_X12_placeOf v0 v1 M).bind fun x1 =>
    (f_X12_goalOf v0 v1 M).bind fun x2 =>
    (f_X12_upSet v0 M).bind fun x3 =>
    (f_X12_driveOf v0 x1 x2 v5 x3 M).bind fun (x4, M5) =>
    if x4 = (-1 : Int32) then
      f_X12_leave_B95 v0 v1 v2 v3 v4 v5 M5
    else
      if v3 = (-1 : Int32) then
        f_X12_leave_B85 v0 v1 v2 v5 x4 M5
      else
        if (x4 - v5) < v4 then
          f_X12_leave_B85 v0 v1 v2 v5 x4 M5
        else
          f_X12_leave_B95 v0 v1 v2 v3 v4 v5 M5
def f_X12_leave_L32 (v0 : Nat) (v1 : Int32) (v2 : Int32) (v3 : Int32) (v4 : Int32) (v5 : Int32) (M : sMem) : Option (Int32 × sMem) :=
  (sItr (fun a : (Int32 × Int32 × Int32 × sMem) => f_X12_leave_K32 v0 v1 v2 a.1 a.2.1 a.2.2.1 a.2.2.2) sFuel (v3, v4, v5, M)).bind (fun b => f_X12_leave_B101 v2 b.1 b.2.1 b.2.2)
def f_X12_leave (v0 : Nat) (v1 : Int32) (v2 : Int32) (M0 : sMem) : Option (Int32 × sMem) :=
  sRc 12 127 M0 v0 (
    (f_X12_isCar v0 v1 M0).bind fun x6 =>
    if x6 = 0 then
      some (((-1 : Int32), M0))
    else
      (f_X12_isIn v2.toInt64 ((0 : Int64)) ((1 : Int64)) M0).bind fun x7 =>
      if x7 = 0 then
        some (((-1 : Int32), M0))
      else
        (f_X12_laysShut v0 M0).bind fun M8 =>
        f_X12_leave_L32 v0 v1 v2 ((-1 : Int32)) ((0 : Int32)) ((0 : Int32)) M8)
set_option maxRecDepth 100000 in
set_option maxHeartbeats 4000000 in
theorem m_X12_leave (G : sG) (l : Launch) (v0 : Nat) (v1 : Int32) (v2 : Int32) (M0 : sMem) : sC G l 7 yX12_leave cX12_leave 7 (some .int) [.ref v0, .int v1, .int v2] M0 rvI (f_X12_leave v0 v1 v2 M0) := by
  refine sC_m (ls := [some (.ref v0), some (.int v1), some (.int v2), none, none, none, none]) (by decide +kernel) rfl (Nat.le_of_ble_eq_true rfl) (fun r M' K hr => ?_)
  unfold f_X12_leave
  have xB101 : ∀ (v2 : Int32) (v3 : Int32) (v4 : Int32) (M : sMem), sX G l 7 yX12_leave cX12_leave 7 (some .int) M0 r M' 101 [none, none, some (.int v2), some (.int v3), some (.int v4), none, none] [] M (f_X12_leave_B101 v2 v3 v4 M) K := by
    intro v2 v3 v4 M
    unfold f_X12_leave_B101
    refine sX_iload_n (i := 3) (by decide +kernel) rfl ?_
    refine sX_iconst (n := -1) (v := (-1 : Int32)) (by decide +kernel) (by decide) ?_
    refine sX_icne (o := 7) (t := 110) (by decide +kernel) (by decide) (fun _ => ?_) (fun _ => ?_)
    · refine sX_iconst (n := -1) (v := (-1 : Int32)) (by decide +kernel) (by decide) ?_
      refine sX_goto (o := 13) (t := 120) (by decide +kernel) (by decide) ?_
      exact sX_some (fun h _ => sW_iret (by decide +kernel) rfl (hr _ h).1.symm (hr _ h).2.symm)
    · refine sX_iload_n (i := 2) (by decide +kernel) rfl ?_
      refine sX_ifne (o := 7) (t := 118) (by decide +kernel) (by decide) (fun _ => ?_) (fun _ => ?_)
      · refine sX_iload_n (i := 3) (by decide +kernel) rfl ?_
        refine sX_goto (o := 5) (t := 120) (by decide +kernel) (by decide) ?_
        exact sX_some (fun h _ => sW_iret (by decide +kernel) rfl (hr _ h).1.symm (hr _ h).2.symm)
      · refine sX_iload (i := 4) (by decide +kernel) rfl ?_
        exact sX_some (fun h _ => sW_iret (by decide +kernel) rfl (hr _ h).1.symm (hr _ h).2.symm)
  have xL32 : ∀ (v0 : Nat) (v1 : Int32) (v2 : Int32) (v3 : Int32) (v4 : Int32) (v5 : Int32) (M : sMem), sX G l 7 yX12_leave cX12_leave 7 (some .int) M0 r M' 32 [some (.ref v0), some (.int v1), some (.int v2), some (.int v3), some (.int v4), some (.int v5), none] [] M (f_X12_leave_L32 v0 v1 v2 v3 v4 v5 M) K := by
    intro v0 v1 v2 v3 v4 v5 M
    unfold f_X12_leave_L32
    refine sX_bind ?_
    refine sX_loop (LS := fun a : (Int32 × Int32 × Int32 × sMem) => [some (.ref v0), some (.int v1), some (.int v2), some (.int a.1), some (.int a.2.1), some (.int a.2.2.1), none]) (MM := fun a => a.2.2.2) (fun K1 hb1 he1 => ?_) sFuel ((v3, v4, v5, M))
    have xB95 : ∀ (v3 : Int32) (v4 : Int32) (v5 : Int32) (M : sMem), sX G l 7 yX12_leave cX12_leave 7 (some .int) M0 r M' 95 [some (.ref v0), some (.int v1), some (.int v2), some (.int v3), some (.int v4), some (.int v5), none] [] M (f_X12_leave_B95 v0 v1 v2 v3 v4 v5 M) K1 := by
      intro v3 v4 v5 M
      unfold f_X12_leave_B95
      refine sX_iinc (i := 5) (n := 1) (v := v5 + (1 : Int32)) (ls2 := [some (.ref v0), some (.int v1), some (.int v2), some (.int v3), some (.int v4), some (.int (v5 + (1 : Int32))), none]) (by decide +kernel) rfl rfl (by decide) rfl ?_
      refine sX_goto (o := -66) (t := 32) (by decide +kernel) (by decide) ?_
      exact sX_back (a := (v3, v4, ((v5 + (1 : Int32))), M)) hb1 rfl (sLe_s (sLe_s (sLe_s (sLe_s (sLe_s (sLe_s (sLe_n sLe_e)))))))
    have xB85 : ∀ (v5 : Int32) (v6 : Int32) (M : sMem), sX G l 7 yX12_leave cX12_leave 7 (some .int) M0 r M' 85 [some (.ref v0), some (.int v1), some (.int v2), none, none, some (.int v5), some (.int v6)] [] M (f_X12_leave_B85 v0 v1 v2 v5 v6 M) K1 := by
      intro v5 v6 M
      unfold f_X12_leave_B85
      refine sX_iload (i := 5) (by decide +kernel) rfl ?_
      refine sX_istore_n (i := 3) (ls2 := [some (.ref v0), some (.int v1), some (.int v2), some (.int v5), none, some (.int v5), some (.int v6)]) (by decide +kernel) (by decide) rfl ?_
      refine sX_iload (i := 6) (by decide +kernel) rfl ?_
      refine sX_iload (i := 5) (by decide +kernel) rfl ?_
      refine sX_isub (by decide +kernel) ?_
      refine sX_istore (i := 4) (ls2 := [some (.ref v0), some (.int v1), some (.int v2), some (.int v5), some (.int (v6 - v5)), some (.int v5), some (.int v6)]) (by decide +kernel) (by decide) rfl ?_
      exact sX.le (xB95 v5 ((v6 - v5)) v5 M) (sLe_s (sLe_s (sLe_s (sLe_s (sLe_s (sLe_s (sLe_n sLe_e)))))))
    have xK32 : ∀ (v3 : Int32) (v4 : Int32) (v5 : Int32) (M : sMem), sX G l 7 yX12_leave cX12_leave 7 (some .int) M0 r M' 32 [some (.ref v0), some (.int v1), some (.int v2), some (.int v3), some (.int v4), some (.int v5), none] [] M (f_X12_leave_K32 v0 v1 v2 v3 v4 v5 M) K1 := by
      intro v3 v4 v5 M
      unfold f_X12_leave_K32
      refine sX_iload (i := 5) (by decide +kernel) rfl ?_
      refine sX_bipush (n := 100) (v := (100 : Int32)) (by decide +kernel) (by decide) ?_
      refine sX_icge (o := 65) (t := 101) (by decide +kernel) (by decide) (fun _ => ?_) (fun _ => ?_)
      · refine sX_exit he1 ?_
        exact sX.le (xB101 v2 v3 v4 M) (sLe_n (sLe_n (sLe_s (sLe_s (sLe_s (sLe_n (sLe_n sLe_e)))))))
      · refine sX_aload_n (i := 0) (by decide +kernel) rfl ?_
        refine sX_aload_n (i := 0) (by decide +kernel) rfl ?_
        refine sX_iload_n (i := 1) (by decide +kernel) rfl ?_
        refine sX_callVp (As := [.int v1]) (by decide +kernel) lm_X12_535 mf_X12_placeOf mi_X12_placeOf mc_12 (m_X12_placeOf G l v0 v1 M) (fun _ h => sRc_some h) (by decide) rfl rfl (Nat.le_of_ble_eq_true rfl) (fun x1 => ?_)
        refine sX_aload_n (i := 0) (by decide +kernel) rfl ?_
        refine sX_iload_n (i := 1) (by decide +kernel) rfl ?_
        refine sX_callVp (As := [.int v1]) (by decide +kernel) lm_X12_538 mf_X12_goalOf mi_X12_goalOf mc_12 (m_X12_goalOf G l v0 v1 M) (fun _ h => sRc_some h) (by decide) rfl rfl (Nat.le_of_ble_eq_true rfl) (fun x2 => ?_)
        refine sX_iload (i := 5) (by decide +kernel) rfl ?_
        refine sX_aload_n (i := 0) (by decide +kernel) rfl ?_
        refine sX_callVp (As := []) (by decide +kernel) lm_X12_544 mf_X12_upSet mi_X12_upSet mc_12 (m_X12_upSet G l v0 M) (fun _ h => sRc_some h) (by decide) rfl rfl (Nat.le_of_ble_eq_true rfl) (fun x3 => ?_)
        refine sX_callV (As := [.int x1, .int x2, .int v5, .int x3]) (by decide +kernel) lm_X12_547 mf_X12_driveOf mi_X12_driveOf mc_12 (m_X12_driveOf G l v0 x1 x2 v5 x3 M) (fun _ h => sRc_some h) (by decide) rfl rfl (Nat.le_of_ble_eq_true rfl) (fun x4 M5 _ => ?_)
        refine sX_istore (i := 6) (ls2 := [some (.ref v0), some (.int v1), some (.int v2), some (.int v3), some (.int v4), some (.int v5), some (.int x4)]) (by decide +kernel) (by decide) rfl ?_
        refine sX_iload (i := 6) (by decide +kernel) rfl ?_
        refine sX_iconst (n := -1) (v := (-1 : Int32)) (by decide +kernel) (by decide) ?_
        refine sX_iceq (o := 31) (t := 95) (by decide +kernel) (by decide) (fun _ => ?_) (fun _ => ?_)
        · exact sX.le (xB95 v3 v4 v5 M5) (sLe_s (sLe_s (sLe_s (sLe_s (sLe_s (sLe_s (sLe_n sLe_e)))))))
        · refine sX_iload_n (i := 3) (by decide +kernel) rfl ?_
          refine sX_iconst (n := -1) (v := (-1 : Int32)) (by decide +kernel) (by decide) ?_
          refine sX_iceq (o := 16) (t := 85) (by decide +kernel) (by decide) (fun _ => ?_) (fun _ => ?_)
          · exact sX.le (xB85 v5 x4 M5) (sLe_s (sLe_s (sLe_s (sLe_n (sLe_n (sLe_s (sLe_s sLe_e)))))))
          · refine sX_iload (i := 6) (by decide +kernel) rfl ?_
            refine sX_iload (i := 5) (by decide +kernel) rfl ?_
            refine sX_isub (by decide +kernel) ?_
            refine sX_iload (i := 4) (by decide +kernel) rfl ?_
            refine sX_iclt (o := 6) (t := 85) (by decide +kernel) (by decide) (fun _ => ?_) (fun _ => ?_)
            · exact sX.le (xB85 v5 x4 M5) (sLe_s (sLe_s (sLe_s (sLe_n (sLe_n (sLe_s (sLe_s sLe_e)))))))
            · refine sX_goto (o := 13) (t := 95) (by decide +kernel) (by decide) ?_
              exact sX.le (xB95 v3 v4 v5 M5) (sLe_s (sLe_s (sLe_s (sLe_s (sLe_s (sLe_s (sLe_n sLe_e)))))))
    exact fun a => xK32 a.1 a.2.1 a.2.2.1 a.2.2.2
  refine sX_rc ?_
  refine sX_aload_n (i := 0) (by decide +kernel) rfl ?_
  refine sX_iload_n (i := 1) (by decide +kernel) rfl ?_
  refine sX_callVp (As := [.int v1]) (by decide +kernel) lm_X12_594 mf_X12_isCar mi_X12_isCar mc_12 (m_X12_isCar G l v0 v1 M0) (fun _ h => sRc_some h) (by decide) rfl rfl (Nat.le_of_ble_eq_true rfl) (fun x6 => ?_)
  refine sX_ifeq (o := 13) (t := 18) (by decide +kernel) (by decide) (fun _ => ?_) (fun _ => ?_)
  · refine sX_iconst (n := -1) (v := (-1 : Int32)) (by decide +kernel) (by decide) ?_
    exact sX_some (fun h _ => sW_iret (by decide +kernel) rfl (hr _ h).1.symm (hr _ h).2.symm)
  · refine sX_iload_n (i := 2) (by decide +kernel) rfl ?_
    refine sX_i2l (by decide +kernel) ?_
    refine sX_lconst (n := 0) (v := (0 : Int64)) (by decide +kernel) (by decide) ?_
    refine sX_lconst (n := 1) (v := (1 : Int64)) (by decide +kernel) (by decide) ?_
    refine sX_callSp (As := [.long v2.toInt64, .long (0 : Int64), .long (1 : Int64)]) (by decide +kernel) lm_X12_343 mf_X12_isIn ms_X12_isIn (m_X12_isIn G l v2.toInt64 ((0 : Int64)) ((1 : Int64)) M0) (by decide) rfl rfl (Nat.le_of_ble_eq_true rfl) (fun x7 => ?_)
    refine sX_ifne (o := 5) (t := 20) (by decide +kernel) (by decide) (fun _ => ?_) (fun _ => ?_)
    · refine sX_iconst (n := -1) (v := (-1 : Int32)) (by decide +kernel) (by decide) ?_
      exact sX_some (fun h _ => sW_iret (by decide +kernel) rfl (hr _ h).1.symm (hr _ h).2.symm)
    · refine sX_aload_n (i := 0) (by decide +kernel) rfl ?_
      refine sX_callVv (As := []) (by decide +kernel) lm_X12_564 mf_X12_laysShut mi_X12_laysShut mc_12 (m_X12_laysShut G l v0 M0) (fun _ h => sRc_some h) (by decide) rfl rfl (Nat.le_of_ble_eq_true rfl) (fun M8 => ?_)
      refine sX_iconst (n := -1) (v := (-1 : Int32)) (by decide +kernel) (by decide) ?_
      refine sX_istore_n (i := 3) (ls2 := [some (.ref v0), some (.int v1), some (.int v2), some (.int (-1 : Int32)), none, none, none]) (by decide +kernel) (by decide) rfl ?_
      refine sX_iconst (n := 0) (v := (0 : Int32)) (by decide +kernel) (by decide) ?_
      refine sX_istore (i := 4) (ls2 := [some (.ref v0), some (.int v1), some (.int v2), some (.int (-1 : Int32)), some (.int (0 : Int32)), none, none]) (by decide +kernel) (by decide) rfl ?_
      refine sX_iconst (n := 0) (v := (0 : Int32)) (by decide +kernel) (by decide) ?_
      refine sX_istore (i := 5) (ls2 := [some (.ref v0), some (.int v1), some (.int v2), some (.int (-1 : Int32)), some (.int (0 : Int32)), some (.int (0 : Int32)), none]) (by decide +kernel) (by decide) rfl ?_
      exact sX.le (xL32 v0 v1 v2 ((-1 : Int32)) ((0 : Int32)) ((0 : Int32)) M8) (sLe_s (sLe_s (sLe_s (sLe_s (sLe_s (sLe_s (sLe_n sLe_e)))))))
def f_X12_laysClosings_B107 (v0 : Nat) (v2 : Int32) (v3 : Int32) (M : sMem) : Option ((Int32 × sMem) ⊕ ((sMem))) :=
  some (.inl ((((v3 + (1 : Int32))), M)))
def f_X12_laysClosings_B101 (v0 : Nat) (v2 : Int32) (v3 : Int32) (v4 : Int32) (M : sMem) : Option ((Int32 × sMem) ⊕ ((sMem))) :=
  some (.inl ((((v4 + (1 : Int32))), M)))
def f_X12_laysClosings_B88 (v0 : Nat) (v2 : Int32) (v3 : Int32) (v4 : Int32) (M : sMem) : Option ((Int32 × sMem) ⊕ ((sMem))) :=
  (gR 12 127 75 M v0).bind fun x1 =>
  (gI 12 127 72 M v0).bind fun x2 =>
  (stI M x1 ((x2 - (1 : Int32))) v4).bind fun M3 =>
  f_X12_laysClosings_B101 v0 v2 v3 v4 M3
def f_X12_laysClosings_B57 (v0 : Nat) (v2 : Int32) (v3 : Int32) (v4 : Int32) (M : sMem) : Option ((Int32 × sMem) ⊕ ((sMem))) :=
  (gR 12 127 73 M v0).bind fun x4 =>
  (gI 12 127 72 M v0).bind fun x5 =>
  (stI M x4 x5 v3).bind fun M6 =>
  (gR 12 127 74 M6 v0).bind fun x7 =>
  (gI 12 127 72 M6 v0).bind fun x8 =>
  (stI M6 x7 x8 v4).bind fun M9 =>
  (gI 12 127 72 M9 v0).bind fun x10 =>
  (pI 12 127 72 M9 v0 ((x10 + (1 : Int32)))).bind fun M11 =>
  f_X12_laysClosings_B88 v0 v2 v3 v4 M11
def f_X12_laysClosings_K19 (v0 : Nat) (v2 : Int32) (v3 : Int32) (v4 : Int32) (M : sMem) : Option ((Int32 × sMem) ⊕ ((sMem))) :=
  if (200 : Int32) ≤ v4 then
    some (.inr M)
  else
    (f_X12_isClosed v0 v3 v4 M).bind fun x12 =>
    if x12 = 0 then
      f_X12_laysClosings_B101 v0 v2 v3 v4 M
    else
      if v4 = 0 then
        f_X12_laysClosings_B57 v0 v2 v3 v4 M
      else
        (f_X12_isClosed v0 v3 ((v4 - (1 : Int32))) M).bind fun x13 =>
        if x13 = 0 then
          f_X12_laysClosings_B57 v0 v2 v3 v4 M
        else
          f_X12_laysClosings_B88 v0 v2 v3 v4 M
def f_X12_laysClosings_L19 (v0 : Nat) (v2 : Int32) (v3 : Int32) (v4 : Int32) (M : sMem) : Option ((Int32 × sMem) ⊕ ((sMem))) :=
  (sItr (fun a : (Int32 × sMem) => f_X12_laysClosings_K19 v0 v2 v3 a.1 a.2) sFuel (v4, M)).bind (fun b => f_X12_laysClosings_B107 v0 v2 v3 b)
def f_X12_laysClosings_K11 (v0 : Nat) (v2 : Int32) (v3 : Int32) (M : sMem) : Option ((Int32 × sMem) ⊕ ((sMem))) :=
  if v2 < v3 then
    some (.inr M)
  else
    f_X12_laysClosings_L19 v0 v2 v3 ((0 : Int32)) M
def f_X12_laysClosings_L11 (v0 : Nat) (v2 : Int32) (v3 : Int32) (M : sMem) : Option sMem :=
  (sItr (fun a : (Int32 × sMem) => f_X12_laysClosings_K11 v0 v2 a.1 a.2) sFuel (v3, M)).bind (fun b => some b)
def f_X12_laysClosings (v0 : Nat) (v1 : Int32) (v2 : Int32) (M0 : sMem) : Option sMem :=
  sRc 12 127 M0 v0 (
    (pI 12 127 72 M0 v0 ((0 : Int32))).bind fun M14 =>
    (f_X12_laysShut v0 M14).bind fun M15 =>
    f_X12_laysClosings_L11 v0 v2 v1 M15)
set_option maxRecDepth 100000 in
set_option maxHeartbeats 4000000 in
theorem m_X12_laysClosings (G : sG) (l : Launch) (v0 : Nat) (v1 : Int32) (v2 : Int32) (M0 : sMem) : sCv G l 7 yX12_laysClosings cX12_laysClosings 5 none [.ref v0, .int v1, .int v2] M0 (f_X12_laysClosings v0 v1 v2 M0) := by
  refine sC_v (ls := [some (.ref v0), some (.int v1), some (.int v2), none, none]) (by decide +kernel) rfl (Nat.le_of_ble_eq_true rfl) (fun r M' K hr => ?_)
  unfold f_X12_laysClosings
  have xL11 : ∀ (v0 : Nat) (v2 : Int32) (v3 : Int32) (M : sMem), sX G l 7 yX12_laysClosings cX12_laysClosings 5 none M0 r M' 11 [some (.ref v0), none, some (.int v2), some (.int v3), none] [] M (f_X12_laysClosings_L11 v0 v2 v3 M) K := by
    intro v0 v2 v3 M
    unfold f_X12_laysClosings_L11
    refine sX_bind ?_
    refine sX_loop (LS := fun a : (Int32 × sMem) => [some (.ref v0), none, some (.int v2), some (.int a.1), none]) (MM := fun a => a.2) (fun K1 hb1 he1 => ?_) sFuel ((v3, M))
    have xB107 : ∀ (v3 : Int32) (M : sMem), sX G l 7 yX12_laysClosings cX12_laysClosings 5 none M0 r M' 107 [some (.ref v0), none, some (.int v2), some (.int v3), none] [] M (f_X12_laysClosings_B107 v0 v2 v3 M) K1 := by
      intro v3 M
      unfold f_X12_laysClosings_B107
      refine sX_iinc (i := 3) (n := 1) (v := v3 + (1 : Int32)) (ls2 := [some (.ref v0), none, some (.int v2), some (.int (v3 + (1 : Int32))), none]) (by decide +kernel) rfl rfl (by decide) rfl ?_
      refine sX_goto (o := -99) (t := 11) (by decide +kernel) (by decide) ?_
      exact sX_back (a := (((v3 + (1 : Int32))), M)) hb1 rfl (sLe_s (sLe_n (sLe_s (sLe_s (sLe_n sLe_e)))))
    have xL19 : ∀ (v3 : Int32) (v4 : Int32) (M : sMem), sX G l 7 yX12_laysClosings cX12_laysClosings 5 none M0 r M' 19 [some (.ref v0), none, some (.int v2), some (.int v3), some (.int v4)] [] M (f_X12_laysClosings_L19 v0 v2 v3 v4 M) K1 := by
      intro v3 v4 M
      unfold f_X12_laysClosings_L19
      refine sX_bind ?_
      refine sX_loop (LS := fun a : (Int32 × sMem) => [some (.ref v0), none, some (.int v2), some (.int v3), some (.int a.1)]) (MM := fun a => a.2) (fun K2 hb2 he2 => ?_) sFuel ((v4, M))
      have xB101 : ∀ (v4 : Int32) (M : sMem), sX G l 7 yX12_laysClosings cX12_laysClosings 5 none M0 r M' 101 [some (.ref v0), none, some (.int v2), some (.int v3), some (.int v4)] [] M (f_X12_laysClosings_B101 v0 v2 v3 v4 M) K2 := by
        intro v4 M
        unfold f_X12_laysClosings_B101
        refine sX_iinc (i := 4) (n := 1) (v := v4 + (1 : Int32)) (ls2 := [some (.ref v0), none, some (.int v2), some (.int v3), some (.int (v4 + (1 : Int32)))]) (by decide +kernel) rfl rfl (by decide) rfl ?_
        refine sX_goto (o := -85) (t := 19) (by decide +kernel) (by decide) ?_
        exact sX_back (a := (((v4 + (1 : Int32))), M)) hb2 rfl (sLe_s (sLe_n (sLe_s (sLe_s (sLe_s sLe_e)))))
      have xB88 : ∀ (v4 : Int32) (M : sMem), sX G l 7 yX12_laysClosings cX12_laysClosings 5 none M0 r M' 88 [some (.ref v0), none, some (.int v2), some (.int v3), some (.int v4)] [] M (f_X12_laysClosings_B88 v0 v2 v3 v4 M) K2 := by
        intro v4 M
        unfold f_X12_laysClosings_B88
        refine sX_aload_n (i := 0) (by decide +kernel) rfl ?_
        refine sX_getR lf_X12_176 tk_12_75 (by decide +kernel) (fun x1 => ?_)
        refine sX_aload_n (i := 0) (by decide +kernel) rfl ?_
        refine sX_getI lf_X12_623 tk_12_72 (by decide +kernel) (fun x2 => ?_)
        refine sX_iconst (n := 1) (v := (1 : Int32)) (by decide +kernel) (by decide) ?_
        refine sX_isub (by decide +kernel) ?_
        refine sX_iload (i := 4) (by decide +kernel) rfl ?_
        refine sX_iastore (by decide +kernel) (by decide) (fun M3 => ?_)
        exact sX.le (xB101 v4 M3) (sLe_s (sLe_n (sLe_s (sLe_s (sLe_s sLe_e)))))
      have xB57 : ∀ (v4 : Int32) (M : sMem), sX G l 7 yX12_laysClosings cX12_laysClosings 5 none M0 r M' 57 [some (.ref v0), none, some (.int v2), some (.int v3), some (.int v4)] [] M (f_X12_laysClosings_B57 v0 v2 v3 v4 M) K2 := by
        intro v4 M
        unfold f_X12_laysClosings_B57
        refine sX_aload_n (i := 0) (by decide +kernel) rfl ?_
        refine sX_getR lf_X12_170 tk_12_73 (by decide +kernel) (fun x4 => ?_)
        refine sX_aload_n (i := 0) (by decide +kernel) rfl ?_
        refine sX_getI lf_X12_623 tk_12_72 (by decide +kernel) (fun x5 => ?_)
        refine sX_iload_n (i := 3) (by decide +kernel) rfl ?_
        refine sX_iastore (by decide +kernel) (by decide) (fun M6 => ?_)
        refine sX_aload_n (i := 0) (by decide +kernel) rfl ?_
        refine sX_getR lf_X12_173 tk_12_74 (by decide +kernel) (fun x7 => ?_)
        refine sX_aload_n (i := 0) (by decide +kernel) rfl ?_
        refine sX_getI lf_X12_623 tk_12_72 (by decide +kernel) (fun x8 => ?_)
        refine sX_iload (i := 4) (by decide +kernel) rfl ?_
        refine sX_iastore (by decide +kernel) (by decide) (fun M9 => ?_)
        refine sX_aload_n (i := 0) (by decide +kernel) rfl ?_
        refine sX_dup (by decide +kernel) rfl ?_
        refine sX_getI lf_X12_623 tk_12_72 (by decide +kernel) (fun x10 => ?_)
        refine sX_iconst (n := 1) (v := (1 : Int32)) (by decide +kernel) (by decide) ?_
        refine sX_iadd (by decide +kernel) ?_
        refine sX_putI lf_X12_623 tp_12_72 (by decide +kernel) (by decide) (fun M11 => ?_)
        exact sX.le (xB88 v4 M11) (sLe_s (sLe_n (sLe_s (sLe_s (sLe_s sLe_e)))))
      have xK19 : ∀ (v4 : Int32) (M : sMem), sX G l 7 yX12_laysClosings cX12_laysClosings 5 none M0 r M' 19 [some (.ref v0), none, some (.int v2), some (.int v3), some (.int v4)] [] M (f_X12_laysClosings_K19 v0 v2 v3 v4 M) K2 := by
        intro v4 M
        unfold f_X12_laysClosings_K19
        refine sX_iload (i := 4) (by decide +kernel) rfl ?_
        refine sX_sipush (n := 200) (v := (200 : Int32)) (by decide +kernel) (by decide) ?_
        refine sX_icge (o := 83) (t := 107) (by decide +kernel) (by decide) (fun _ => ?_) (fun _ => ?_)
        · refine sX_exit he2 ?_
          exact sX.le (xB107 v3 M) (sLe_s (sLe_n (sLe_s (sLe_s (sLe_n sLe_e)))))
        · refine sX_aload_n (i := 0) (by decide +kernel) rfl ?_
          refine sX_iload_n (i := 3) (by decide +kernel) rfl ?_
          refine sX_iload (i := 4) (by decide +kernel) rfl ?_
          refine sX_callVp (As := [.int v3, .int v4]) (by decide +kernel) lm_X12_604 mf_X12_isClosed mi_X12_isClosed mc_12 (m_X12_isClosed G l v0 v3 v4 M) (fun _ h => sRc_some h) (by decide) rfl rfl (Nat.le_of_ble_eq_true rfl) (fun x12 => ?_)
          refine sX_ifne (o := 6) (t := 40) (by decide +kernel) (by decide) (fun _ => ?_) (fun _ => ?_)
          · refine sX_goto (o := 64) (t := 101) (by decide +kernel) (by decide) ?_
            exact sX.le (xB101 v4 M) (sLe_s (sLe_n (sLe_s (sLe_s (sLe_s sLe_e)))))
          · refine sX_iload (i := 4) (by decide +kernel) rfl ?_
            refine sX_ifeq (o := 15) (t := 57) (by decide +kernel) (by decide) (fun _ => ?_) (fun _ => ?_)
            · exact sX.le (xB57 v4 M) (sLe_s (sLe_n (sLe_s (sLe_s (sLe_s sLe_e)))))
            · refine sX_aload_n (i := 0) (by decide +kernel) rfl ?_
              refine sX_iload_n (i := 3) (by decide +kernel) rfl ?_
              refine sX_iload (i := 4) (by decide +kernel) rfl ?_
              refine sX_iconst (n := 1) (v := (1 : Int32)) (by decide +kernel) (by decide) ?_
              refine sX_isub (by decide +kernel) ?_
              refine sX_callVp (As := [.int v3, .int (v4 - (1 : Int32))]) (by decide +kernel) lm_X12_604 mf_X12_isClosed mi_X12_isClosed mc_12 (m_X12_isClosed G l v0 v3 ((v4 - (1 : Int32))) M) (fun _ h => sRc_some h) (by decide) rfl rfl (Nat.le_of_ble_eq_true rfl) (fun x13 => ?_)
              refine sX_ifne (o := 34) (t := 88) (by decide +kernel) (by decide) (fun _ => ?_) (fun _ => ?_)
              · exact sX.le (xB57 v4 M) (sLe_s (sLe_n (sLe_s (sLe_s (sLe_s sLe_e)))))
              · exact sX.le (xB88 v4 M) (sLe_s (sLe_n (sLe_s (sLe_s (sLe_s sLe_e)))))
      exact fun a => xK19 a.1 a.2
    have xK11 : ∀ (v3 : Int32) (M : sMem), sX G l 7 yX12_laysClosings cX12_laysClosings 5 none M0 r M' 11 [some (.ref v0), none, some (.int v2), some (.int v3), none] [] M (f_X12_laysClosings_K11 v0 v2 v3 M) K1 := by
      intro v3 M
      unfold f_X12_laysClosings_K11
      refine sX_iload_n (i := 3) (by decide +kernel) rfl ?_
      refine sX_iload_n (i := 2) (by decide +kernel) rfl ?_
      refine sX_icgt (o := 100) (t := 113) (by decide +kernel) (by decide) (fun _ => ?_) (fun _ => ?_)
      · refine sX_exit he1 ?_
        exact sX_some (fun h _ => sW_vret (by decide +kernel) rfl (hr _ h).1.symm (hr _ h).2.symm)
      · refine sX_iconst (n := 0) (v := (0 : Int32)) (by decide +kernel) (by decide) ?_
        refine sX_istore (i := 4) (ls2 := [some (.ref v0), none, some (.int v2), some (.int v3), some (.int (0 : Int32))]) (by decide +kernel) (by decide) rfl ?_
        exact sX.le (xL19 v3 ((0 : Int32)) M) (sLe_s (sLe_n (sLe_s (sLe_s (sLe_s sLe_e)))))
    exact fun a => xK11 a.1 a.2
  refine sX_rc ?_
  refine sX_aload_n (i := 0) (by decide +kernel) rfl ?_
  refine sX_iconst (n := 0) (v := (0 : Int32)) (by decide +kernel) (by decide) ?_
  refine sX_putI lf_X12_623 tp_12_72 (by decide +kernel) (by decide) (fun M14 => ?_)
  refine sX_aload_n (i := 0) (by decide +kernel) rfl ?_
  refine sX_callVv (As := []) (by decide +kernel) lm_X12_564 mf_X12_laysShut mi_X12_laysShut mc_12 (m_X12_laysShut G l v0 M14) (fun _ h => sRc_some h) (by decide) rfl rfl (Nat.le_of_ble_eq_true rfl) (fun M15 => ?_)
  refine sX_iload_n (i := 1) (by decide +kernel) rfl ?_
  refine sX_istore_n (i := 3) (ls2 := [some (.ref v0), some (.int v1), some (.int v2), some (.int v1), none]) (by decide +kernel) (by decide) rfl ?_
  exact sX.le (xL11 v0 v2 v1 M15) (sLe_s (sLe_n (sLe_s (sLe_s (sLe_n sLe_e)))))
def f_X12_closings (v0 : Nat) (v1 : Int32) (v2 : Int32) (M0 : sMem) : Option (Int32 × sMem) :=
  sRc 12 127 M0 v0 (
    (f_X12_isGate v0 v1.toInt64 M0).bind fun x1 =>
    if x1 = 0 then
      some (((-1 : Int32), M0))
    else
      (f_X12_isIn v2.toInt64 ((0 : Int64)) ((2 : Int64)) M0).bind fun x2 =>
      if x2 = 0 then
        some (((-1 : Int32), M0))
      else
        (f_X12_laysClosings v0 v1 v1 M0).bind fun M3 =>
        if v2 = 0 then
          (gI 12 127 72 M3 v0).bind fun x4 =>
          some ((x4, M3))
        else
          (gI 12 127 72 M3 v0).bind fun x5 =>
          if x5 = 0 then
            some (((-1 : Int32), M3))
          else
            if v2 = (1 : Int32) then
              (gR 12 127 74 M3 v0).bind fun x6 =>
              (ldI 14 M3 x6 ((0 : Int32))).bind fun x7 =>
              some ((x7, M3))
            else
              (gR 12 127 75 M3 v0).bind fun x8 =>
              (ldI 14 M3 x8 ((0 : Int32))).bind fun x9 =>
              some ((x9, M3)))
set_option maxRecDepth 100000 in
set_option maxHeartbeats 4000000 in
theorem m_X12_closings (G : sG) (l : Launch) (v0 : Nat) (v1 : Int32) (v2 : Int32) (M0 : sMem) : sC G l 8 yX12_closings cX12_closings 3 (some .int) [.ref v0, .int v1, .int v2] M0 rvI (f_X12_closings v0 v1 v2 M0) := by
  refine sC_m (ls := [some (.ref v0), some (.int v1), some (.int v2)]) (by decide +kernel) rfl (Nat.le_of_ble_eq_true rfl) (fun r M' K hr => ?_)
  unfold f_X12_closings
  refine sX_rc ?_
  refine sX_aload_n (i := 0) (by decide +kernel) rfl ?_
  refine sX_iload_n (i := 1) (by decide +kernel) rfl ?_
  refine sX_i2l (by decide +kernel) ?_
  refine sX_callVp (As := [.long v1.toInt64]) (by decide +kernel) lm_X12_587 mf_X12_isGate mi_X12_isGate mc_12 (m_X12_isGate G l v0 v1.toInt64 M0) (fun _ h => sRc_some h) (by decide) rfl rfl (Nat.le_of_ble_eq_true rfl) (fun x1 => ?_)
  refine sX_ifeq (o := 15) (t := 21) (by decide +kernel) (by decide) (fun _ => ?_) (fun _ => ?_)
  · refine sX_iconst (n := -1) (v := (-1 : Int32)) (by decide +kernel) (by decide) ?_
    exact sX_some (fun h _ => sW_iret (by decide +kernel) rfl (hr _ h).1.symm (hr _ h).2.symm)
  · refine sX_iload_n (i := 2) (by decide +kernel) rfl ?_
    refine sX_i2l (by decide +kernel) ?_
    refine sX_lconst (n := 0) (v := (0 : Int64)) (by decide +kernel) (by decide) ?_
    refine sX_ldc2 (v := (2 : Int64)) (by decide +kernel) kl_X12_597 ?_
    refine sX_callSp (As := [.long v2.toInt64, .long (0 : Int64), .long (2 : Int64)]) (by decide +kernel) lm_X12_343 mf_X12_isIn ms_X12_isIn (m_X12_isIn G l v2.toInt64 ((0 : Int64)) ((2 : Int64)) M0) (by decide) rfl rfl (Nat.le_of_ble_eq_true rfl) (fun x2 => ?_)
    refine sX_ifne (o := 5) (t := 23) (by decide +kernel) (by decide) (fun _ => ?_) (fun _ => ?_)
    · refine sX_iconst (n := -1) (v := (-1 : Int32)) (by decide +kernel) (by decide) ?_
      exact sX_some (fun h _ => sW_iret (by decide +kernel) rfl (hr _ h).1.symm (hr _ h).2.symm)
    · refine sX_aload_n (i := 0) (by decide +kernel) rfl ?_
      refine sX_iload_n (i := 1) (by decide +kernel) rfl ?_
      refine sX_iload_n (i := 1) (by decide +kernel) rfl ?_
      refine sX_callVv (As := [.int v1, .int v1]) (by decide +kernel) lm_X12_626 mf_X12_laysClosings mi_X12_laysClosings mc_12 (m_X12_laysClosings G l v0 v1 v1 M0) (fun _ h => sRc_some h) (by decide) rfl rfl (Nat.le_of_ble_eq_true rfl) (fun M3 => ?_)
      refine sX_iload_n (i := 2) (by decide +kernel) rfl ?_
      refine sX_ifne (o := 8) (t := 38) (by decide +kernel) (by decide) (fun _ => ?_) (fun _ => ?_)
      · refine sX_aload_n (i := 0) (by decide +kernel) rfl ?_
        refine sX_getI lf_X12_623 tk_12_72 (by decide +kernel) (fun x4 => ?_)
        exact sX_some (fun h _ => sW_iret (by decide +kernel) rfl (hr _ h).1.symm (hr _ h).2.symm)
      · refine sX_aload_n (i := 0) (by decide +kernel) rfl ?_
        refine sX_getI lf_X12_623 tk_12_72 (by decide +kernel) (fun x5 => ?_)
        refine sX_ifne (o := 7) (t := 49) (by decide +kernel) (by decide) (fun _ => ?_) (fun _ => ?_)
        · refine sX_iconst (n := -1) (v := (-1 : Int32)) (by decide +kernel) (by decide) ?_
          refine sX_goto (o := 23) (t := 69) (by decide +kernel) (by decide) ?_
          exact sX_some (fun h _ => sW_iret (by decide +kernel) rfl (hr _ h).1.symm (hr _ h).2.symm)
        · refine sX_iload_n (i := 2) (by decide +kernel) rfl ?_
          refine sX_iconst (n := 1) (v := (1 : Int32)) (by decide +kernel) (by decide) ?_
          refine sX_icne (o := 12) (t := 63) (by decide +kernel) (by decide) (fun _ => ?_) (fun _ => ?_)
          · refine sX_aload_n (i := 0) (by decide +kernel) rfl ?_
            refine sX_getR lf_X12_173 tk_12_74 (by decide +kernel) (fun x6 => ?_)
            refine sX_iconst (n := 0) (v := (0 : Int32)) (by decide +kernel) (by decide) ?_
            refine sX_iaload (by decide +kernel) (fun x7 => ?_)
            refine sX_goto (o := 9) (t := 69) (by decide +kernel) (by decide) ?_
            exact sX_some (fun h _ => sW_iret (by decide +kernel) rfl (hr _ h).1.symm (hr _ h).2.symm)
          · refine sX_aload_n (i := 0) (by decide +kernel) rfl ?_
            refine sX_getR lf_X12_176 tk_12_75 (by decide +kernel) (fun x8 => ?_)
            refine sX_iconst (n := 0) (v := (0 : Int32)) (by decide +kernel) (by decide) ?_
            refine sX_iaload (by decide +kernel) (fun x9 => ?_)
            exact sX_some (fun h _ => sW_iret (by decide +kernel) rfl (hr _ h).1.symm (hr _ h).2.symm)
def f_X12_canFollow_B46 (s0 : Int32) (s1 : Int32) (s2 : Int32) (M0 : sMem) : Option Int32 :=
  if s0 < (s1 + s2) then
    some ((0 : Int32))
  else
    some ((1 : Int32))
def f_X12_canFollow (v0 : Nat) (v1 : Int32) (v2 : Int32) (M0 : sMem) : Option Int32 :=
  sRc 12 127 M0 v0 (
    (gR 12 127 73 M0 v0).bind fun x1 =>
    (ldI 14 M0 x1 v1).bind fun x2 =>
    (f_X12_mileOf v0 x2 M0).bind fun x3 =>
    (gR 12 127 73 M0 v0).bind fun x4 =>
    (ldI 14 M0 x4 v2).bind fun x5 =>
    (f_X12_mileOf v0 x5 M0).bind fun x6 =>
    (gR 12 127 74 M0 v0).bind fun x7 =>
    (ldI 14 M0 x7 v2).bind fun x8 =>
    (gR 12 127 75 M0 v0).bind fun x9 =>
    (ldI 14 M0 x9 v1).bind fun x10 =>
    if 0 ≤ (x3 - x6) then
      f_X12_canFollow_B46 x8 ((x10 + (1 : Int32))) ((x3 - x6)) M0
    else
      f_X12_canFollow_B46 x8 ((x10 + (1 : Int32))) ((-((x3 - x6)))) M0)
set_option maxRecDepth 100000 in
set_option maxHeartbeats 4000000 in
theorem m_X12_canFollow (G : sG) (l : Launch) (v0 : Nat) (v1 : Int32) (v2 : Int32) (M0 : sMem) : sCp G l 2 yX12_canFollow cX12_canFollow 4 (some .boolean) [.ref v0, .int v1, .int v2] M0 rvI (f_X12_canFollow v0 v1 v2 M0) := by
  refine sC_p (ls := [some (.ref v0), some (.int v1), some (.int v2), none]) (by decide +kernel) rfl (Nat.le_of_ble_eq_true rfl) (fun r M' K hr => ?_)
  unfold f_X12_canFollow
  have xB46 : ∀ (s0 : Int32) (s1 : Int32) (s2 : Int32), sX G l 2 yX12_canFollow cX12_canFollow 4 (some .boolean) M0 r M' 46 [none, none, none, none] [.int s2, .int s1, .int s0] M0 (f_X12_canFollow_B46 s0 s1 s2 M0) K := by
    intro s0 s1 s2
    unfold f_X12_canFollow_B46
    refine sX_iadd (by decide +kernel) ?_
    refine sX_iclt (o := 7) (t := 54) (by decide +kernel) (by decide) (fun _ => ?_) (fun _ => ?_)
    · refine sX_iconst (n := 0) (v := (0 : Int32)) (by decide +kernel) (by decide) ?_
      exact sX_some (fun h _ => sW_zret (by decide +kernel) rfl (by decide) (hr _ h).1.symm (hr _ h).2.symm)
    · refine sX_iconst (n := 1) (v := (1 : Int32)) (by decide +kernel) (by decide) ?_
      refine sX_goto (o := 4) (t := 55) (by decide +kernel) (by decide) ?_
      exact sX_some (fun h _ => sW_zret (by decide +kernel) rfl (by decide) (hr _ h).1.symm (hr _ h).2.symm)
  refine sX_rc ?_
  refine sX_aload_n (i := 0) (by decide +kernel) rfl ?_
  refine sX_aload_n (i := 0) (by decide +kernel) rfl ?_
  refine sX_getR lf_X12_170 tk_12_73 (by decide +kernel) (fun x1 => ?_)
  refine sX_iload_n (i := 1) (by decide +kernel) rfl ?_
  refine sX_iaload (by decide +kernel) (fun x2 => ?_)
  refine sX_callVp (As := [.int x2]) (by decide +kernel) lm_X12_493 mf_X12_mileOf mi_X12_mileOf mc_12 (m_X12_mileOf G l v0 x2 M0) (fun _ h => sRc_some h) (by decide) rfl rfl (Nat.le_of_ble_eq_true rfl) (fun x3 => ?_)
  refine sX_aload_n (i := 0) (by decide +kernel) rfl ?_
  refine sX_aload_n (i := 0) (by decide +kernel) rfl ?_
  refine sX_getR lf_X12_170 tk_12_73 (by decide +kernel) (fun x4 => ?_)
  refine sX_iload_n (i := 2) (by decide +kernel) rfl ?_
  refine sX_iaload (by decide +kernel) (fun x5 => ?_)
  refine sX_callVp (As := [.int x5]) (by decide +kernel) lm_X12_493 mf_X12_mileOf mi_X12_mileOf mc_12 (m_X12_mileOf G l v0 x5 M0) (fun _ h => sRc_some h) (by decide) rfl rfl (Nat.le_of_ble_eq_true rfl) (fun x6 => ?_)
  refine sX_isub (by decide +kernel) ?_
  refine sX_istore_n (i := 3) (ls2 := [some (.ref v0), some (.int v1), some (.int v2), some (.int (x3 - x6))]) (by decide +kernel) (by decide) rfl ?_
  refine sX_aload_n (i := 0) (by decide +kernel) rfl ?_
  refine sX_getR lf_X12_173 tk_12_74 (by decide +kernel) (fun x7 => ?_)
  refine sX_iload_n (i := 2) (by decide +kernel) rfl ?_
  refine sX_iaload (by decide +kernel) (fun x8 => ?_)
  refine sX_aload_n (i := 0) (by decide +kernel) rfl ?_
  refine sX_getR lf_X12_176 tk_12_75 (by decide +kernel) (fun x9 => ?_)
  refine sX_iload_n (i := 1) (by decide +kernel) rfl ?_
  refine sX_iaload (by decide +kernel) (fun x10 => ?_)
  refine sX_iconst (n := 1) (v := (1 : Int32)) (by decide +kernel) (by decide) ?_
  refine sX_iadd (by decide +kernel) ?_
  refine sX_iload_n (i := 3) (by decide +kernel) rfl ?_
  refine sX_ifge (o := 8) (t := 45) (by decide +kernel) (by decide) (fun _ => ?_) (fun _ => ?_)
  · refine sX_iload_n (i := 3) (by decide +kernel) rfl ?_
    exact sX.le (xB46 x8 ((x10 + (1 : Int32))) ((x3 - x6))) (sLe_n (sLe_n (sLe_n (sLe_n sLe_e))))
  · refine sX_iload_n (i := 3) (by decide +kernel) rfl ?_
    refine sX_ineg (by decide +kernel) ?_
    refine sX_goto (o := 4) (t := 46) (by decide +kernel) (by decide) ?_
    exact sX.le (xB46 x8 ((x10 + (1 : Int32))) ((-((x3 - x6))))) (sLe_n (sLe_n (sLe_n (sLe_n sLe_e))))
def f_X12_changes_K2 (v0 : Nat) (v2 : Int32) (M : sMem) : Option ((Int32 × sMem) ⊕ ((sMem))) :=
  if v2 = (-1 : Int32) then
    some (.inr M)
  else
    (gR 12 127 78 M v0).bind fun x1 =>
    (ldI 14 M x1 v2).bind fun x2 =>
    (gR 12 127 76 M v0).bind fun x3 =>
    (ldI 14 M x3 x2).bind fun x4 =>
    (gR 12 127 76 M v0).bind fun x5 =>
    (stI M x5 x2 v2).bind fun M6 =>
    (gR 12 127 77 M6 v0).bind fun x7 =>
    (stI M6 x7 v2 x2).bind fun M8 =>
    some (.inl ((x4, M8)))
def f_X12_changes_L2 (v0 : Nat) (v2 : Int32) (M : sMem) : Option sMem :=
  (sItr (fun a : (Int32 × sMem) => f_X12_changes_K2 v0 a.1 a.2) sFuel (v2, M)).bind (fun b => some b)
def f_X12_changes (v0 : Nat) (v1 : Int32) (M0 : sMem) : Option sMem :=
  sRc 12 127 M0 v0 (
    f_X12_changes_L2 v0 v1 M0)
set_option maxRecDepth 100000 in
set_option maxHeartbeats 4000000 in
theorem m_X12_changes (G : sG) (l : Launch) (v0 : Nat) (v1 : Int32) (M0 : sMem) : sCv G l 1 yX12_changes cX12_changes 5 none [.ref v0, .int v1] M0 (f_X12_changes v0 v1 M0) := by
  refine sC_v (ls := [some (.ref v0), some (.int v1), none, none, none]) (by decide +kernel) rfl (Nat.le_of_ble_eq_true rfl) (fun r M' K hr => ?_)
  unfold f_X12_changes
  have xL2 : ∀ (v0 : Nat) (v2 : Int32) (M : sMem), sX G l 1 yX12_changes cX12_changes 5 none M0 r M' 2 [some (.ref v0), none, some (.int v2), none, none] [] M (f_X12_changes_L2 v0 v2 M) K := by
    intro v0 v2 M
    unfold f_X12_changes_L2
    refine sX_bind ?_
    refine sX_loop (LS := fun a : (Int32 × sMem) => [some (.ref v0), none, some (.int a.1), none, none]) (MM := fun a => a.2) (fun K1 hb1 he1 => ?_) sFuel ((v2, M))
    have xK2 : ∀ (v2 : Int32) (M : sMem), sX G l 1 yX12_changes cX12_changes 5 none M0 r M' 2 [some (.ref v0), none, some (.int v2), none, none] [] M (f_X12_changes_K2 v0 v2 M) K1 := by
      intro v2 M
      unfold f_X12_changes_K2
      refine sX_iload_n (i := 2) (by decide +kernel) rfl ?_
      refine sX_iconst (n := -1) (v := (-1 : Int32)) (by decide +kernel) (by decide) ?_
      refine sX_iceq (o := 38) (t := 42) (by decide +kernel) (by decide) (fun _ => ?_) (fun _ => ?_)
      · refine sX_exit he1 ?_
        exact sX_some (fun h _ => sW_vret (by decide +kernel) rfl (hr _ h).1.symm (hr _ h).2.symm)
      · refine sX_aload_n (i := 0) (by decide +kernel) rfl ?_
        refine sX_getR lf_X12_185 tk_12_78 (by decide +kernel) (fun x1 => ?_)
        refine sX_iload_n (i := 2) (by decide +kernel) rfl ?_
        refine sX_iaload (by decide +kernel) (fun x2 => ?_)
        refine sX_istore_n (i := 3) (ls2 := [some (.ref v0), none, some (.int v2), some (.int x2), none]) (by decide +kernel) (by decide) rfl ?_
        refine sX_aload_n (i := 0) (by decide +kernel) rfl ?_
        refine sX_getR lf_X12_179 tk_12_76 (by decide +kernel) (fun x3 => ?_)
        refine sX_iload_n (i := 3) (by decide +kernel) rfl ?_
        refine sX_iaload (by decide +kernel) (fun x4 => ?_)
        refine sX_istore (i := 4) (ls2 := [some (.ref v0), none, some (.int v2), some (.int x2), some (.int x4)]) (by decide +kernel) (by decide) rfl ?_
        refine sX_aload_n (i := 0) (by decide +kernel) rfl ?_
        refine sX_getR lf_X12_179 tk_12_76 (by decide +kernel) (fun x5 => ?_)
        refine sX_iload_n (i := 3) (by decide +kernel) rfl ?_
        refine sX_iload_n (i := 2) (by decide +kernel) rfl ?_
        refine sX_iastore (by decide +kernel) (by decide) (fun M6 => ?_)
        refine sX_aload_n (i := 0) (by decide +kernel) rfl ?_
        refine sX_getR lf_X12_182 tk_12_77 (by decide +kernel) (fun x7 => ?_)
        refine sX_iload_n (i := 2) (by decide +kernel) rfl ?_
        refine sX_iload_n (i := 3) (by decide +kernel) rfl ?_
        refine sX_iastore (by decide +kernel) (by decide) (fun M8 => ?_)
        refine sX_iload (i := 4) (by decide +kernel) rfl ?_
        refine sX_istore_n (i := 2) (ls2 := [some (.ref v0), none, some (.int x4), some (.int x2), some (.int x4)]) (by decide +kernel) (by decide) rfl ?_
        refine sX_goto (o := -37) (t := 2) (by decide +kernel) (by decide) ?_
        exact sX_back (a := (x4, M8)) hb1 rfl (sLe_s (sLe_n (sLe_s (sLe_n (sLe_n sLe_e)))))
    exact fun a => xK2 a.1 a.2
  refine sX_rc ?_
  refine sX_iload_n (i := 1) (by decide +kernel) rfl ?_
  refine sX_istore_n (i := 2) (ls2 := [some (.ref v0), some (.int v1), some (.int v1), none, none]) (by decide +kernel) (by decide) rfl ?_
  exact sX.le (xL2 v0 v1 M0) (sLe_s (sLe_n (sLe_s (sLe_n (sLe_n sLe_e)))))
def f_X12_isMatched_B114 (v0 : Nat) (v5 : Int32) (M : sMem) : Option (Int32 × sMem) :=
  (f_X12_changes v0 v5 M).bind fun M1 =>
  some (((1 : Int32), M1))
def f_X12_isMatched_B144 (v0 : Nat) (v2 : Int32) (v3 : Int32) (M : sMem) : Option ((Int32 × Int32 × sMem) ⊕ ((Int32 × sMem) ⊕ (((Int32 × sMem))))) :=
  some (.inl ((v2, v3, M)))
def f_X12_isMatched_B138 (v0 : Nat) (v2 : Int32) (v3 : Int32) (v4 : Int32) (v5 : Int32) (M : sMem) : Option ((Int32 × Int32 × sMem) ⊕ ((Int32 × sMem) ⊕ ((Int32 × sMem)))) :=
  some (.inl ((v3, ((v5 + (1 : Int32))), M)))
def f_X12_isMatched_K53 (v0 : Nat) (v2 : Int32) (v4 : Int32) (v3 : Int32) (v5 : Int32) (M : sMem) : Option ((Int32 × Int32 × sMem) ⊕ ((Int32 × sMem) ⊕ ((Int32 × sMem)))) :=
  (gI 12 127 72 M v0).bind fun x2 =>
  if x2 ≤ v5 then
    some (.inr (.inr ((v3, M))))
  else
    (gR 12 127 78 M v0).bind fun x3 =>
    (ldI 14 M x3 v5).bind fun x4 =>
    if x4 = (-1 : Int32) then
      if v5 = v4 then
        f_X12_isMatched_B138 v0 v2 v3 v4 v5 M
      else
        (f_X12_canFollow v0 v4 v5 M).bind fun x5 =>
        if x5 = 0 then
          f_X12_isMatched_B138 v0 v2 v3 v4 v5 M
        else
          (gR 12 127 78 M v0).bind fun x6 =>
          (stI M x6 v5 v4).bind fun M7 =>
          (gR 12 127 77 M7 v0).bind fun x8 =>
          (ldI 14 M7 x8 v5).bind fun x9 =>
          if x9 = (-1 : Int32) then
            some (.inr (.inl ((v5, M7))))
          else
            (gR 12 127 79 M7 v0).bind fun x10 =>
            (gR 12 127 77 M7 v0).bind fun x11 =>
            (ldI 14 M7 x11 v5).bind fun x12 =>
            (stI M7 x10 v3 x12).bind fun M13 =>
            f_X12_isMatched_B138 v0 v2 ((v3 + (1 : Int32))) v4 v5 M13
    else
      f_X12_isMatched_B138 v0 v2 v3 v4 v5 M
def f_X12_isMatched_L53 (v0 : Nat) (v2 : Int32) (v3 : Int32) (v4 : Int32) (v5 : Int32) (M : sMem) : Option ((Int32 × Int32 × sMem) ⊕ ((Int32 × sMem) ⊕ (((Int32 × sMem))))) :=
  (sItr (fun a : (Int32 × Int32 × sMem) => f_X12_isMatched_K53 v0 v2 v4 a.1 a.2.1 a.2.2) sFuel (v3, v5, M)).bind (fun b => match b with
    | .inl (b) => some (.inr (.inl ((b.1, b.2))))
    | .inr (b) => f_X12_isMatched_B144 v0 v2 b.1 b.2)
def f_X12_isMatched_K34 (v0 : Nat) (v2 : Int32) (v3 : Int32) (M : sMem) : Option ((Int32 × Int32 × sMem) ⊕ ((Int32 × sMem) ⊕ (((Int32 × sMem))))) :=
  if v3 ≤ v2 then
    some (.inr (.inr (((0 : Int32), M))))
  else
    (gR 12 127 79 M v0).bind fun x14 =>
    (ldI 14 M x14 v2).bind fun x15 =>
    f_X12_isMatched_L53 v0 ((v2 + (1 : Int32))) v3 x15 ((0 : Int32)) M
def f_X12_isMatched_L34 (v0 : Nat) (v2 : Int32) (v3 : Int32) (M : sMem) : Option (Int32 × sMem) :=
  (sItr (fun a : (Int32 × Int32 × sMem) => f_X12_isMatched_K34 v0 a.1 a.2.1 a.2.2) sFuel (v2, v3, M)).bind (fun b => match b with
    | .inl (b) => f_X12_isMatched_B114 v0 b.1 b.2
    | .inr (b) => some b)
def f_X12_isMatched_B23 (v0 : Nat) (v1 : Int32) (M : sMem) : Option (Int32 × sMem) :=
  (gR 12 127 79 M v0).bind fun x16 =>
  (stI M x16 ((0 : Int32)) v1).bind fun M17 =>
  f_X12_isMatched_L34 v0 ((0 : Int32)) ((1 : Int32)) M17
def f_X12_isMatched_K2 (v0 : Nat) (v1 : Int32) (v2 : Int32) (M : sMem) : Option ((Int32 × sMem) ⊕ ((sMem))) :=
  (gI 12 127 72 M v0).bind fun x18 =>
  if x18 ≤ v2 then
    some (.inr M)
  else
    (gR 12 127 78 M v0).bind fun x19 =>
    (stI M x19 v2 ((-1 : Int32))).bind fun M20 =>
    some (.inl ((((v2 + (1 : Int32))), M20)))
def f_X12_isMatched_L2 (v0 : Nat) (v1 : Int32) (v2 : Int32) (M : sMem) : Option (Int32 × sMem) :=
  (sItr (fun a : (Int32 × sMem) => f_X12_isMatched_K2 v0 v1 a.1 a.2) sFuel (v2, M)).bind (fun b => f_X12_isMatched_B23 v0 v1 b)
def f_X12_isMatched (v0 : Nat) (v1 : Int32) (M0 : sMem) : Option (Int32 × sMem) :=
  sRc 12 127 M0 v0 (
    f_X12_isMatched_L2 v0 v1 ((0 : Int32)) M0)
set_option maxRecDepth 100000 in
set_option maxHeartbeats 4000000 in
theorem m_X12_isMatched (G : sG) (l : Launch) (v0 : Nat) (v1 : Int32) (M0 : sMem) : sC G l 3 yX12_isMatched cX12_isMatched 6 (some .boolean) [.ref v0, .int v1] M0 rvI (f_X12_isMatched v0 v1 M0) := by
  refine sC_m (ls := [some (.ref v0), some (.int v1), none, none, none, none]) (by decide +kernel) rfl (Nat.le_of_ble_eq_true rfl) (fun r M' K hr => ?_)
  unfold f_X12_isMatched
  have xB114 : ∀ (v0 : Nat) (v5 : Int32) (M : sMem), sX G l 3 yX12_isMatched cX12_isMatched 6 (some .boolean) M0 r M' 114 [some (.ref v0), none, none, none, none, some (.int v5)] [] M (f_X12_isMatched_B114 v0 v5 M) K := by
    intro v0 v5 M
    unfold f_X12_isMatched_B114
    refine sX_aload_n (i := 0) (by decide +kernel) rfl ?_
    refine sX_iload (i := 5) (by decide +kernel) rfl ?_
    refine sX_callVv (As := [.int v5]) (by decide +kernel) lm_X12_632 mf_X12_changes mi_X12_changes mc_12 (m_X12_changes G l v0 v5 M) (fun _ h => sRc_some h) (by decide) rfl rfl (Nat.le_of_ble_eq_true rfl) (fun M1 => ?_)
    refine sX_iconst (n := 1) (v := (1 : Int32)) (by decide +kernel) (by decide) ?_
    exact sX_some (fun h _ => sW_zret (by decide +kernel) rfl (by decide) (hr _ h).1.symm (hr _ h).2.symm)
  have xL34 : ∀ (v0 : Nat) (v2 : Int32) (v3 : Int32) (M : sMem), sX G l 3 yX12_isMatched cX12_isMatched 6 (some .boolean) M0 r M' 34 [some (.ref v0), none, some (.int v2), some (.int v3), none, none] [] M (f_X12_isMatched_L34 v0 v2 v3 M) K := by
    intro v0 v2 v3 M
    unfold f_X12_isMatched_L34
    refine sX_bind ?_
    refine sX_loop (LS := fun a : (Int32 × Int32 × sMem) => [some (.ref v0), none, some (.int a.1), some (.int a.2.1), none, none]) (MM := fun a => a.2.2) (fun K1 hb1 he1 => ?_) sFuel ((v2, v3, M))
    have xB144 : ∀ (v2 : Int32) (v3 : Int32) (M : sMem), sX G l 3 yX12_isMatched cX12_isMatched 6 (some .boolean) M0 r M' 144 [some (.ref v0), none, some (.int v2), some (.int v3), none, none] [] M (f_X12_isMatched_B144 v0 v2 v3 M) K1 := by
      intro v2 v3 M
      unfold f_X12_isMatched_B144
      refine sX_goto (o := -110) (t := 34) (by decide +kernel) (by decide) ?_
      exact sX_back (a := (v2, v3, M)) hb1 rfl (sLe_s (sLe_n (sLe_s (sLe_s (sLe_n (sLe_n sLe_e))))))
    have xL53 : ∀ (v2 : Int32) (v3 : Int32) (v4 : Int32) (v5 : Int32) (M : sMem), sX G l 3 yX12_isMatched cX12_isMatched 6 (some .boolean) M0 r M' 53 [some (.ref v0), none, some (.int v2), some (.int v3), some (.int v4), some (.int v5)] [] M (f_X12_isMatched_L53 v0 v2 v3 v4 v5 M) K1 := by
      intro v2 v3 v4 v5 M
      unfold f_X12_isMatched_L53
      refine sX_bind ?_
      refine sX_loop (LS := fun a : (Int32 × Int32 × sMem) => [some (.ref v0), none, some (.int v2), some (.int a.1), some (.int v4), some (.int a.2.1)]) (MM := fun a => a.2.2) (fun K2 hb2 he2 => ?_) sFuel ((v3, v5, M))
      have xB138 : ∀ (v3 : Int32) (v5 : Int32) (M : sMem), sX G l 3 yX12_isMatched cX12_isMatched 6 (some .boolean) M0 r M' 138 [some (.ref v0), none, some (.int v2), some (.int v3), some (.int v4), some (.int v5)] [] M (f_X12_isMatched_B138 v0 v2 v3 v4 v5 M) K2 := by
        intro v3 v5 M
        unfold f_X12_isMatched_B138
        refine sX_iinc (i := 5) (n := 1) (v := v5 + (1 : Int32)) (ls2 := [some (.ref v0), none, some (.int v2), some (.int v3), some (.int v4), some (.int (v5 + (1 : Int32)))]) (by decide +kernel) rfl rfl (by decide) rfl ?_
        refine sX_goto (o := -88) (t := 53) (by decide +kernel) (by decide) ?_
        exact sX_back (a := (v3, ((v5 + (1 : Int32))), M)) hb2 rfl (sLe_s (sLe_n (sLe_s (sLe_s (sLe_s (sLe_s sLe_e))))))
      have xK53 : ∀ (v3 : Int32) (v5 : Int32) (M : sMem), sX G l 3 yX12_isMatched cX12_isMatched 6 (some .boolean) M0 r M' 53 [some (.ref v0), none, some (.int v2), some (.int v3), some (.int v4), some (.int v5)] [] M (f_X12_isMatched_K53 v0 v2 v4 v3 v5 M) K2 := by
        intro v3 v5 M
        unfold f_X12_isMatched_K53
        refine sX_iload (i := 5) (by decide +kernel) rfl ?_
        refine sX_aload_n (i := 0) (by decide +kernel) rfl ?_
        refine sX_getI lf_X12_623 tk_12_72 (by decide +kernel) (fun x2 => ?_)
        refine sX_icge (o := 85) (t := 144) (by decide +kernel) (by decide) (fun _ => ?_) (fun _ => ?_)
        · refine sX_exit he2 ?_
          exact sX.le (xB144 v2 v3 M) (sLe_s (sLe_n (sLe_s (sLe_s (sLe_n (sLe_n sLe_e))))))
        · refine sX_aload_n (i := 0) (by decide +kernel) rfl ?_
          refine sX_getR lf_X12_185 tk_12_78 (by decide +kernel) (fun x3 => ?_)
          refine sX_iload (i := 5) (by decide +kernel) rfl ?_
          refine sX_iaload (by decide +kernel) (fun x4 => ?_)
          refine sX_iconst (n := -1) (v := (-1 : Int32)) (by decide +kernel) (by decide) ?_
          refine sX_icne (o := 68) (t := 138) (by decide +kernel) (by decide) (fun _ => ?_) (fun _ => ?_)
          · refine sX_iload (i := 5) (by decide +kernel) rfl ?_
            refine sX_iload (i := 4) (by decide +kernel) rfl ?_
            refine sX_iceq (o := 61) (t := 138) (by decide +kernel) (by decide) (fun _ => ?_) (fun _ => ?_)
            · exact sX.le (xB138 v3 v5 M) (sLe_s (sLe_n (sLe_s (sLe_s (sLe_s (sLe_s sLe_e))))))
            · refine sX_aload_n (i := 0) (by decide +kernel) rfl ?_
              refine sX_iload (i := 4) (by decide +kernel) rfl ?_
              refine sX_iload (i := 5) (by decide +kernel) rfl ?_
              refine sX_callVp (As := [.int v4, .int v5]) (by decide +kernel) lm_X12_629 mf_X12_canFollow mi_X12_canFollow mc_12 (m_X12_canFollow G l v0 v4 v5 M) (fun _ h => sRc_some h) (by decide) rfl rfl (Nat.le_of_ble_eq_true rfl) (fun x5 => ?_)
              refine sX_ifne (o := 6) (t := 94) (by decide +kernel) (by decide) (fun _ => ?_) (fun _ => ?_)
              · refine sX_goto (o := 47) (t := 138) (by decide +kernel) (by decide) ?_
                exact sX.le (xB138 v3 v5 M) (sLe_s (sLe_n (sLe_s (sLe_s (sLe_s (sLe_s sLe_e))))))
              · refine sX_aload_n (i := 0) (by decide +kernel) rfl ?_
                refine sX_getR lf_X12_185 tk_12_78 (by decide +kernel) (fun x6 => ?_)
                refine sX_iload (i := 5) (by decide +kernel) rfl ?_
                refine sX_iload (i := 4) (by decide +kernel) rfl ?_
                refine sX_iastore (by decide +kernel) (by decide) (fun M7 => ?_)
                refine sX_aload_n (i := 0) (by decide +kernel) rfl ?_
                refine sX_getR lf_X12_182 tk_12_77 (by decide +kernel) (fun x8 => ?_)
                refine sX_iload (i := 5) (by decide +kernel) rfl ?_
                refine sX_iaload (by decide +kernel) (fun x9 => ?_)
                refine sX_iconst (n := -1) (v := (-1 : Int32)) (by decide +kernel) (by decide) ?_
                refine sX_icne (o := 11) (t := 122) (by decide +kernel) (by decide) (fun _ => ?_) (fun _ => ?_)
                · refine sX_exit he2 ?_
                  refine sX_exit he1 ?_
                  exact sX.le (xB114 v0 v5 M7) (sLe_s (sLe_n (sLe_n (sLe_n (sLe_n (sLe_s sLe_e))))))
                · refine sX_aload_n (i := 0) (by decide +kernel) rfl ?_
                  refine sX_getR lf_X12_188 tk_12_79 (by decide +kernel) (fun x10 => ?_)
                  refine sX_iload_n (i := 3) (by decide +kernel) rfl ?_
                  refine sX_aload_n (i := 0) (by decide +kernel) rfl ?_
                  refine sX_getR lf_X12_182 tk_12_77 (by decide +kernel) (fun x11 => ?_)
                  refine sX_iload (i := 5) (by decide +kernel) rfl ?_
                  refine sX_iaload (by decide +kernel) (fun x12 => ?_)
                  refine sX_iastore (by decide +kernel) (by decide) (fun M13 => ?_)
                  refine sX_iinc (i := 3) (n := 1) (v := v3 + (1 : Int32)) (ls2 := [some (.ref v0), none, some (.int v2), some (.int (v3 + (1 : Int32))), some (.int v4), some (.int v5)]) (by decide +kernel) rfl rfl (by decide) rfl ?_
                  exact sX.le (xB138 ((v3 + (1 : Int32))) v5 M13) (sLe_s (sLe_n (sLe_s (sLe_s (sLe_s (sLe_s sLe_e))))))
          · exact sX.le (xB138 v3 v5 M) (sLe_s (sLe_n (sLe_s (sLe_s (sLe_s (sLe_s sLe_e))))))
      exact fun a => xK53 a.1 a.2.1 a.2.2
    have xK34 : ∀ (v2 : Int32) (v3 : Int32) (M : sMem), sX G l 3 yX12_isMatched cX12_isMatched 6 (some .boolean) M0 r M' 34 [some (.ref v0), none, some (.int v2), some (.int v3), none, none] [] M (f_X12_isMatched_K34 v0 v2 v3 M) K1 := by
      intro v2 v3 M
      unfold f_X12_isMatched_K34
      refine sX_iload_n (i := 2) (by decide +kernel) rfl ?_
      refine sX_iload_n (i := 3) (by decide +kernel) rfl ?_
      refine sX_icge (o := 111) (t := 147) (by decide +kernel) (by decide) (fun _ => ?_) (fun _ => ?_)
      · refine sX_iconst (n := 0) (v := (0 : Int32)) (by decide +kernel) (by decide) ?_
        refine sX_exit he1 ?_
        exact sX_some (fun h _ => sW_zret (by decide +kernel) rfl (by decide) (hr _ h).1.symm (hr _ h).2.symm)
      · refine sX_aload_n (i := 0) (by decide +kernel) rfl ?_
        refine sX_getR lf_X12_188 tk_12_79 (by decide +kernel) (fun x14 => ?_)
        refine sX_iload_n (i := 2) (by decide +kernel) rfl ?_
        refine sX_iaload (by decide +kernel) (fun x15 => ?_)
        refine sX_istore (i := 4) (ls2 := [some (.ref v0), none, some (.int v2), some (.int v3), some (.int x15), none]) (by decide +kernel) (by decide) rfl ?_
        refine sX_iinc (i := 2) (n := 1) (v := v2 + (1 : Int32)) (ls2 := [some (.ref v0), none, some (.int (v2 + (1 : Int32))), some (.int v3), some (.int x15), none]) (by decide +kernel) rfl rfl (by decide) rfl ?_
        refine sX_iconst (n := 0) (v := (0 : Int32)) (by decide +kernel) (by decide) ?_
        refine sX_istore (i := 5) (ls2 := [some (.ref v0), none, some (.int (v2 + (1 : Int32))), some (.int v3), some (.int x15), some (.int (0 : Int32))]) (by decide +kernel) (by decide) rfl ?_
        exact sX.le (xL53 ((v2 + (1 : Int32))) v3 x15 ((0 : Int32)) M) (sLe_s (sLe_n (sLe_s (sLe_s (sLe_s (sLe_s sLe_e))))))
    exact fun a => xK34 a.1 a.2.1 a.2.2
  have xB23 : ∀ (v0 : Nat) (v1 : Int32) (M : sMem), sX G l 3 yX12_isMatched cX12_isMatched 6 (some .boolean) M0 r M' 23 [some (.ref v0), some (.int v1), none, none, none, none] [] M (f_X12_isMatched_B23 v0 v1 M) K := by
    intro v0 v1 M
    unfold f_X12_isMatched_B23
    refine sX_iconst (n := 0) (v := (0 : Int32)) (by decide +kernel) (by decide) ?_
    refine sX_istore_n (i := 2) (ls2 := [some (.ref v0), some (.int v1), some (.int (0 : Int32)), none, none, none]) (by decide +kernel) (by decide) rfl ?_
    refine sX_iconst (n := 1) (v := (1 : Int32)) (by decide +kernel) (by decide) ?_
    refine sX_istore_n (i := 3) (ls2 := [some (.ref v0), some (.int v1), some (.int (0 : Int32)), some (.int (1 : Int32)), none, none]) (by decide +kernel) (by decide) rfl ?_
    refine sX_aload_n (i := 0) (by decide +kernel) rfl ?_
    refine sX_getR lf_X12_188 tk_12_79 (by decide +kernel) (fun x16 => ?_)
    refine sX_iconst (n := 0) (v := (0 : Int32)) (by decide +kernel) (by decide) ?_
    refine sX_iload_n (i := 1) (by decide +kernel) rfl ?_
    refine sX_iastore (by decide +kernel) (by decide) (fun M17 => ?_)
    exact sX.le (xL34 v0 ((0 : Int32)) ((1 : Int32)) M17) (sLe_s (sLe_n (sLe_s (sLe_s (sLe_n (sLe_n sLe_e))))))
  have xL2 : ∀ (v0 : Nat) (v1 : Int32) (v2 : Int32) (M : sMem), sX G l 3 yX12_isMatched cX12_isMatched 6 (some .boolean) M0 r M' 2 [some (.ref v0), some (.int v1), some (.int v2), none, none, none] [] M (f_X12_isMatched_L2 v0 v1 v2 M) K := by
    intro v0 v1 v2 M
    unfold f_X12_isMatched_L2
    refine sX_bind ?_
    refine sX_loop (LS := fun a : (Int32 × sMem) => [some (.ref v0), some (.int v1), some (.int a.1), none, none, none]) (MM := fun a => a.2) (fun K1 hb1 he1 => ?_) sFuel ((v2, M))
    have xK2 : ∀ (v2 : Int32) (M : sMem), sX G l 3 yX12_isMatched cX12_isMatched 6 (some .boolean) M0 r M' 2 [some (.ref v0), some (.int v1), some (.int v2), none, none, none] [] M (f_X12_isMatched_K2 v0 v1 v2 M) K1 := by
      intro v2 M
      unfold f_X12_isMatched_K2
      refine sX_iload_n (i := 2) (by decide +kernel) rfl ?_
      refine sX_aload_n (i := 0) (by decide +kernel) rfl ?_
      refine sX_getI lf_X12_623 tk_12_72 (by decide +kernel) (fun x18 => ?_)
      refine sX_icge (o := 16) (t := 23) (by decide +kernel) (by decide) (fun _ => ?_) (fun _ => ?_)
      · refine sX_exit he1 ?_
        exact sX.le (xB23 v0 v1 M) (sLe_s (sLe_s (sLe_n (sLe_n (sLe_n (sLe_n sLe_e))))))
      · refine sX_aload_n (i := 0) (by decide +kernel) rfl ?_
        refine sX_getR lf_X12_185 tk_12_78 (by decide +kernel) (fun x19 => ?_)
        refine sX_iload_n (i := 2) (by decide +kernel) rfl ?_
        refine sX_iconst (n := -1) (v := (-1 : Int32)) (by decide +kernel) (by decide) ?_
        refine sX_iastore (by decide +kernel) (by decide) (fun M20 => ?_)
        refine sX_iinc (i := 2) (n := 1) (v := v2 + (1 : Int32)) (ls2 := [some (.ref v0), some (.int v1), some (.int (v2 + (1 : Int32))), none, none, none]) (by decide +kernel) rfl rfl (by decide) rfl ?_
        refine sX_goto (o := -18) (t := 2) (by decide +kernel) (by decide) ?_
        exact sX_back (a := (((v2 + (1 : Int32))), M20)) hb1 rfl (sLe_s (sLe_s (sLe_s (sLe_n (sLe_n (sLe_n sLe_e))))))
    exact fun a => xK2 a.1 a.2
  refine sX_rc ?_
  refine sX_iconst (n := 0) (v := (0 : Int32)) (by decide +kernel) (by decide) ?_
  refine sX_istore_n (i := 2) (ls2 := [some (.ref v0), some (.int v1), some (.int (0 : Int32)), none, none, none]) (by decide +kernel) (by decide) rfl ?_
  exact sX.le (xL2 v0 v1 ((0 : Int32)) M0) (sLe_s (sLe_s (sLe_s (sLe_n (sLe_n (sLe_n sLe_e))))))
def f_X12_keepers_B87 (v0 : Nat) (v1 : Int32) (v2 : Int32) (M : sMem) : Option ((Int32 × Int32 × sMem) ⊕ (((Int32 × sMem)))) :=
  some (.inl ((v1, ((v2 + (1 : Int32))), M)))
def f_X12_keepers_K68 (v0 : Nat) (v1 : Int32) (v2 : Int32) (M : sMem) : Option ((Int32 × Int32 × sMem) ⊕ (((Int32 × sMem)))) :=
  (gI 12 127 72 M v0).bind fun x1 =>
  if x1 ≤ v2 then
    some (.inr ((v1, M)))
  else
    (f_X12_isMatched v0 v2 M).bind fun (x2, M3) =>
    if x2 = 0 then
      f_X12_keepers_B87 v0 v1 v2 M3
    else
      f_X12_keepers_B87 v0 ((v1 + (-1 : Int32))) v2 M3
def f_X12_keepers_L68 (v0 : Nat) (v1 : Int32) (v2 : Int32) (M : sMem) : Option (Int32 × sMem) :=
  (sItr (fun a : (Int32 × Int32 × sMem) => f_X12_keepers_K68 v0 a.1 a.2.1 a.2.2) sFuel (v1, v2, M)).bind (fun b => some b)
def f_X12_keepers_B61 (v0 : Nat) (M : sMem) : Option (Int32 × sMem) :=
  (gI 12 127 72 M v0).bind fun x4 =>
  f_X12_keepers_L68 v0 x4 ((0 : Int32)) M
def f_X12_keepers_K33 (v0 : Nat) (v1 : Int32) (M : sMem) : Option ((Int32 × sMem) ⊕ ((sMem))) :=
  (gI 12 127 72 M v0).bind fun x5 =>
  if x5 ≤ v1 then
    some (.inr M)
  else
    (gR 12 127 76 M v0).bind fun x6 =>
    (stI M x6 v1 ((-1 : Int32))).bind fun M7 =>
    (gR 12 127 77 M7 v0).bind fun x8 =>
    (stI M7 x8 v1 ((-1 : Int32))).bind fun M9 =>
    some (.inl ((((v1 + (1 : Int32))), M9)))
def f_X12_keepers_L33 (v0 : Nat) (v1 : Int32) (M : sMem) : Option (Int32 × sMem) :=
  (sItr (fun a : (Int32 × sMem) => f_X12_keepers_K33 v0 a.1 a.2) sFuel (v1, M)).bind (fun b => f_X12_keepers_B61 v0 b)
def f_X12_keepers (v0 : Nat) (M0 : sMem) : Option (Int32 × sMem) :=
  sRc 12 127 M0 v0 (
    (gI 12 127 57 M0 v0).bind fun x10 =>
    if x10 = 0 then
      some (((-1 : Int32), M0))
    else
      (f_X12_gateMany v0 M0).bind fun x11 =>
      (f_X12_laysClosings v0 ((0 : Int32)) ((x11 - (1 : Int32))) M0).bind fun M12 =>
      (gI 12 127 72 M12 v0).bind fun x13 =>
      if x13 ≤ (40 : Int32) then
        f_X12_keepers_L33 v0 ((0 : Int32)) M12
      else
        some (((-1 : Int32), M12)))
set_option maxRecDepth 100000 in
set_option maxHeartbeats 4000000 in
theorem m_X12_keepers (G : sG) (l : Launch) (v0 : Nat) (M0 : sMem) : sC G l 8 yX12_keepers cX12_keepers 3 (some .int) [.ref v0] M0 rvI (f_X12_keepers v0 M0) := by
  refine sC_m (ls := [some (.ref v0), none, none]) (by decide +kernel) rfl (Nat.le_of_ble_eq_true rfl) (fun r M' K hr => ?_)
  unfold f_X12_keepers
  have xL68 : ∀ (v0 : Nat) (v1 : Int32) (v2 : Int32) (M : sMem), sX G l 8 yX12_keepers cX12_keepers 3 (some .int) M0 r M' 68 [some (.ref v0), some (.int v1), some (.int v2)] [] M (f_X12_keepers_L68 v0 v1 v2 M) K := by
    intro v0 v1 v2 M
    unfold f_X12_keepers_L68
    refine sX_bind ?_
    refine sX_loop (LS := fun a : (Int32 × Int32 × sMem) => [some (.ref v0), some (.int a.1), some (.int a.2.1)]) (MM := fun a => a.2.2) (fun K1 hb1 he1 => ?_) sFuel ((v1, v2, M))
    have xB87 : ∀ (v1 : Int32) (v2 : Int32) (M : sMem), sX G l 8 yX12_keepers cX12_keepers 3 (some .int) M0 r M' 87 [some (.ref v0), some (.int v1), some (.int v2)] [] M (f_X12_keepers_B87 v0 v1 v2 M) K1 := by
      intro v1 v2 M
      unfold f_X12_keepers_B87
      refine sX_iinc (i := 2) (n := 1) (v := v2 + (1 : Int32)) (ls2 := [some (.ref v0), some (.int v1), some (.int (v2 + (1 : Int32)))]) (by decide +kernel) rfl rfl (by decide) rfl ?_
      refine sX_goto (o := -22) (t := 68) (by decide +kernel) (by decide) ?_
      exact sX_back (a := (v1, ((v2 + (1 : Int32))), M)) hb1 rfl (sLe_s (sLe_s (sLe_s sLe_e)))
    have xK68 : ∀ (v1 : Int32) (v2 : Int32) (M : sMem), sX G l 8 yX12_keepers cX12_keepers 3 (some .int) M0 r M' 68 [some (.ref v0), some (.int v1), some (.int v2)] [] M (f_X12_keepers_K68 v0 v1 v2 M) K1 := by
      intro v1 v2 M
      unfold f_X12_keepers_K68
      refine sX_iload_n (i := 2) (by decide +kernel) rfl ?_
      refine sX_aload_n (i := 0) (by decide +kernel) rfl ?_
      refine sX_getI lf_X12_623 tk_12_72 (by decide +kernel) (fun x1 => ?_)
      refine sX_icge (o := 20) (t := 93) (by decide +kernel) (by decide) (fun _ => ?_) (fun _ => ?_)
      · refine sX_iload_n (i := 1) (by decide +kernel) rfl ?_
        refine sX_exit he1 ?_
        exact sX_some (fun h _ => sW_iret (by decide +kernel) rfl (hr _ h).1.symm (hr _ h).2.symm)
      · refine sX_aload_n (i := 0) (by decide +kernel) rfl ?_
        refine sX_iload_n (i := 2) (by decide +kernel) rfl ?_
        refine sX_callV (As := [.int v2]) (by decide +kernel) lm_X12_635 mf_X12_isMatched mi_X12_isMatched mc_12 (m_X12_isMatched G l v0 v2 M) (fun _ h => sRc_some h) (by decide) rfl rfl (Nat.le_of_ble_eq_true rfl) (fun x2 M3 _ => ?_)
        refine sX_ifeq (o := 6) (t := 87) (by decide +kernel) (by decide) (fun _ => ?_) (fun _ => ?_)
        · exact sX.le (xB87 v1 v2 M3) (sLe_s (sLe_s (sLe_s sLe_e)))
        · refine sX_iinc (i := 1) (n := -1) (v := v1 + (-1 : Int32)) (ls2 := [some (.ref v0), some (.int (v1 + (-1 : Int32))), some (.int v2)]) (by decide +kernel) rfl rfl (by decide) rfl ?_
          exact sX.le (xB87 ((v1 + (-1 : Int32))) v2 M3) (sLe_s (sLe_s (sLe_s sLe_e)))
    exact fun a => xK68 a.1 a.2.1 a.2.2
  have xB61 : ∀ (v0 : Nat) (M : sMem), sX G l 8 yX12_keepers cX12_keepers 3 (some .int) M0 r M' 61 [some (.ref v0), none, none] [] M (f_X12_keepers_B61 v0 M) K := by
    intro v0 M
    unfold f_X12_keepers_B61
    refine sX_aload_n (i := 0) (by decide +kernel) rfl ?_
    refine sX_getI lf_X12_623 tk_12_72 (by decide +kernel) (fun x4 => ?_)
    refine sX_istore_n (i := 1) (ls2 := [some (.ref v0), some (.int x4), none]) (by decide +kernel) (by decide) rfl ?_
    refine sX_iconst (n := 0) (v := (0 : Int32)) (by decide +kernel) (by decide) ?_
    refine sX_istore_n (i := 2) (ls2 := [some (.ref v0), some (.int x4), some (.int (0 : Int32))]) (by decide +kernel) (by decide) rfl ?_
    exact sX.le (xL68 v0 x4 ((0 : Int32)) M) (sLe_s (sLe_s (sLe_s sLe_e)))
  have xL33 : ∀ (v0 : Nat) (v1 : Int32) (M : sMem), sX G l 8 yX12_keepers cX12_keepers 3 (some .int) M0 r M' 33 [some (.ref v0), some (.int v1), none] [] M (f_X12_keepers_L33 v0 v1 M) K := by
    intro v0 v1 M
    unfold f_X12_keepers_L33
    refine sX_bind ?_
    refine sX_loop (LS := fun a : (Int32 × sMem) => [some (.ref v0), some (.int a.1), none]) (MM := fun a => a.2) (fun K1 hb1 he1 => ?_) sFuel ((v1, M))
    have xK33 : ∀ (v1 : Int32) (M : sMem), sX G l 8 yX12_keepers cX12_keepers 3 (some .int) M0 r M' 33 [some (.ref v0), some (.int v1), none] [] M (f_X12_keepers_K33 v0 v1 M) K1 := by
      intro v1 M
      unfold f_X12_keepers_K33
      refine sX_iload_n (i := 1) (by decide +kernel) rfl ?_
      refine sX_aload_n (i := 0) (by decide +kernel) rfl ?_
      refine sX_getI lf_X12_623 tk_12_72 (by decide +kernel) (fun x5 => ?_)
      refine sX_icge (o := 23) (t := 61) (by decide +kernel) (by decide) (fun _ => ?_) (fun _ => ?_)
      · refine sX_exit he1 ?_
        exact sX.le (xB61 v0 M) (sLe_s (sLe_n (sLe_n sLe_e)))
      · refine sX_aload_n (i := 0) (by decide +kernel) rfl ?_
        refine sX_getR lf_X12_179 tk_12_76 (by decide +kernel) (fun x6 => ?_)
        refine sX_iload_n (i := 1) (by decide +kernel) rfl ?_
        refine sX_iconst (n := -1) (v := (-1 : Int32)) (by decide +kernel) (by decide) ?_
        refine sX_iastore (by decide +kernel) (by decide) (fun M7 => ?_)
        refine sX_aload_n (i := 0) (by decide +kernel) rfl ?_
        refine sX_getR lf_X12_182 tk_12_77 (by decide +kernel) (fun x8 => ?_)
        refine sX_iload_n (i := 1) (by decide +kernel) rfl ?_
        refine sX_iconst (n := -1) (v := (-1 : Int32)) (by decide +kernel) (by decide) ?_
        refine sX_iastore (by decide +kernel) (by decide) (fun M9 => ?_)
        refine sX_iinc (i := 1) (n := 1) (v := v1 + (1 : Int32)) (ls2 := [some (.ref v0), some (.int (v1 + (1 : Int32))), none]) (by decide +kernel) rfl rfl (by decide) rfl ?_
        refine sX_goto (o := -25) (t := 33) (by decide +kernel) (by decide) ?_
        exact sX_back (a := (((v1 + (1 : Int32))), M9)) hb1 rfl (sLe_s (sLe_s (sLe_n sLe_e)))
    exact fun a => xK33 a.1 a.2
  refine sX_rc ?_
  refine sX_aload_n (i := 0) (by decide +kernel) rfl ?_
  refine sX_getI lf_X12_450 tk_12_57 (by decide +kernel) (fun x10 => ?_)
  refine sX_ifne (o := 5) (t := 9) (by decide +kernel) (by decide) (fun _ => ?_) (fun _ => ?_)
  · refine sX_iconst (n := -1) (v := (-1 : Int32)) (by decide +kernel) (by decide) ?_
    exact sX_some (fun h _ => sW_iret (by decide +kernel) rfl (hr _ h).1.symm (hr _ h).2.symm)
  · refine sX_aload_n (i := 0) (by decide +kernel) rfl ?_
    refine sX_iconst (n := 0) (v := (0 : Int32)) (by decide +kernel) (by decide) ?_
    refine sX_aload_n (i := 0) (by decide +kernel) rfl ?_
    refine sX_callVp (As := []) (by decide +kernel) lm_X12_460 mf_X12_gateMany mi_X12_gateMany mc_12 (m_X12_gateMany G l v0 M0) (fun _ h => sRc_some h) (by decide) rfl rfl (Nat.le_of_ble_eq_true rfl) (fun x11 => ?_)
    refine sX_iconst (n := 1) (v := (1 : Int32)) (by decide +kernel) (by decide) ?_
    refine sX_isub (by decide +kernel) ?_
    refine sX_callVv (As := [.int (0 : Int32), .int (x11 - (1 : Int32))]) (by decide +kernel) lm_X12_626 mf_X12_laysClosings mi_X12_laysClosings mc_12 (m_X12_laysClosings G l v0 ((0 : Int32)) ((x11 - (1 : Int32))) M0) (fun _ h => sRc_some h) (by decide) rfl rfl (Nat.le_of_ble_eq_true rfl) (fun M12 => ?_)
    refine sX_aload_n (i := 0) (by decide +kernel) rfl ?_
    refine sX_getI lf_X12_623 tk_12_72 (by decide +kernel) (fun x13 => ?_)
    refine sX_bipush (n := 40) (v := (40 : Int32)) (by decide +kernel) (by decide) ?_
    refine sX_icle (o := 5) (t := 31) (by decide +kernel) (by decide) (fun _ => ?_) (fun _ => ?_)
    · refine sX_iconst (n := 0) (v := (0 : Int32)) (by decide +kernel) (by decide) ?_
      refine sX_istore_n (i := 1) (ls2 := [some (.ref v0), some (.int (0 : Int32)), none]) (by decide +kernel) (by decide) rfl ?_
      exact sX.le (xL33 v0 ((0 : Int32)) M12) (sLe_s (sLe_s (sLe_n sLe_e)))
    · refine sX_iconst (n := -1) (v := (-1 : Int32)) (by decide +kernel) (by decide) ?_
      exact sX_some (fun h _ => sW_iret (by decide +kernel) rfl (hr _ h).1.symm (hr _ h).2.symm)
def f_X12_refuses (v0 : Nat) (v1 : Int32) (M0 : sMem) : Option (Int32 × sMem) :=
  sRc 12 127 M0 v0 (
    (gR 12 127 9 M0 v0).bind fun x1 =>
    (ldI 14 M0 x1 v1).bind fun x2 =>
    (stI M0 x1 v1 ((x2 + (1 : Int32)))).bind fun M3 =>
    some (((-1 : Int32), M3)))
set_option maxRecDepth 100000 in
set_option maxHeartbeats 4000000 in
theorem m_X12_refuses (G : sG) (l : Launch) (v0 : Nat) (v1 : Int32) (M0 : sMem) : sC G l 1 yX12_refuses cX12_refuses 2 (some .int) [.ref v0, .int v1] M0 rvI (f_X12_refuses v0 v1 M0) := by
  refine sC_m (ls := [some (.ref v0), some (.int v1)]) (by decide +kernel) rfl (Nat.le_of_ble_eq_true rfl) (fun r M' K hr => ?_)
  unfold f_X12_refuses
  refine sX_rc ?_
  refine sX_aload_n (i := 0) (by decide +kernel) rfl ?_
  refine sX_getR lf_X12_17 tk_12_9 (by decide +kernel) (fun x1 => ?_)
  refine sX_iload_n (i := 1) (by decide +kernel) rfl ?_
  refine sX_dup2 (by decide +kernel) rfl rfl ?_
  refine sX_iaload (by decide +kernel) (fun x2 => ?_)
  refine sX_iconst (n := 1) (v := (1 : Int32)) (by decide +kernel) (by decide) ?_
  refine sX_iadd (by decide +kernel) ?_
  refine sX_iastore (by decide +kernel) (by decide) (fun M3 => ?_)
  refine sX_iconst (n := -1) (v := (-1 : Int32)) (by decide +kernel) (by decide) ?_
  exact sX_some (fun h _ => sW_iret (by decide +kernel) rfl (hr _ h).1.symm (hr _ h).2.symm)
