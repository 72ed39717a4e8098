def f_X12_placeMany (v0 : Nat) (M0 : sMem) : Option Int32 :=
  sRc 12 127 M0 v0 (
    (gR 12 127 46 M0 v0).bind fun x1 =>
    (ldI 14 M0 x1 ((6 : Int32))).bind fun x2 =>
    some x2)
set_option maxRecDepth 100000 in
set_option maxHeartbeats 4000000 in
theorem m_X12_placeMany (G : sG) (l : Launch) (v0 : Nat) (M0 : sMem) : sCp G l 1 yX12_placeMany cX12_placeMany 1 (some .int) [.ref v0] M0 rvI (f_X12_placeMany v0 M0) := by
  refine sC_p (ls := [some (.ref v0)]) (by decide +kernel) rfl (Nat.le_of_ble_eq_true rfl) (fun r M' K hr => ?_)
  unfold f_X12_placeMany
  refine sX_rc ?_
  refine sX_aload_n (i := 0) (by decide +kernel) rfl ?_
  refine sX_getR lf_X12_123 tk_12_46 (by decide +kernel) (fun x1 => ?_)
  refine sX_bipush (n := 6) (v := (6 : Int32)) (by decide +kernel) (by decide) ?_
  refine sX_iaload (by decide +kernel) (fun x2 => ?_)
  exact sX_some (fun h _ => sW_iret (by decide +kernel) rfl (hr _ h).1.symm (hr _ h).2.symm)
def f_X12_eraMany (v0 : Nat) (M0 : sMem) : Option Int32 :=
  sRc 12 127 M0 v0 (
    (gR 12 127 46 M0 v0).bind fun x1 =>
    (ldI 14 M0 x1 ((7 : Int32))).bind fun x2 =>
    some x2)
set_option maxRecDepth 100000 in
set_option maxHeartbeats 4000000 in
theorem m_X12_eraMany (G : sG) (l : Launch) (v0 : Nat) (M0 : sMem) : sCp G l 1 yX12_eraMany cX12_eraMany 1 (some .int) [.ref v0] M0 rvI (f_X12_eraMany v0 M0) := by
  refine sC_p (ls := [some (.ref v0)]) (by decide +kernel) rfl (Nat.le_of_ble_eq_true rfl) (fun r M' K hr => ?_)
  unfold f_X12_eraMany
  refine sX_rc ?_
  refine sX_aload_n (i := 0) (by decide +kernel) rfl ?_
  refine sX_getR lf_X12_123 tk_12_46 (by decide +kernel) (fun x1 => ?_)
  refine sX_bipush (n := 7) (v := (7 : Int32)) (by decide +kernel) (by decide) ?_
  refine sX_iaload (by decide +kernel) (fun x2 => ?_)
  exact sX_some (fun h _ => sW_iret (by decide +kernel) rfl (hr _ h).1.symm (hr _ h).2.symm)
def f_X12_carMany (v0 : Nat) (M0 : sMem) : Option Int32 :=
  sRc 12 127 M0 v0 (
    (gR 12 127 46 M0 v0).bind fun x1 =>
    (ldI 14 M0 x1 ((8 : Int32))).bind fun x2 =>
    some x2)
set_option maxRecDepth 100000 in
set_option maxHeartbeats 4000000 in
theorem m_X12_carMany (G : sG) (l : Launch) (v0 : Nat) (M0 : sMem) : sCp G l 1 yX12_carMany cX12_carMany 1 (some .int) [.ref v0] M0 rvI (f_X12_carMany v0 M0) := by
  refine sC_p (ls := [some (.ref v0)]) (by decide +kernel) rfl (Nat.le_of_ble_eq_true rfl) (fun r M' K hr => ?_)
  unfold f_X12_carMany
  refine sX_rc ?_
  refine sX_aload_n (i := 0) (by decide +kernel) rfl ?_
  refine sX_getR lf_X12_123 tk_12_46 (by decide +kernel) (fun x1 => ?_)
  refine sX_bipush (n := 8) (v := (8 : Int32)) (by decide +kernel) (by decide) ?_
  refine sX_iaload (by decide +kernel) (fun x2 => ?_)
  exact sX_some (fun h _ => sW_iret (by decide +kernel) rfl (hr _ h).1.symm (hr _ h).2.symm)
def f_X12_roadMany (v0 : Nat) (M0 : sMem) : Option Int32 :=
  sRc 12 127 M0 v0 (
    (gR 12 127 46 M0 v0).bind fun x1 =>
    (ldI 14 M0 x1 ((9 : Int32))).bind fun x2 =>
    some x2)
set_option maxRecDepth 100000 in
set_option maxHeartbeats 4000000 in
theorem m_X12_roadMany (G : sG) (l : Launch) (v0 : Nat) (M0 : sMem) : sCp G l 1 yX12_roadMany cX12_roadMany 1 (some .int) [.ref v0] M0 rvI (f_X12_roadMany v0 M0) := by
  refine sC_p (ls := [some (.ref v0)]) (by decide +kernel) rfl (Nat.le_of_ble_eq_true rfl) (fun r M' K hr => ?_)
  unfold f_X12_roadMany
  refine sX_rc ?_
  refine sX_aload_n (i := 0) (by decide +kernel) rfl ?_
  refine sX_getR lf_X12_123 tk_12_46 (by decide +kernel) (fun x1 => ?_)
  refine sX_bipush (n := 9) (v := (9 : Int32)) (by decide +kernel) (by decide) ?_
  refine sX_iaload (by decide +kernel) (fun x2 => ?_)
  exact sX_some (fun h _ => sW_iret (by decide +kernel) rfl (hr _ h).1.symm (hr _ h).2.symm)
def f_X12_isGate (v0 : Nat) (v1 : Int64) (M0 : sMem) : Option Int32 :=
  sRc 12 127 M0 v0 (
    (f_X12_gateMany v0 M0).bind fun x1 =>
    (f_X12_isIn v1 ((0 : Int64)) (((x1 - (1 : Int32))).toInt64) M0).bind fun x2 =>
    if x2 = 0 ∨ x2 = 1 then some x2 else none)
set_option maxRecDepth 100000 in
set_option maxHeartbeats 4000000 in
theorem m_X12_isGate (G : sG) (l : Launch) (v0 : Nat) (v1 : Int64) (M0 : sMem) : sCp G l 2 yX12_isGate cX12_isGate 3 (some .boolean) [.ref v0, .long v1] M0 rvI (f_X12_isGate v0 v1 M0) := by
  refine sC_p (ls := [some (.ref v0), some (.long v1), none]) (by decide +kernel) rfl (Nat.le_of_ble_eq_true rfl) (fun r M' K hr => ?_)
  unfold f_X12_isGate
  refine sX_rc ?_
  refine sX_lload_n (i := 1) (by decide +kernel) rfl ?_
  refine sX_lconst (n := 0) (v := (0 : Int64)) (by decide +kernel) (by decide) ?_
  refine sX_aload_n (i := 0) (by decide +kernel) rfl ?_
  refine sX_callVp (As := []) (by decide +kernel) lm_X12_460 mf_X12_gateMany mi_X12_gateMany mc_12 (m_X12_gateMany G l v0 M0) (fun _ h => sRc_some h) (by decide) rfl rfl (Nat.le_of_ble_eq_true rfl) (fun x1 => ?_)
  refine sX_iconst (n := 1) (v := (1 : Int32)) (by decide +kernel) (by decide) ?_
  refine sX_isub (by decide +kernel) ?_
  refine sX_i2l (by decide +kernel) ?_
  refine sX_callSp (As := [.long v1, .long (0 : Int64), .long ((x1 - (1 : Int32))).toInt64]) (by decide +kernel) lm_X12_343 mf_X12_isIn ms_X12_isIn (m_X12_isIn G l v1 ((0 : Int64)) (((x1 - (1 : Int32))).toInt64) M0) (by decide) rfl rfl (Nat.le_of_ble_eq_true rfl) (fun x2 => ?_)
  refine sX_g (fun hz => ?_)
  exact sX_some (fun h _ => sW_zret (by decide +kernel) rfl (nar_bool hz).1 (hr _ h).1.symm (hr _ h).2.symm)
def f_X12_isPlace (v0 : Nat) (v1 : Int64) (M0 : sMem) : Option Int32 :=
  sRc 12 127 M0 v0 (
    (f_X12_placeMany v0 M0).bind fun x1 =>
    (f_X12_isIn v1 ((0 : Int64)) (((x1 - (1 : Int32))).toInt64) M0).bind fun x2 =>
    if x2 = 0 ∨ x2 = 1 then some x2 else none)
set_option maxRecDepth 100000 in
set_option maxHeartbeats 4000000 in
theorem m_X12_isPlace (G : sG) (l : Launch) (v0 : Nat) (v1 : Int64) (M0 : sMem) : sCp G l 2 yX12_isPlace cX12_isPlace 3 (some .boolean) [.ref v0, .long v1] M0 rvI (f_X12_isPlace v0 v1 M0) := by
  refine sC_p (ls := [some (.ref v0), some (.long v1), none]) (by decide +kernel) rfl (Nat.le_of_ble_eq_true rfl) (fun r M' K hr => ?_)
  unfold f_X12_isPlace
  refine sX_rc ?_
  refine sX_lload_n (i := 1) (by decide +kernel) rfl ?_
  refine sX_lconst (n := 0) (v := (0 : Int64)) (by decide +kernel) (by decide) ?_
  refine sX_aload_n (i := 0) (by decide +kernel) rfl ?_
  refine sX_callVp (As := []) (by decide +kernel) lm_X12_463 mf_X12_placeMany mi_X12_placeMany mc_12 (m_X12_placeMany G l v0 M0) (fun _ h => sRc_some h) (by decide) rfl rfl (Nat.le_of_ble_eq_true rfl) (fun x1 => ?_)
  refine sX_iconst (n := 1) (v := (1 : Int32)) (by decide +kernel) (by decide) ?_
  refine sX_isub (by decide +kernel) ?_
  refine sX_i2l (by decide +kernel) ?_
  refine sX_callSp (As := [.long v1, .long (0 : Int64), .long ((x1 - (1 : Int32))).toInt64]) (by decide +kernel) lm_X12_343 mf_X12_isIn ms_X12_isIn (m_X12_isIn G l v1 ((0 : Int64)) (((x1 - (1 : Int32))).toInt64) M0) (by decide) rfl rfl (Nat.le_of_ble_eq_true rfl) (fun x2 => ?_)
  refine sX_g (fun hz => ?_)
  exact sX_some (fun h _ => sW_zret (by decide +kernel) rfl (nar_bool hz).1 (hr _ h).1.symm (hr _ h).2.symm)
def f_X12_isEra (v0 : Nat) (v1 : Int32) (M0 : sMem) : Option Int32 :=
  sRc 12 127 M0 v0 (
    (f_X12_eraMany v0 M0).bind fun x1 =>
    (f_X12_isIn v1.toInt64 ((0 : Int64)) (((x1 - (1 : Int32))).toInt64) M0).bind fun x2 =>
    if x2 = 0 ∨ x2 = 1 then some x2 else none)
set_option maxRecDepth 100000 in
set_option maxHeartbeats 4000000 in
theorem m_X12_isEra (G : sG) (l : Launch) (v0 : Nat) (v1 : Int32) (M0 : sMem) : sCp G l 2 yX12_isEra cX12_isEra 2 (some .boolean) [.ref v0, .int v1] M0 rvI (f_X12_isEra v0 v1 M0) := by
  refine sC_p (ls := [some (.ref v0), some (.int v1)]) (by decide +kernel) rfl (Nat.le_of_ble_eq_true rfl) (fun r M' K hr => ?_)
  unfold f_X12_isEra
  refine sX_rc ?_
  refine sX_iload_n (i := 1) (by decide +kernel) rfl ?_
  refine sX_i2l (by decide +kernel) ?_
  refine sX_lconst (n := 0) (v := (0 : Int64)) (by decide +kernel) (by decide) ?_
  refine sX_aload_n (i := 0) (by decide +kernel) rfl ?_
  refine sX_callVp (As := []) (by decide +kernel) lm_X12_466 mf_X12_eraMany mi_X12_eraMany mc_12 (m_X12_eraMany G l v0 M0) (fun _ h => sRc_some h) (by decide) rfl rfl (Nat.le_of_ble_eq_true rfl) (fun x1 => ?_)
  refine sX_iconst (n := 1) (v := (1 : Int32)) (by decide +kernel) (by decide) ?_
  refine sX_isub (by decide +kernel) ?_
  refine sX_i2l (by decide +kernel) ?_
  refine sX_callSp (As := [.long v1.toInt64, .long (0 : Int64), .long ((x1 - (1 : Int32))).toInt64]) (by decide +kernel) lm_X12_343 mf_X12_isIn ms_X12_isIn (m_X12_isIn G l v1.toInt64 ((0 : Int64)) (((x1 - (1 : Int32))).toInt64) M0) (by decide) rfl rfl (Nat.le_of_ble_eq_true rfl) (fun x2 => ?_)
  refine sX_g (fun hz => ?_)
  exact sX_some (fun h _ => sW_zret (by decide +kernel) rfl (nar_bool hz).1 (hr _ h).1.symm (hr _ h).2.symm)
def f_X12_isCar (v0 : Nat) (v1 : Int32) (M0 : sMem) : Option Int32 :=
  sRc 12 127 M0 v0 (
    (f_X12_carMany v0 M0).bind fun x1 =>
    (f_X12_isIn v1.toInt64 ((0 : Int64)) (((x1 - (1 : Int32))).toInt64) M0).bind fun x2 =>
    if x2 = 0 ∨ x2 = 1 then some x2 else none)
set_option maxRecDepth 100000 in
set_option maxHeartbeats 4000000 in
theorem m_X12_isCar (G : sG) (l : Launch) (v0 : Nat) (v1 : Int32) (M0 : sMem) : sCp G l 2 yX12_isCar cX12_isCar 2 (some .boolean) [.ref v0, .int v1] M0 rvI (f_X12_isCar v0 v1 M0) := by
  refine sC_p (ls := [some (.ref v0), some (.int v1)]) (by decide +kernel) rfl (Nat.le_of_ble_eq_true rfl) (fun r M' K hr => ?_)
  unfold f_X12_isCar
  refine sX_rc ?_
  refine sX_iload_n (i := 1) (by decide +kernel) rfl ?_
  refine sX_i2l (by decide +kernel) ?_
  refine sX_lconst (n := 0) (v := (0 : Int64)) (by decide +kernel) (by decide) ?_
  refine sX_aload_n (i := 0) (by decide +kernel) rfl ?_
  refine sX_callVp (As := []) (by decide +kernel) lm_X12_469 mf_X12_carMany mi_X12_carMany mc_12 (m_X12_carMany G l v0 M0) (fun _ h => sRc_some h) (by decide) rfl rfl (Nat.le_of_ble_eq_true rfl) (fun x1 => ?_)
  refine sX_iconst (n := 1) (v := (1 : Int32)) (by decide +kernel) (by decide) ?_
  refine sX_isub (by decide +kernel) ?_
  refine sX_i2l (by decide +kernel) ?_
  refine sX_callSp (As := [.long v1.toInt64, .long (0 : Int64), .long ((x1 - (1 : Int32))).toInt64]) (by decide +kernel) lm_X12_343 mf_X12_isIn ms_X12_isIn (m_X12_isIn G l v1.toInt64 ((0 : Int64)) (((x1 - (1 : Int32))).toInt64) M0) (by decide) rfl rfl (Nat.le_of_ble_eq_true rfl) (fun x2 => ?_)
  refine sX_g (fun hz => ?_)
  exact sX_some (fun h _ => sW_zret (by decide +kernel) rfl (nar_bool hz).1 (hr _ h).1.symm (hr _ h).2.symm)
def f_X12_mileOf (v0 : Nat) (v1 : Int32) (M0 : sMem) : Option Int32 :=
  sRc 12 127 M0 v0 (
    (gR 12 127 48 M0 v0).bind fun x1 =>
    (ldI 14 M0 x1 (((6 : Int32) + v1))).bind fun x2 =>
    some x2)
set_option maxRecDepth 100000 in
set_option maxHeartbeats 4000000 in
theorem m_X12_mileOf (G : sG) (l : Launch) (v0 : Nat) (v1 : Int32) (M0 : sMem) : sCp G l 1 yX12_mileOf cX12_mileOf 2 (some .int) [.ref v0, .int v1] M0 rvI (f_X12_mileOf v0 v1 M0) := by
  refine sC_p (ls := [some (.ref v0), some (.int v1)]) (by decide +kernel) rfl (Nat.le_of_ble_eq_true rfl) (fun r M' K hr => ?_)
  unfold f_X12_mileOf
  refine sX_rc ?_
  refine sX_aload_n (i := 0) (by decide +kernel) rfl ?_
  refine sX_getR lf_X12_130 tk_12_48 (by decide +kernel) (fun x1 => ?_)
  refine sX_bipush (n := 6) (v := (6 : Int32)) (by decide +kernel) (by decide) ?_
  refine sX_iload_n (i := 1) (by decide +kernel) rfl ?_
  refine sX_iadd (by decide +kernel) ?_
  refine sX_iaload (by decide +kernel) (fun x2 => ?_)
  exact sX_some (fun h _ => sW_iret (by decide +kernel) rfl (hr _ h).1.symm (hr _ h).2.symm)
def f_X12_isUp (v0 : Nat) (v1 : Int32) (M0 : sMem) : Option Int32 :=
  sRc 12 127 M0 v0 (
    (gR 12 127 59 M0 v0).bind fun x1 =>
    (ldI 14 M0 x1 (((1 : Int32) + v1))).bind fun x2 =>
    if x2 = (1 : Int32) then
      some ((1 : Int32))
    else
      some ((0 : Int32)))
set_option maxRecDepth 100000 in
set_option maxHeartbeats 4000000 in
theorem m_X12_isUp (G : sG) (l : Launch) (v0 : Nat) (v1 : Int32) (M0 : sMem) : sCp G l 1 yX12_isUp cX12_isUp 2 (some .boolean) [.ref v0, .int v1] M0 rvI (f_X12_isUp v0 v1 M0) := by
  refine sC_p (ls := [some (.ref v0), some (.int v1)]) (by decide +kernel) rfl (Nat.le_of_ble_eq_true rfl) (fun r M' K hr => ?_)
  unfold f_X12_isUp
  refine sX_rc ?_
  refine sX_aload_n (i := 0) (by decide +kernel) rfl ?_
  refine sX_getR lf_X12_151 tk_12_59 (by decide +kernel) (fun x1 => ?_)
  refine sX_iconst (n := 1) (v := (1 : Int32)) (by decide +kernel) (by decide) ?_
  refine sX_iload_n (i := 1) (by decide +kernel) rfl ?_
  refine sX_iadd (by decide +kernel) ?_
  refine sX_iaload (by decide +kernel) (fun x2 => ?_)
  refine sX_iconst (n := 1) (v := (1 : Int32)) (by decide +kernel) (by decide) ?_
  refine sX_icne (o := 7) (t := 16) (by decide +kernel) (by decide) (fun _ => ?_) (fun _ => ?_)
  · refine sX_iconst (n := 1) (v := (1 : Int32)) (by decide +kernel) (by decide) ?_
    refine sX_goto (o := 4) (t := 17) (by decide +kernel) (by decide) ?_
    exact sX_some (fun h _ => sW_zret (by decide +kernel) rfl (by decide) (hr _ h).1.symm (hr _ h).2.symm)
  · refine sX_iconst (n := 0) (v := (0 : Int32)) (by decide +kernel) (by decide) ?_
    exact sX_some (fun h _ => sW_zret (by decide +kernel) rfl (by decide) (hr _ h).1.symm (hr _ h).2.symm)
def f_X12_lateOf (v0 : Nat) (v1 : Int32) (M0 : sMem) : Option Int32 :=
  sRc 12 127 M0 v0 (
    (gR 12 127 59 M0 v0).bind fun x1 =>
    (ldI 14 M0 x1 (((7 : Int32) + v1))).bind fun x2 =>
    some x2)
set_option maxRecDepth 100000 in
set_option maxHeartbeats 4000000 in
theorem m_X12_lateOf (G : sG) (l : Launch) (v0 : Nat) (v1 : Int32) (M0 : sMem) : sCp G l 1 yX12_lateOf cX12_lateOf 2 (some .int) [.ref v0, .int v1] M0 rvI (f_X12_lateOf v0 v1 M0) := by
  refine sC_p (ls := [some (.ref v0), some (.int v1)]) (by decide +kernel) rfl (Nat.le_of_ble_eq_true rfl) (fun r M' K hr => ?_)
  unfold f_X12_lateOf
  refine sX_rc ?_
  refine sX_aload_n (i := 0) (by decide +kernel) rfl ?_
  refine sX_getR lf_X12_151 tk_12_59 (by decide +kernel) (fun x1 => ?_)
  refine sX_bipush (n := 7) (v := (7 : Int32)) (by decide +kernel) (by decide) ?_
  refine sX_iload_n (i := 1) (by decide +kernel) rfl ?_
  refine sX_iadd (by decide +kernel) ?_
  refine sX_iaload (by decide +kernel) (fun x2 => ?_)
  exact sX_some (fun h _ => sW_iret (by decide +kernel) rfl (hr _ h).1.symm (hr _ h).2.symm)
def f_X12_placeOf (v0 : Nat) (v1 : Int32) (M0 : sMem) : Option Int32 :=
  sRc 12 127 M0 v0 (
    (gR 12 127 59 M0 v0).bind fun x1 =>
    (ldI 14 M0 x1 (((12 : Int32) + ((3 : Int32) * v1)))).bind fun x2 =>
    some x2)
set_option maxRecDepth 100000 in
set_option maxHeartbeats 4000000 in
theorem m_X12_placeOf (G : sG) (l : Launch) (v0 : Nat) (v1 : Int32) (M0 : sMem) : sCp G l 1 yX12_placeOf cX12_placeOf 2 (some .int) [.ref v0, .int v1] M0 rvI (f_X12_placeOf v0 v1 M0) := by
  refine sC_p (ls := [some (.ref v0), some (.int v1)]) (by decide +kernel) rfl (Nat.le_of_ble_eq_true rfl) (fun r M' K hr => ?_)
  unfold f_X12_placeOf
  refine sX_rc ?_
  refine sX_aload_n (i := 0) (by decide +kernel) rfl ?_
  refine sX_getR lf_X12_151 tk_12_59 (by decide +kernel) (fun x1 => ?_)
  refine sX_bipush (n := 12) (v := (12 : Int32)) (by decide +kernel) (by decide) ?_
  refine sX_iconst (n := 3) (v := (3 : Int32)) (by decide +kernel) (by decide) ?_
  refine sX_iload_n (i := 1) (by decide +kernel) rfl ?_
  refine sX_imul (by decide +kernel) ?_
  refine sX_iadd (by decide +kernel) ?_
  refine sX_iaload (by decide +kernel) (fun x2 => ?_)
  exact sX_some (fun h _ => sW_iret (by decide +kernel) rfl (hr _ h).1.symm (hr _ h).2.symm)
def f_X12_goalOf (v0 : Nat) (v1 : Int32) (M0 : sMem) : Option Int32 :=
  sRc 12 127 M0 v0 (
    (gR 12 127 59 M0 v0).bind fun x1 =>
    (ldI 14 M0 x1 (((13 : Int32) + ((3 : Int32) * v1)))).bind fun x2 =>
    some x2)
set_option maxRecDepth 100000 in
set_option maxHeartbeats 4000000 in
theorem m_X12_goalOf (G : sG) (l : Launch) (v0 : Nat) (v1 : Int32) (M0 : sMem) : sCp G l 1 yX12_goalOf cX12_goalOf 2 (some .int) [.ref v0, .int v1] M0 rvI (f_X12_goalOf v0 v1 M0) := by
  refine sC_p (ls := [some (.ref v0), some (.int v1)]) (by decide +kernel) rfl (Nat.le_of_ble_eq_true rfl) (fun r M' K hr => ?_)
  unfold f_X12_goalOf
  refine sX_rc ?_
  refine sX_aload_n (i := 0) (by decide +kernel) rfl ?_
  refine sX_getR lf_X12_151 tk_12_59 (by decide +kernel) (fun x1 => ?_)
  refine sX_bipush (n := 13) (v := (13 : Int32)) (by decide +kernel) (by decide) ?_
  refine sX_iconst (n := 3) (v := (3 : Int32)) (by decide +kernel) (by decide) ?_
  refine sX_iload_n (i := 1) (by decide +kernel) rfl ?_
  refine sX_imul (by decide +kernel) ?_
  refine sX_iadd (by decide +kernel) ?_
  refine sX_iaload (by decide +kernel) (fun x2 => ?_)
  exact sX_some (fun h _ => sW_iret (by decide +kernel) rfl (hr _ h).1.symm (hr _ h).2.symm)
def f_X12_knowsOf (v0 : Nat) (v1 : Int32) (M0 : sMem) : Option Int32 :=
  sRc 12 127 M0 v0 (
    (gR 12 127 59 M0 v0).bind fun x1 =>
    (ldI 14 M0 x1 (((14 : Int32) + ((3 : Int32) * v1)))).bind fun x2 =>
    some x2)
set_option maxRecDepth 100000 in
set_option maxHeartbeats 4000000 in
theorem m_X12_knowsOf (G : sG) (l : Launch) (v0 : Nat) (v1 : Int32) (M0 : sMem) : sCp G l 1 yX12_knowsOf cX12_knowsOf 2 (some .int) [.ref v0, .int v1] M0 rvI (f_X12_knowsOf v0 v1 M0) := by
  refine sC_p (ls := [some (.ref v0), some (.int v1)]) (by decide +kernel) rfl (Nat.le_of_ble_eq_true rfl) (fun r M' K hr => ?_)
  unfold f_X12_knowsOf
  refine sX_rc ?_
  refine sX_aload_n (i := 0) (by decide +kernel) rfl ?_
  refine sX_getR lf_X12_151 tk_12_59 (by decide +kernel) (fun x1 => ?_)
  refine sX_bipush (n := 14) (v := (14 : Int32)) (by decide +kernel) (by decide) ?_
  refine sX_iconst (n := 3) (v := (3 : Int32)) (by decide +kernel) (by decide) ?_
  refine sX_iload_n (i := 1) (by decide +kernel) rfl ?_
  refine sX_imul (by decide +kernel) ?_
  refine sX_iadd (by decide +kernel) ?_
  refine sX_iaload (by decide +kernel) (fun x2 => ?_)
  exact sX_some (fun h _ => sW_iret (by decide +kernel) rfl (hr _ h).1.symm (hr _ h).2.symm)
def f_X12_minuteOf (v0 : Nat) (v1 : Int32) (M0 : sMem) : Option Int32 :=
  sRc 12 127 M0 v0 (
    (gR 12 127 51 M0 v0).bind fun x1 =>
    (ldI 14 M0 x1 (((17 : Int32) + ((3 : Int32) * v1)))).bind fun x2 =>
    some x2)
set_option maxRecDepth 100000 in
set_option maxHeartbeats 4000000 in
theorem m_X12_minuteOf (G : sG) (l : Launch) (v0 : Nat) (v1 : Int32) (M0 : sMem) : sCp G l 1 yX12_minuteOf cX12_minuteOf 2 (some .int) [.ref v0, .int v1] M0 rvI (f_X12_minuteOf v0 v1 M0) := by
  refine sC_p (ls := [some (.ref v0), some (.int v1)]) (by decide +kernel) rfl (Nat.le_of_ble_eq_true rfl) (fun r M' K hr => ?_)
  unfold f_X12_minuteOf
  refine sX_rc ?_
  refine sX_aload_n (i := 0) (by decide +kernel) rfl ?_
  refine sX_getR lf_X12_139 tk_12_51 (by decide +kernel) (fun x1 => ?_)
  refine sX_bipush (n := 17) (v := (17 : Int32)) (by decide +kernel) (by decide) ?_
  refine sX_iconst (n := 3) (v := (3 : Int32)) (by decide +kernel) (by decide) ?_
  refine sX_iload_n (i := 1) (by decide +kernel) rfl ?_
  refine sX_imul (by decide +kernel) ?_
  refine sX_iadd (by decide +kernel) ?_
  refine sX_iaload (by decide +kernel) (fun x2 => ?_)
  exact sX_some (fun h _ => sW_iret (by decide +kernel) rfl (hr _ h).1.symm (hr _ h).2.symm)
def f_X12_upSet_B26 (v0 : Nat) (v1 : Int32) (v2 : Int32) (M0 : sMem) : Option ((Int32 × Int32) ⊕ ((Int32))) :=
  some (.inl ((v1, ((v2 + (1 : Int32))))))
def f_X12_upSet_K4 (v0 : Nat) (v1 : Int32) (v2 : Int32) (M0 : sMem) : Option ((Int32 × Int32) ⊕ ((Int32))) :=
  (f_X12_gateMany v0 M0).bind fun x1 =>
  if x1 ≤ v2 then
    some (.inr v1)
  else
    (f_X12_isUp v0 v2 M0).bind fun x2 =>
    if x2 = 0 then
      f_X12_upSet_B26 v0 v1 v2 M0
    else
      f_X12_upSet_B26 v0 ((v1 ||| ((1 : Int32) <<< (v2 &&& 31)))) v2 M0
def f_X12_upSet_L4 (v0 : Nat) (v1 : Int32) (v2 : Int32) (M0 : sMem) : Option Int32 :=
  (sItr (fun a : (Int32 × Int32) => f_X12_upSet_K4 v0 a.1 a.2 M0) sFuel (v1, v2)).bind (fun b => some b)
def f_X12_upSet (v0 : Nat) (M0 : sMem) : Option Int32 :=
  sRc 12 127 M0 v0 (
    f_X12_upSet_L4 v0 ((0 : Int32)) ((0 : Int32)) M0)
set_option maxRecDepth 100000 in
set_option maxHeartbeats 4000000 in
theorem m_X12_upSet (G : sG) (l : Launch) (v0 : Nat) (M0 : sMem) : sCp G l 2 yX12_upSet cX12_upSet 3 (some .int) [.ref v0] M0 rvI (f_X12_upSet v0 M0) := by
  refine sC_p (ls := [some (.ref v0), none, none]) (by decide +kernel) rfl (Nat.le_of_ble_eq_true rfl) (fun r M' K hr => ?_)
  unfold f_X12_upSet
  have xL4 : ∀ (v0 : Nat) (v1 : Int32) (v2 : Int32), sX G l 2 yX12_upSet cX12_upSet 3 (some .int) M0 r M' 4 [some (.ref v0), some (.int v1), some (.int v2)] [] M0 (f_X12_upSet_L4 v0 v1 v2 M0) K := by
    intro v0 v1 v2
    unfold f_X12_upSet_L4
    refine sX_bind ?_
    refine sX_loop (LS := fun a : (Int32 × Int32) => [some (.ref v0), some (.int a.1), some (.int a.2)]) (MM := fun a => M0) (fun K1 hb1 he1 => ?_) sFuel ((v1, v2))
    have xB26 : ∀ (v1 : Int32) (v2 : Int32), sX G l 2 yX12_upSet cX12_upSet 3 (some .int) M0 r M' 26 [some (.ref v0), some (.int v1), some (.int v2)] [] M0 (f_X12_upSet_B26 v0 v1 v2 M0) K1 := by
      intro v1 v2
      unfold f_X12_upSet_B26
      refine sX_iinc (i := 2) (n := 1) (v := v2 + (1 : Int32)) (ls2 := [some (.ref v0), some (.int v1), some (.int (v2 + (1 : Int32)))]) (by decide +kernel) rfl rfl (by decide) rfl ?_
      refine sX_goto (o := -25) (t := 4) (by decide +kernel) (by decide) ?_
      exact sX_back (a := (v1, ((v2 + (1 : Int32))))) hb1 rfl (sLe_s (sLe_s (sLe_s sLe_e)))
    have xK4 : ∀ (v1 : Int32) (v2 : Int32), sX G l 2 yX12_upSet cX12_upSet 3 (some .int) M0 r M' 4 [some (.ref v0), some (.int v1), some (.int v2)] [] M0 (f_X12_upSet_K4 v0 v1 v2 M0) K1 := by
      intro v1 v2
      unfold f_X12_upSet_K4
      refine sX_iload_n (i := 2) (by decide +kernel) rfl ?_
      refine sX_aload_n (i := 0) (by decide +kernel) rfl ?_
      refine sX_callVp (As := []) (by decide +kernel) lm_X12_460 mf_X12_gateMany mi_X12_gateMany mc_12 (m_X12_gateMany G l v0 M0) (fun _ h => sRc_some h) (by decide) rfl rfl (Nat.le_of_ble_eq_true rfl) (fun x1 => ?_)
      refine sX_icge (o := 23) (t := 32) (by decide +kernel) (by decide) (fun _ => ?_) (fun _ => ?_)
      · refine sX_iload_n (i := 1) (by decide +kernel) rfl ?_
        refine sX_exit he1 ?_
        exact sX_some (fun h _ => sW_iret (by decide +kernel) rfl (hr _ h).1.symm (hr _ h).2.symm)
      · refine sX_aload_n (i := 0) (by decide +kernel) rfl ?_
        refine sX_iload_n (i := 2) (by decide +kernel) rfl ?_
        refine sX_callVp (As := [.int v2]) (by decide +kernel) lm_X12_472 mf_X12_isUp mi_X12_isUp mc_12 (m_X12_isUp G l v0 v2 M0) (fun _ h => sRc_some h) (by decide) rfl rfl (Nat.le_of_ble_eq_true rfl) (fun x2 => ?_)
        refine sX_ifeq (o := 9) (t := 26) (by decide +kernel) (by decide) (fun _ => ?_) (fun _ => ?_)
        · exact sX.le (xB26 v1 v2) (sLe_s (sLe_s (sLe_s sLe_e)))
        · refine sX_iload_n (i := 1) (by decide +kernel) rfl ?_
          refine sX_iconst (n := 1) (v := (1 : Int32)) (by decide +kernel) (by decide) ?_
          refine sX_iload_n (i := 2) (by decide +kernel) rfl ?_
          refine sX_ishl (by decide +kernel) ?_
          refine sX_ior (by decide +kernel) ?_
          refine sX_istore_n (i := 1) (ls2 := [some (.ref v0), some (.int (v1 ||| ((1 : Int32) <<< (v2 &&& 31)))), some (.int v2)]) (by decide +kernel) (by decide) rfl ?_
          exact sX.le (xB26 ((v1 ||| ((1 : Int32) <<< (v2 &&& 31)))) v2) (sLe_s (sLe_s (sLe_s sLe_e)))
    exact fun a => xK4 a.1 a.2
  refine sX_rc ?_
  refine sX_iconst (n := 0) (v := (0 : Int32)) (by decide +kernel) (by decide) ?_
  refine sX_istore_n (i := 1) (ls2 := [some (.ref v0), some (.int (0 : Int32)), none]) (by decide +kernel) (by decide) rfl ?_
  refine sX_iconst (n := 0) (v := (0 : Int32)) (by decide +kernel) (by decide) ?_
  refine sX_istore_n (i := 2) (ls2 := [some (.ref v0), some (.int (0 : Int32)), some (.int (0 : Int32))]) (by decide +kernel) (by decide) rfl ?_
  exact sX.le (xL4 v0 ((0 : Int32)) ((0 : Int32))) (sLe_s (sLe_s (sLe_s sLe_e)))
def f_X12_qPuts (v0 : Nat) (v1 : Int64) (M0 : sMem) : Option sMem :=
  sRc 12 127 M0 v0 (
    (gR 12 127 121 M0 v0).bind fun x1 =>
    (gI 12 127 122 M0 v0).bind fun x2 =>
    (stJ M0 x1 x2 v1).bind fun M3 =>
    (gI 12 127 122 M3 v0).bind fun x4 =>
    (pI 12 127 122 M3 v0 ((x4 + (1 : Int32)))).bind fun M5 =>
    some M5)
set_option maxRecDepth 100000 in
set_option maxHeartbeats 4000000 in
theorem m_X12_qPuts (G : sG) (l : Launch) (v0 : Nat) (v1 : Int64) (M0 : sMem) : sCv G l 1 yX12_qPuts cX12_qPuts 3 none [.ref v0, .long v1] M0 (f_X12_qPuts v0 v1 M0) := by
  refine sC_v (ls := [some (.ref v0), some (.long v1), none]) (by decide +kernel) rfl (Nat.le_of_ble_eq_true rfl) (fun r M' K hr => ?_)
  unfold f_X12_qPuts
  refine sX_rc ?_
  refine sX_aload_n (i := 0) (by decide +kernel) rfl ?_
  refine sX_getR lf_X12_291 tk_12_121 (by decide +kernel) (fun x1 => ?_)
  refine sX_aload_n (i := 0) (by decide +kernel) rfl ?_
  refine sX_getI lf_X12_475 tk_12_122 (by decide +kernel) (fun x2 => ?_)
  refine sX_lload_n (i := 1) (by decide +kernel) rfl ?_
  refine sX_lastore (by decide +kernel) (by decide) (fun M3 => ?_)
  refine sX_aload_n (i := 0) (by decide +kernel) rfl ?_
  refine sX_dup (by decide +kernel) rfl ?_
  refine sX_getI lf_X12_475 tk_12_122 (by decide +kernel) (fun x4 => ?_)
  refine sX_iconst (n := 1) (v := (1 : Int32)) (by decide +kernel) (by decide) ?_
  refine sX_iadd (by decide +kernel) ?_
  refine sX_putI lf_X12_475 tp_12_122 (by decide +kernel) (by decide) (fun M5 => ?_)
  exact sX_some (fun h _ => sW_vret (by decide +kernel) rfl (hr _ h).1.symm (hr _ h).2.symm)
def f_X12_qPartOf_B132 (v0 : Nat) (v2 : Int32) (M0 : sMem) : Option Int64 :=
  (gI 12 127 58 M0 v0).bind fun x1 =>
  if x1 = (3 : Int32) then
    (gR 12 127 66 M0 v0).bind fun x2 =>
    (ldI 14 M0 x2 v2).bind fun x3 =>
    some x3.toInt64
  else
    (gJ 12 127 65 M0 v0).bind fun x4 =>
    some x4
def f_X12_qPartOf (v0 : Nat) (v1 : Int32) (v2 : Int32) (M0 : sMem) : Option Int64 :=
  sRc 12 127 M0 v0 (
    if v1 = (0 : Int32) then
      (gI 12 127 61 M0 v0).bind fun x21 =>
      some x21.toInt64
    else
    if v1 = (1 : Int32) then
      (gI 12 127 62 M0 v0).bind fun x20 =>
      some x20.toInt64
    else
    if v1 = (2 : Int32) then
      (gR 12 127 50 M0 v0).bind fun x17 =>
      (gI 12 127 63 M0 v0).bind fun x18 =>
      (ldI 14 M0 x17 (((15 : Int32) + ((3 : Int32) * x18)))).bind fun x19 =>
      some x19.toInt64
    else
    if v1 = (3 : Int32) then
      (gR 12 127 50 M0 v0).bind fun x14 =>
      (gI 12 127 63 M0 v0).bind fun x15 =>
      (ldI 14 M0 x14 (((16 : Int32) + ((3 : Int32) * x15)))).bind fun x16 =>
      some x16.toInt64
    else
    if v1 = (4 : Int32) then
      (gI 12 127 64 M0 v0).bind fun x13 =>
      some x13.toInt64
    else
    if v1 = (5 : Int32) then
      (gI 12 127 63 M0 v0).bind fun x11 =>
      (f_X12_lateOf v0 x11 M0).bind fun x12 =>
      some x12.toInt64
    else
    if v1 = (6 : Int32) then
      (gR 12 127 59 M0 v0).bind fun x9 =>
      (ldI 14 M0 x9 ((0 : Int32))).bind fun x10 =>
      some x10.toInt64
    else
    if v1 = (7 : Int32) then
      f_X12_qPartOf_B132 v0 v2 M0
    else
    if v1 = (8 : Int32) then
      (f_X12_knowsOf v0 v2 M0).bind fun x8 =>
      some x8.toInt64
    else
    if v1 = (9 : Int32) then
      some v2.toInt64
    else
    if v1 = (10 : Int32) then
      (f_X12_placeOf v0 v2 M0).bind fun x7 =>
      some x7.toInt64
    else
    if v1 = (11 : Int32) then
      (f_X12_goalOf v0 v2 M0).bind fun x6 =>
      some x6.toInt64
    else
    (f_X12_minuteOf v0 v2 M0).bind fun x5 =>
    some x5.toInt64)
set_option maxRecDepth 100000 in
set_option maxHeartbeats 4000000 in
theorem m_X12_qPartOf (G : sG) (l : Launch) (v0 : Nat) (v1 : Int32) (v2 : Int32) (M0 : sMem) : sCp G l 2 yX12_qPartOf cX12_qPartOf 3 (some .long) [.ref v0, .int v1, .int v2] M0 rvJ (f_X12_qPartOf v0 v1 v2 M0) := by
  refine sC_p (ls := [some (.ref v0), some (.int v1), some (.int v2)]) (by decide +kernel) rfl (Nat.le_of_ble_eq_true rfl) (fun r M' K hr => ?_)
  unfold f_X12_qPartOf
  have xB132 : ∀ (v0 : Nat) (v2 : Int32), sX G l 2 yX12_qPartOf cX12_qPartOf 3 (some .long) M0 r M' 132 [some (.ref v0), none, some (.int v2)] [] M0 (f_X12_qPartOf_B132 v0 v2 M0) K := by
    intro v0 v2
    unfold f_X12_qPartOf_B132
    refine sX_aload_n (i := 0) (by decide +kernel) rfl ?_
    refine sX_getI lf_X12_358 tk_12_58 (by decide +kernel) (fun x1 => ?_)
    refine sX_iconst (n := 3) (v := (3 : Int32)) (by decide +kernel) (by decide) ?_
    refine sX_icne (o := 13) (t := 150) (by decide +kernel) (by decide) (fun _ => ?_) (fun _ => ?_)
    · refine sX_aload_n (i := 0) (by decide +kernel) rfl ?_
      refine sX_getR lf_X12_157 tk_12_66 (by decide +kernel) (fun x2 => ?_)
      refine sX_iload_n (i := 2) (by decide +kernel) rfl ?_
      refine sX_iaload (by decide +kernel) (fun x3 => ?_)
      refine sX_i2l (by decide +kernel) ?_
      refine sX_goto (o := 7) (t := 154) (by decide +kernel) (by decide) ?_
      exact sX_some (fun h _ => sW_lret (by decide +kernel) rfl (hr _ h).1.symm (hr _ h).2.symm)
    · refine sX_aload_n (i := 0) (by decide +kernel) rfl ?_
      refine sX_getJ lf_X12_554 tk_12_65 (by decide +kernel) (fun x4 => ?_)
      exact sX_some (fun h _ => sW_lret (by decide +kernel) rfl (hr _ h).1.symm (hr _ h).2.symm)
  refine sX_rc ?_
  refine sX_iload_n (i := 1) (by decide +kernel) rfl ?_
  refine sX_if (fun hx => ?_) (fun n0 => ?_)
  · refine sX_tin (n := (0 : Int32)) (t := 64) (off := 63) (dflt := 178) (lo := 0) (hi := 11) (offs := #[63, 69, 75, 91, 107, 113, 123, 131, 154, 161, 164, 171]) (len := 63) (by decide +kernel) hx (by decide) (by decide) (by decide) (by decide) ?_
    refine sX_aload_n (i := 0) (by decide +kernel) rfl ?_
    refine sX_getI lf_X12_497 tk_12_61 (by decide +kernel) (fun x21 => ?_)
    refine sX_i2l (by decide +kernel) ?_
    exact sX_some (fun h _ => sW_lret (by decide +kernel) rfl (hr _ h).1.symm (hr _ h).2.symm)
  · refine sX_if (fun hx => ?_) (fun n1 => ?_)
    · refine sX_tin (n := (1 : Int32)) (t := 70) (off := 69) (dflt := 178) (lo := 0) (hi := 11) (offs := #[63, 69, 75, 91, 107, 113, 123, 131, 154, 161, 164, 171]) (len := 63) (by decide +kernel) hx (by decide) (by decide) (by decide) (by decide) ?_
      refine sX_aload_n (i := 0) (by decide +kernel) rfl ?_
      refine sX_getI lf_X12_500 tk_12_62 (by decide +kernel) (fun x20 => ?_)
      refine sX_i2l (by decide +kernel) ?_
      exact sX_some (fun h _ => sW_lret (by decide +kernel) rfl (hr _ h).1.symm (hr _ h).2.symm)
    · refine sX_if (fun hx => ?_) (fun n2 => ?_)
      · refine sX_tin (n := (2 : Int32)) (t := 76) (off := 75) (dflt := 178) (lo := 0) (hi := 11) (offs := #[63, 69, 75, 91, 107, 113, 123, 131, 154, 161, 164, 171]) (len := 63) (by decide +kernel) hx (by decide) (by decide) (by decide) (by decide) ?_
        refine sX_aload_n (i := 0) (by decide +kernel) rfl ?_
        refine sX_getR lf_X12_136 tk_12_50 (by decide +kernel) (fun x17 => ?_)
        refine sX_bipush (n := 15) (v := (15 : Int32)) (by decide +kernel) (by decide) ?_
        refine sX_iconst (n := 3) (v := (3 : Int32)) (by decide +kernel) (by decide) ?_
        refine sX_aload_n (i := 0) (by decide +kernel) rfl ?_
        refine sX_getI lf_X12_506 tk_12_63 (by decide +kernel) (fun x18 => ?_)
        refine sX_imul (by decide +kernel) ?_
        refine sX_iadd (by decide +kernel) ?_
        refine sX_iaload (by decide +kernel) (fun x19 => ?_)
        refine sX_i2l (by decide +kernel) ?_
        exact sX_some (fun h _ => sW_lret (by decide +kernel) rfl (hr _ h).1.symm (hr _ h).2.symm)
      · refine sX_if (fun hx => ?_) (fun n3 => ?_)
        · refine sX_tin (n := (3 : Int32)) (t := 92) (off := 91) (dflt := 178) (lo := 0) (hi := 11) (offs := #[63, 69, 75, 91, 107, 113, 123, 131, 154, 161, 164, 171]) (len := 63) (by decide +kernel) hx (by decide) (by decide) (by decide) (by decide) ?_
          refine sX_aload_n (i := 0) (by decide +kernel) rfl ?_
          refine sX_getR lf_X12_136 tk_12_50 (by decide +kernel) (fun x14 => ?_)
          refine sX_bipush (n := 16) (v := (16 : Int32)) (by decide +kernel) (by decide) ?_
          refine sX_iconst (n := 3) (v := (3 : Int32)) (by decide +kernel) (by decide) ?_
          refine sX_aload_n (i := 0) (by decide +kernel) rfl ?_
          refine sX_getI lf_X12_506 tk_12_63 (by decide +kernel) (fun x15 => ?_)
          refine sX_imul (by decide +kernel) ?_
          refine sX_iadd (by decide +kernel) ?_
          refine sX_iaload (by decide +kernel) (fun x16 => ?_)
          refine sX_i2l (by decide +kernel) ?_
          exact sX_some (fun h _ => sW_lret (by decide +kernel) rfl (hr _ h).1.symm (hr _ h).2.symm)
        · refine sX_if (fun hx => ?_) (fun n4 => ?_)
          · refine sX_tin (n := (4 : Int32)) (t := 108) (off := 107) (dflt := 178) (lo := 0) (hi := 11) (offs := #[63, 69, 75, 91, 107, 113, 123, 131, 154, 161, 164, 171]) (len := 63) (by decide +kernel) hx (by decide) (by decide) (by decide) (by decide) ?_
            refine sX_aload_n (i := 0) (by decide +kernel) rfl ?_
            refine sX_getI lf_X12_509 tk_12_64 (by decide +kernel) (fun x13 => ?_)
            refine sX_i2l (by decide +kernel) ?_
            exact sX_some (fun h _ => sW_lret (by decide +kernel) rfl (hr _ h).1.symm (hr _ h).2.symm)
          · refine sX_if (fun hx => ?_) (fun n5 => ?_)
            · refine sX_tin (n := (5 : Int32)) (t := 114) (off := 113) (dflt := 178) (lo := 0) (hi := 11) (offs := #[63, 69, 75, 91, 107, 113, 123, 131, 154, 161, 164, 171]) (len := 63) (by decide +kernel) hx (by decide) (by decide) (by decide) (by decide) ?_
              refine sX_aload_n (i := 0) (by decide +kernel) rfl ?_
              refine sX_aload_n (i := 0) (by decide +kernel) rfl ?_
              refine sX_getI lf_X12_506 tk_12_63 (by decide +kernel) (fun x11 => ?_)
              refine sX_callVp (As := [.int x11]) (by decide +kernel) lm_X12_515 mf_X12_lateOf mi_X12_lateOf mc_12 (m_X12_lateOf G l v0 x11 M0) (fun _ h => sRc_some h) (by decide) rfl rfl (Nat.le_of_ble_eq_true rfl) (fun x12 => ?_)
              refine sX_i2l (by decide +kernel) ?_
              exact sX_some (fun h _ => sW_lret (by decide +kernel) rfl (hr _ h).1.symm (hr _ h).2.symm)
            · refine sX_if (fun hx => ?_) (fun n6 => ?_)
              · refine sX_tin (n := (6 : Int32)) (t := 124) (off := 123) (dflt := 178) (lo := 0) (hi := 11) (offs := #[63, 69, 75, 91, 107, 113, 123, 131, 154, 161, 164, 171]) (len := 63) (by decide +kernel) hx (by decide) (by decide) (by decide) (by decide) ?_
                refine sX_aload_n (i := 0) (by decide +kernel) rfl ?_
                refine sX_getR lf_X12_151 tk_12_59 (by decide +kernel) (fun x9 => ?_)
                refine sX_iconst (n := 0) (v := (0 : Int32)) (by decide +kernel) (by decide) ?_
                refine sX_iaload (by decide +kernel) (fun x10 => ?_)
                refine sX_i2l (by decide +kernel) ?_
                exact sX_some (fun h _ => sW_lret (by decide +kernel) rfl (hr _ h).1.symm (hr _ h).2.symm)
              · refine sX_if (fun hx => ?_) (fun n7 => ?_)
                · refine sX_tin (n := (7 : Int32)) (t := 132) (off := 131) (dflt := 178) (lo := 0) (hi := 11) (offs := #[63, 69, 75, 91, 107, 113, 123, 131, 154, 161, 164, 171]) (len := 63) (by decide +kernel) hx (by decide) (by decide) (by decide) (by decide) ?_
                  exact sX.le (xB132 v0 v2) (sLe_s (sLe_n (sLe_s sLe_e)))
                · refine sX_if (fun hx => ?_) (fun n8 => ?_)
                  · refine sX_tin (n := (8 : Int32)) (t := 155) (off := 154) (dflt := 178) (lo := 0) (hi := 11) (offs := #[63, 69, 75, 91, 107, 113, 123, 131, 154, 161, 164, 171]) (len := 63) (by decide +kernel) hx (by decide) (by decide) (by decide) (by decide) ?_
                    refine sX_aload_n (i := 0) (by decide +kernel) rfl ?_
                    refine sX_iload_n (i := 2) (by decide +kernel) rfl ?_
                    refine sX_callVp (As := [.int v2]) (by decide +kernel) lm_X12_557 mf_X12_knowsOf mi_X12_knowsOf mc_12 (m_X12_knowsOf G l v0 v2 M0) (fun _ h => sRc_some h) (by decide) rfl rfl (Nat.le_of_ble_eq_true rfl) (fun x8 => ?_)
                    refine sX_i2l (by decide +kernel) ?_
                    exact sX_some (fun h _ => sW_lret (by decide +kernel) rfl (hr _ h).1.symm (hr _ h).2.symm)
                  · refine sX_if (fun hx => ?_) (fun n9 => ?_)
                    · refine sX_tin (n := (9 : Int32)) (t := 162) (off := 161) (dflt := 178) (lo := 0) (hi := 11) (offs := #[63, 69, 75, 91, 107, 113, 123, 131, 154, 161, 164, 171]) (len := 63) (by decide +kernel) hx (by decide) (by decide) (by decide) (by decide) ?_
                      refine sX_iload_n (i := 2) (by decide +kernel) rfl ?_
                      refine sX_i2l (by decide +kernel) ?_
                      exact sX_some (fun h _ => sW_lret (by decide +kernel) rfl (hr _ h).1.symm (hr _ h).2.symm)
                    · refine sX_if (fun hx => ?_) (fun n10 => ?_)
                      · refine sX_tin (n := (10 : Int32)) (t := 165) (off := 164) (dflt := 178) (lo := 0) (hi := 11) (offs := #[63, 69, 75, 91, 107, 113, 123, 131, 154, 161, 164, 171]) (len := 63) (by decide +kernel) hx (by decide) (by decide) (by decide) (by decide) ?_
                        refine sX_aload_n (i := 0) (by decide +kernel) rfl ?_
                        refine sX_iload_n (i := 2) (by decide +kernel) rfl ?_
                        refine sX_callVp (As := [.int v2]) (by decide +kernel) lm_X12_535 mf_X12_placeOf mi_X12_placeOf mc_12 (m_X12_placeOf G l v0 v2 M0) (fun _ h => sRc_some h) (by decide) rfl rfl (Nat.le_of_ble_eq_true rfl) (fun x7 => ?_)
                        refine sX_i2l (by decide +kernel) ?_
                        exact sX_some (fun h _ => sW_lret (by decide +kernel) rfl (hr _ h).1.symm (hr _ h).2.symm)
                      · refine sX_if (fun hx => ?_) (fun n11 => ?_)
                        · refine sX_tin (n := (11 : Int32)) (t := 172) (off := 171) (dflt := 178) (lo := 0) (hi := 11) (offs := #[63, 69, 75, 91, 107, 113, 123, 131, 154, 161, 164, 171]) (len := 63) (by decide +kernel) hx (by decide) (by decide) (by decide) (by decide) ?_
                          refine sX_aload_n (i := 0) (by decide +kernel) rfl ?_
                          refine sX_iload_n (i := 2) (by decide +kernel) rfl ?_
                          refine sX_callVp (As := [.int v2]) (by decide +kernel) lm_X12_538 mf_X12_goalOf mi_X12_goalOf mc_12 (m_X12_goalOf G l v0 v2 M0) (fun _ h => sRc_some h) (by decide) rfl rfl (Nat.le_of_ble_eq_true rfl) (fun x6 => ?_)
                          refine sX_i2l (by decide +kernel) ?_
                          exact sX_some (fun h _ => sW_lret (by decide +kernel) rfl (hr _ h).1.symm (hr _ h).2.symm)
                        · refine sX_tout (t := 179) (dflt := 178) (lo := 0) (hi := 11) (offs := #[63, 69, 75, 91, 107, 113, 123, 131, 154, 161, 164, 171]) (len := 63) (by decide +kernel) (by have e0 := sNe n0 (z := 0) (by decide); have e1 := sNe n1 (z := 1) (by decide); have e2 := sNe n2 (z := 2) (by decide); have e3 := sNe n3 (z := 3) (by decide); have e4 := sNe n4 (z := 4) (by decide); have e5 := sNe n5 (z := 5) (by decide); have e6 := sNe n6 (z := 6) (by decide); have e7 := sNe n7 (z := 7) (by decide); have e8 := sNe n8 (z := 8) (by decide); have e9 := sNe n9 (z := 9) (by decide); have e10 := sNe n10 (z := 10) (by decide); have e11 := sNe n11 (z := 11) (by decide); omega) (by decide) ?_
                          refine sX_aload_n (i := 0) (by decide +kernel) rfl ?_
                          refine sX_iload_n (i := 2) (by decide +kernel) rfl ?_
                          refine sX_callVp (As := [.int v2]) (by decide +kernel) lm_X12_541 mf_X12_minuteOf mi_X12_minuteOf mc_12 (m_X12_minuteOf G l v0 v2 M0) (fun _ h => sRc_some h) (by decide) rfl rfl (Nat.le_of_ble_eq_true rfl) (fun x5 => ?_)
                          refine sX_i2l (by decide +kernel) ?_
                          exact sX_some (fun h _ => sW_lret (by decide +kernel) rfl (hr _ h).1.symm (hr _ h).2.symm)
def f_X12_qClip (v0 : Int64) (M0 : sMem) : Option Int64 :=
  if v0 ≤ (1000000 : Int64) then
    if (-1000000 : Int64) ≤ v0 then
      some v0
    else
      some ((-1000000 : Int64))
  else
    some ((1000000 : Int64))
set_option maxRecDepth 100000 in
set_option maxHeartbeats 4000000 in
theorem m_X12_qClip (G : sG) (l : Launch) (v0 : Int64) (M0 : sMem) : sCp G l 1 yX12_qClip cX12_qClip 2 (some .long) [.long v0] M0 rvJ (f_X12_qClip v0 M0) := by
  refine sC_p (ls := [some (.long v0), none]) (by decide +kernel) rfl (Nat.le_of_ble_eq_true rfl) (fun r M' K hr => ?_)
  unfold f_X12_qClip
  refine sX_lload_n (i := 0) (by decide +kernel) rfl ?_
  refine sX_ldc2 (v := (1000000 : Int64)) (by decide +kernel) kl_X12_729 ?_
  refine sX_lcle (o := 9) (t := 14) (by decide +kernel) (by decide +kernel) (by decide) (fun _ => ?_) (fun _ => ?_)
  · refine sX_lload_n (i := 0) (by decide +kernel) rfl ?_
    refine sX_ldc2 (v := (-1000000 : Int64)) (by decide +kernel) kl_X12_731 ?_
    refine sX_lcge (o := 9) (t := 28) (by decide +kernel) (by decide +kernel) (by decide) (fun _ => ?_) (fun _ => ?_)
    · refine sX_lload_n (i := 0) (by decide +kernel) rfl ?_
      exact sX_some (fun h _ => sW_lret (by decide +kernel) rfl (hr _ h).1.symm (hr _ h).2.symm)
    · refine sX_ldc2 (v := (-1000000 : Int64)) (by decide +kernel) kl_X12_731 ?_
      refine sX_goto (o := 4) (t := 29) (by decide +kernel) (by decide) ?_
      exact sX_some (fun h _ => sW_lret (by decide +kernel) rfl (hr _ h).1.symm (hr _ h).2.symm)
  · refine sX_ldc2 (v := (1000000 : Int64)) (by decide +kernel) kl_X12_729 ?_
    refine sX_goto (o := 18) (t := 29) (by decide +kernel) (by decide) ?_
    exact sX_some (fun h _ => sW_lret (by decide +kernel) rfl (hr _ h).1.symm (hr _ h).2.symm)
def f_X12_qFloor_B43 (v4 : Int64) (s0 : Int32) (s1 : Int32) (M0 : sMem) : Option Int64 :=
  if s0 = s1 then
    some v4
  else
    some ((v4 - (1 : Int64)))
def f_X12_qFloor_B32 (v2 : Int64) (v4 : Int64) (s0 : Int32) (M0 : sMem) : Option Int64 :=
  if (0 : Int64) ≤ v2 then
    f_X12_qFloor_B43 v4 s0 ((0 : Int32)) M0
  else
    f_X12_qFloor_B43 v4 s0 ((1 : Int32)) M0
def f_X12_qFloor (v0 : Int64) (v2 : Int64) (M0 : sMem) : Option Int64 :=
  if v2 = (0 : Int64) then
    some ((0 : Int64))
  else
    if v2 = 0 then none else
    if v2 = 0 then none else
    if (v0 - v0 / v2 * v2) = (0 : Int64) then
      some ((v0 / v2))
    else
      if (0 : Int64) ≤ v0 then
        f_X12_qFloor_B32 v2 ((v0 / v2)) ((0 : Int32)) M0
      else
        f_X12_qFloor_B32 v2 ((v0 / v2)) ((1 : Int32)) M0
set_option maxRecDepth 100000 in
set_option maxHeartbeats 4000000 in
theorem m_X12_qFloor (G : sG) (l : Launch) (v0 : Int64) (v2 : Int64) (M0 : sMem) : sCp G l 1 yX12_qFloor cX12_qFloor 6 (some .long) [.long v0, .long v2] M0 rvJ (f_X12_qFloor v0 v2 M0) := by
  refine sC_p (ls := [some (.long v0), none, some (.long v2), none, none, none]) (by decide +kernel) rfl (Nat.le_of_ble_eq_true rfl) (fun r M' K hr => ?_)
  unfold f_X12_qFloor
  have xB43 : ∀ (v4 : Int64) (s0 : Int32) (s1 : Int32), sX G l 1 yX12_qFloor cX12_qFloor 6 (some .long) M0 r M' 43 [none, none, none, none, some (.long v4), none] [.int s1, .int s0] M0 (f_X12_qFloor_B43 v4 s0 s1 M0) K := by
    intro v4 s0 s1
    unfold f_X12_qFloor_B43
    refine sX_iceq (o := 10) (t := 53) (by decide +kernel) (by decide) (fun _ => ?_) (fun _ => ?_)
    · refine sX_lload (i := 4) (by decide +kernel) rfl ?_
      exact sX_some (fun h _ => sW_lret (by decide +kernel) rfl (hr _ h).1.symm (hr _ h).2.symm)
    · refine sX_lload (i := 4) (by decide +kernel) rfl ?_
      refine sX_lconst (n := 1) (v := (1 : Int64)) (by decide +kernel) (by decide) ?_
      refine sX_lsub (by decide +kernel) ?_
      refine sX_goto (o := 5) (t := 55) (by decide +kernel) (by decide) ?_
      exact sX_some (fun h _ => sW_lret (by decide +kernel) rfl (hr _ h).1.symm (hr _ h).2.symm)
  have xB32 : ∀ (v2 : Int64) (v4 : Int64) (s0 : Int32), sX G l 1 yX12_qFloor cX12_qFloor 6 (some .long) M0 r M' 32 [none, none, some (.long v2), none, some (.long v4), none] [.int s0] M0 (f_X12_qFloor_B32 v2 v4 s0 M0) K := by
    intro v2 v4 s0
    unfold f_X12_qFloor_B32
    refine sX_lload_n (i := 2) (by decide +kernel) rfl ?_
    refine sX_lconst (n := 0) (v := (0 : Int64)) (by decide +kernel) (by decide) ?_
    refine sX_lcge (o := 7) (t := 42) (by decide +kernel) (by decide +kernel) (by decide) (fun _ => ?_) (fun _ => ?_)
    · refine sX_iconst (n := 0) (v := (0 : Int32)) (by decide +kernel) (by decide) ?_
      exact sX.le (xB43 v4 s0 ((0 : Int32))) (sLe_n (sLe_n (sLe_n (sLe_n (sLe_s (sLe_n sLe_e))))))
    · refine sX_iconst (n := 1) (v := (1 : Int32)) (by decide +kernel) (by decide) ?_
      refine sX_goto (o := 4) (t := 43) (by decide +kernel) (by decide) ?_
      exact sX.le (xB43 v4 s0 ((1 : Int32))) (sLe_n (sLe_n (sLe_n (sLe_n (sLe_s (sLe_n sLe_e))))))
  refine sX_lload_n (i := 2) (by decide +kernel) rfl ?_
  refine sX_lconst (n := 0) (v := (0 : Int64)) (by decide +kernel) (by decide) ?_
  refine sX_lcne (o := 5) (t := 8) (by decide +kernel) (by decide +kernel) (by decide) (fun _ => ?_) (fun _ => ?_)
  · refine sX_lconst (n := 0) (v := (0 : Int64)) (by decide +kernel) (by decide) ?_
    exact sX_some (fun h _ => sW_lret (by decide +kernel) rfl (hr _ h).1.symm (hr _ h).2.symm)
  · refine sX_lload_n (i := 0) (by decide +kernel) rfl ?_
    refine sX_lload_n (i := 2) (by decide +kernel) rfl ?_
    refine sX_if (fun _ => sX_none) (fun hz => ?_)
    refine sX_ldiv (by decide +kernel) hz ?_
    refine sX_lstore (i := 4) (ls2 := [some (.long v0), none, some (.long v2), none, some (.long (v0 / v2)), none]) (by decide +kernel) (by decide) rfl ?_
    refine sX_lload_n (i := 0) (by decide +kernel) rfl ?_
    refine sX_lload_n (i := 2) (by decide +kernel) rfl ?_
    refine sX_if (fun _ => sX_none) (fun hz => ?_)
    refine sX_lrem (by decide +kernel) hz ?_
    refine sX_lconst (n := 0) (v := (0 : Int64)) (by decide +kernel) (by decide) ?_
    refine sX_lceq (o := 35) (t := 53) (by decide +kernel) (by decide +kernel) (by decide) (fun _ => ?_) (fun _ => ?_)
    · refine sX_lload (i := 4) (by decide +kernel) rfl ?_
      exact sX_some (fun h _ => sW_lret (by decide +kernel) rfl (hr _ h).1.symm (hr _ h).2.symm)
    · refine sX_lload_n (i := 0) (by decide +kernel) rfl ?_
      refine sX_lconst (n := 0) (v := (0 : Int64)) (by decide +kernel) (by decide) ?_
      refine sX_lcge (o := 7) (t := 31) (by decide +kernel) (by decide +kernel) (by decide) (fun _ => ?_) (fun _ => ?_)
      · refine sX_iconst (n := 0) (v := (0 : Int32)) (by decide +kernel) (by decide) ?_
        exact sX.le (xB32 v2 ((v0 / v2)) ((0 : Int32))) (sLe_n (sLe_n (sLe_s (sLe_n (sLe_s (sLe_n sLe_e))))))
      · refine sX_iconst (n := 1) (v := (1 : Int32)) (by decide +kernel) (by decide) ?_
        refine sX_goto (o := 4) (t := 32) (by decide +kernel) (by decide) ?_
        exact sX.le (xB32 v2 ((v0 / v2)) ((1 : Int32))) (sLe_n (sLe_n (sLe_s (sLe_n (sLe_s (sLe_n sLe_e))))))
def f_X12_qJoins_B134 (v0 : Nat) (v2 : Int64) (v4 : Int64) (M : sMem) : Option sMem :=
  (f_X12_qFloor v4 v2 M).bind fun x1 =>
  (f_X12_qPuts v0 x1 M).bind fun M2 =>
  some M2
def f_X12_qJoins_B161 (s0 : Nat) (s1 : Int64) (M : sMem) : Option sMem :=
  (f_X12_qPuts s0 s1 M).bind fun M3 =>
  some M3
def f_X12_qJoins_B181 (s0 : Nat) (s1 : Int64) (M : sMem) : Option sMem :=
  (f_X12_qPuts s0 s1 M).bind fun M4 =>
  some M4
def f_X12_qJoins_B200 (s0 : Nat) (s1 : Int64) (M : sMem) : Option sMem :=
  (f_X12_qPuts s0 s1 M).bind fun M5 =>
  some M5
def f_X12_qJoins_B219 (s0 : Nat) (s1 : Int64) (M : sMem) : Option sMem :=
  (f_X12_qPuts s0 s1 M).bind fun M6 =>
  some M6
def f_X12_qJoins_B238 (s0 : Nat) (s1 : Int64) (M : sMem) : Option sMem :=
  (f_X12_qPuts s0 s1 M).bind fun M7 =>
  some M7
def f_X12_qJoins_B270 (s0 : Nat) (s1 : Int64) (M : sMem) : Option sMem :=
  (f_X12_qPuts s0 s1 M).bind fun M8 =>
  some M8
def f_X12_qJoins (v0 : Nat) (v1 : Int32) (M0 : sMem) : Option sMem :=
  sRc 12 127 M0 v0 (
    (gR 12 127 121 M0 v0).bind fun x9 =>
    (gI 12 127 122 M0 v0).bind fun x10 =>
    (ldJ M0 x9 ((x10 - (1 : Int32)))).bind fun x11 =>
    (gR 12 127 121 M0 v0).bind fun x12 =>
    (gI 12 127 122 M0 v0).bind fun x13 =>
    (ldJ M0 x12 ((x13 - (2 : Int32)))).bind fun x14 =>
    (gI 12 127 122 M0 v0).bind fun x15 =>
    (pI 12 127 122 M0 v0 ((x15 - (2 : Int32)))).bind fun M16 =>
    if v1 = (1 : Int32) then
      (f_X12_qClip ((x14 + x11)) M16).bind fun x22 =>
      (f_X12_qPuts v0 x22 M16).bind fun M23 =>
      some M23
    else
    if v1 = (2 : Int32) then
      (f_X12_qClip ((x14 - x11)) M16).bind fun x20 =>
      (f_X12_qPuts v0 x20 M16).bind fun M21 =>
      some M21
    else
    if v1 = (3 : Int32) then
      (f_X12_qClip ((x14 * x11)) M16).bind fun x18 =>
      (f_X12_qPuts v0 x18 M16).bind fun M19 =>
      some M19
    else
    if v1 = (4 : Int32) then
      f_X12_qJoins_B134 v0 x11 x14 M16
    else
    if v1 = (5 : Int32) then
      if x11 ≤ x14 then
        f_X12_qJoins_B161 v0 x11 M16
      else
        f_X12_qJoins_B161 v0 x14 M16
    else
    if v1 = (6 : Int32) then
      if x14 ≤ x11 then
        f_X12_qJoins_B181 v0 x11 M16
      else
        f_X12_qJoins_B181 v0 x14 M16
    else
    if v1 = (7 : Int32) then
      if x11 ≤ x14 then
        f_X12_qJoins_B200 v0 ((0 : Int64)) M16
      else
        f_X12_qJoins_B200 v0 ((1 : Int64)) M16
    else
    if v1 = (8 : Int32) then
      if x14 ≤ x11 then
        f_X12_qJoins_B219 v0 ((0 : Int64)) M16
      else
        f_X12_qJoins_B219 v0 ((1 : Int64)) M16
    else
    if v1 = (9 : Int32) then
      if x14 = x11 then
        f_X12_qJoins_B238 v0 ((1 : Int64)) M16
      else
        f_X12_qJoins_B238 v0 ((0 : Int64)) M16
    else
    if v1 = (10 : Int32) then
      (f_X12_qPuts v0 ((x14 * x11)) M16).bind fun M17 =>
      some M17
    else
    if (x14 + x11) ≤ (0 : Int64) then
      f_X12_qJoins_B270 v0 ((0 : Int64)) M16
    else
      f_X12_qJoins_B270 v0 ((1 : Int64)) M16)
set_option maxRecDepth 100000 in
set_option maxHeartbeats 4000000 in
theorem m_X12_qJoins (G : sG) (l : Launch) (v0 : Nat) (v1 : Int32) (M0 : sMem) : sCv G l 2 yX12_qJoins cX12_qJoins 6 none [.ref v0, .int v1] M0 (f_X12_qJoins v0 v1 M0) := by
  refine sC_v (ls := [some (.ref v0), some (.int v1), none, none, none, none]) (by decide +kernel) rfl (Nat.le_of_ble_eq_true rfl) (fun r M' K hr => ?_)
  unfold f_X12_qJoins
  have xB134 : ∀ (v0 : Nat) (v2 : Int64) (v4 : Int64) (M : sMem), sX G l 2 yX12_qJoins cX12_qJoins 6 none M0 r M' 134 [some (.ref v0), none, some (.long v2), none, some (.long v4), none] [] M (f_X12_qJoins_B134 v0 v2 v4 M) K := by
    intro v0 v2 v4 M
    unfold f_X12_qJoins_B134
    refine sX_aload_n (i := 0) (by decide +kernel) rfl ?_
    refine sX_lload (i := 4) (by decide +kernel) rfl ?_
    refine sX_lload_n (i := 2) (by decide +kernel) rfl ?_
    refine sX_callSp (As := [.long v4, .long v2]) (by decide +kernel) lm_X12_737 mf_X12_qFloor ms_X12_qFloor (m_X12_qFloor G l v4 v2 M) (by decide) rfl rfl (Nat.le_of_ble_eq_true rfl) (fun x1 => ?_)
    refine sX_callVv (As := [.long x1]) (by decide +kernel) lm_X12_478 mf_X12_qPuts mi_X12_qPuts mc_12 (m_X12_qPuts G l v0 x1 M) (fun _ h => sRc_some h) (by decide) rfl rfl (Nat.le_of_ble_eq_true rfl) (fun M2 => ?_)
    refine sX_goto (o := 129) (t := 273) (by decide +kernel) (by decide) ?_
    exact sX_some (fun h _ => sW_vret (by decide +kernel) rfl (hr _ h).1.symm (hr _ h).2.symm)
  have xB161 : ∀ (s0 : Nat) (s1 : Int64) (M : sMem), sX G l 2 yX12_qJoins cX12_qJoins 6 none M0 r M' 161 [none, none, none, none, none, none] [.long s1, .ref s0] M (f_X12_qJoins_B161 s0 s1 M) K := by
    intro s0 s1 M
    unfold f_X12_qJoins_B161
    refine sX_callVv (As := [.long s1]) (by decide +kernel) lm_X12_478 mf_X12_qPuts mi_X12_qPuts mc_12 (m_X12_qPuts G l s0 s1 M) (fun _ h => sRc_some h) (by decide) rfl rfl (Nat.le_of_ble_eq_true rfl) (fun M3 => ?_)
    refine sX_goto (o := 109) (t := 273) (by decide +kernel) (by decide) ?_
    exact sX_some (fun h _ => sW_vret (by decide +kernel) rfl (hr _ h).1.symm (hr _ h).2.symm)
  have xB181 : ∀ (s0 : Nat) (s1 : Int64) (M : sMem), sX G l 2 yX12_qJoins cX12_qJoins 6 none M0 r M' 181 [none, none, none, none, none, none] [.long s1, .ref s0] M (f_X12_qJoins_B181 s0 s1 M) K := by
    intro s0 s1 M
    unfold f_X12_qJoins_B181
    refine sX_callVv (As := [.long s1]) (by decide +kernel) lm_X12_478 mf_X12_qPuts mi_X12_qPuts mc_12 (m_X12_qPuts G l s0 s1 M) (fun _ h => sRc_some h) (by decide) rfl rfl (Nat.le_of_ble_eq_true rfl) (fun M4 => ?_)
    refine sX_goto (o := 89) (t := 273) (by decide +kernel) (by decide) ?_
    exact sX_some (fun h _ => sW_vret (by decide +kernel) rfl (hr _ h).1.symm (hr _ h).2.symm)
  have xB200 : ∀ (s0 : Nat) (s1 : Int64) (M : sMem), sX G l 2 yX12_qJoins cX12_qJoins 6 none M0 r M' 200 [none, none, none, none, none, none] [.long s1, .ref s0] M (f_X12_qJoins_B200 s0 s1 M) K := by
    intro s0 s1 M
    unfold f_X12_qJoins_B200
    refine sX_callVv (As := [.long s1]) (by decide +kernel) lm_X12_478 mf_X12_qPuts mi_X12_qPuts mc_12 (m_X12_qPuts G l s0 s1 M) (fun _ h => sRc_some h) (by decide) rfl rfl (Nat.le_of_ble_eq_true rfl) (fun M5 => ?_)
    refine sX_goto (o := 70) (t := 273) (by decide +kernel) (by decide) ?_
    exact sX_some (fun h _ => sW_vret (by decide +kernel) rfl (hr _ h).1.symm (hr _ h).2.symm)
  have xB219 : ∀ (s0 : Nat) (s1 : Int64) (M : sMem), sX G l 2 yX12_qJoins cX12_qJoins 6 none M0 r M' 219 [none, none, none, none, none, none] [.long s1, .ref s0] M (f_X12_qJoins_B219 s0 s1 M) K := by
    intro s0 s1 M
    unfold f_X12_qJoins_B219
    refine sX_callVv (As := [.long s1]) (by decide +kernel) lm_X12_478 mf_X12_qPuts mi_X12_qPuts mc_12 (m_X12_qPuts G l s0 s1 M) (fun _ h => sRc_some h) (by decide) rfl rfl (Nat.le_of_ble_eq_true rfl) (fun M6 => ?_)
    refine sX_goto (o := 51) (t := 273) (by decide +kernel) (by decide) ?_
    exact sX_some (fun h _ => sW_vret (by decide +kernel) rfl (hr _ h).1.symm (hr _ h).2.symm)
  have xB238 : ∀ (s0 : Nat) (s1 : Int64) (M : sMem), sX G l 2 yX12_qJoins cX12_qJoins 6 none M0 r M' 238 [none, none, none, none, none, none] [.long s1, .ref s0] M (f_X12_qJoins_B238 s0 s1 M) K := by
    intro s0 s1 M
    unfold f_X12_qJoins_B238
    refine sX_callVv (As := [.long s1]) (by decide +kernel) lm_X12_478 mf_X12_qPuts mi_X12_qPuts mc_12 (m_X12_qPuts G l s0 s1 M) (fun _ h => sRc_some h) (by decide) rfl rfl (Nat.le_of_ble_eq_true rfl) (fun M7 => ?_)
    refine sX_goto (o := 32) (t := 273) (by decide +kernel) (by decide) ?_
    exact sX_some (fun h _ => sW_vret (by decide +kernel) rfl (hr _ h).1.symm (hr _ h).2.symm)
  have xB270 : ∀ (s0 : Nat) (s1 : Int64) (M : sMem), sX G l 2 yX12_qJoins cX12_qJoins 6 none M0 r M' 270 [none, none, none, none, none, none] [.long s1, .ref s0] M (f_X12_qJoins_B270 s0 s1 M) K := by
    intro s0 s1 M
    unfold f_X12_qJoins_B270
    refine sX_callVv (As := [.long s1]) (by decide +kernel) lm_X12_478 mf_X12_qPuts mi_X12_qPuts mc_12 (m_X12_qPuts G l s0 s1 M) (fun _ h => sRc_some h) (by decide) rfl rfl (Nat.le_of_ble_eq_true rfl) (fun M8 => ?_)
    exact sX_some (fun h _ => sW_vret (by decide +kernel) rfl (hr _ h).1.symm (hr _ h).2.symm)
  refine sX_rc ?_
  refine sX_aload_n (i := 0) (by decide +kernel) rfl ?_
  refine sX_getR lf_X12_291 tk_12_121 (by decide +kernel) (fun x9 => ?_)
  refine sX_aload_n (i := 0) (by decide +kernel) rfl ?_
  refine sX_getI lf_X12_475 tk_12_122 (by decide +kernel) (fun x10 => ?_)
  refine sX_iconst (n := 1) (v := (1 : Int32)) (by decide +kernel) (by decide) ?_
  refine sX_isub (by decide +kernel) ?_
  refine sX_laload (by decide +kernel) (fun x11 => ?_)
  refine sX_lstore_n (i := 2) (ls2 := [some (.ref v0), some (.int v1), some (.long x11), none, none, none]) (by decide +kernel) (by decide) rfl ?_
  refine sX_aload_n (i := 0) (by decide +kernel) rfl ?_
  refine sX_getR lf_X12_291 tk_12_121 (by decide +kernel) (fun x12 => ?_)
  refine sX_aload_n (i := 0) (by decide +kernel) rfl ?_
  refine sX_getI lf_X12_475 tk_12_122 (by decide +kernel) (fun x13 => ?_)
  refine sX_iconst (n := 2) (v := (2 : Int32)) (by decide +kernel) (by decide) ?_
  refine sX_isub (by decide +kernel) ?_
  refine sX_laload (by decide +kernel) (fun x14 => ?_)
  refine sX_lstore (i := 4) (ls2 := [some (.ref v0), some (.int v1), some (.long x11), none, some (.long x14), none]) (by decide +kernel) (by decide) rfl ?_
  refine sX_aload_n (i := 0) (by decide +kernel) rfl ?_
  refine sX_dup (by decide +kernel) rfl ?_
  refine sX_getI lf_X12_475 tk_12_122 (by decide +kernel) (fun x15 => ?_)
  refine sX_iconst (n := 2) (v := (2 : Int32)) (by decide +kernel) (by decide) ?_
  refine sX_isub (by decide +kernel) ?_
  refine sX_putI lf_X12_475 tp_12_122 (by decide +kernel) (by decide) (fun M16 => ?_)
  refine sX_iload_n (i := 1) (by decide +kernel) rfl ?_
  refine sX_if (fun hx => ?_) (fun n0 => ?_)
  · refine sX_tin (n := (1 : Int32)) (t := 92) (off := 56) (dflt := 219) (lo := 1) (hi := 10) (offs := #[56, 70, 84, 98, 111, 131, 151, 170, 189, 208]) (len := 56) (by decide +kernel) hx (by decide) (by decide) (by decide) (by decide) ?_
    refine sX_aload_n (i := 0) (by decide +kernel) rfl ?_
    refine sX_lload (i := 4) (by decide +kernel) rfl ?_
    refine sX_lload_n (i := 2) (by decide +kernel) rfl ?_
    refine sX_ladd (by decide +kernel) ?_
    refine sX_callSp (As := [.long (x14 + x11)]) (by decide +kernel) lm_X12_733 mf_X12_qClip ms_X12_qClip (m_X12_qClip G l ((x14 + x11)) M16) (by decide) rfl rfl (Nat.le_of_ble_eq_true rfl) (fun x22 => ?_)
    refine sX_callVv (As := [.long x22]) (by decide +kernel) lm_X12_478 mf_X12_qPuts mi_X12_qPuts mc_12 (m_X12_qPuts G l v0 x22 M16) (fun _ h => sRc_some h) (by decide) rfl rfl (Nat.le_of_ble_eq_true rfl) (fun M23 => ?_)
    refine sX_goto (o := 170) (t := 273) (by decide +kernel) (by decide) ?_
    exact sX_some (fun h _ => sW_vret (by decide +kernel) rfl (hr _ h).1.symm (hr _ h).2.symm)
  · refine sX_if (fun hx => ?_) (fun n1 => ?_)
    · refine sX_tin (n := (2 : Int32)) (t := 106) (off := 70) (dflt := 219) (lo := 1) (hi := 10) (offs := #[56, 70, 84, 98, 111, 131, 151, 170, 189, 208]) (len := 56) (by decide +kernel) hx (by decide) (by decide) (by decide) (by decide) ?_
      refine sX_aload_n (i := 0) (by decide +kernel) rfl ?_
      refine sX_lload (i := 4) (by decide +kernel) rfl ?_
      refine sX_lload_n (i := 2) (by decide +kernel) rfl ?_
      refine sX_lsub (by decide +kernel) ?_
      refine sX_callSp (As := [.long (x14 - x11)]) (by decide +kernel) lm_X12_733 mf_X12_qClip ms_X12_qClip (m_X12_qClip G l ((x14 - x11)) M16) (by decide) rfl rfl (Nat.le_of_ble_eq_true rfl) (fun x20 => ?_)
      refine sX_callVv (As := [.long x20]) (by decide +kernel) lm_X12_478 mf_X12_qPuts mi_X12_qPuts mc_12 (m_X12_qPuts G l v0 x20 M16) (fun _ h => sRc_some h) (by decide) rfl rfl (Nat.le_of_ble_eq_true rfl) (fun M21 => ?_)
      refine sX_goto (o := 156) (t := 273) (by decide +kernel) (by decide) ?_
      exact sX_some (fun h _ => sW_vret (by decide +kernel) rfl (hr _ h).1.symm (hr _ h).2.symm)
    · refine sX_if (fun hx => ?_) (fun n2 => ?_)
      · refine sX_tin (n := (3 : Int32)) (t := 120) (off := 84) (dflt := 219) (lo := 1) (hi := 10) (offs := #[56, 70, 84, 98, 111, 131, 151, 170, 189, 208]) (len := 56) (by decide +kernel) hx (by decide) (by decide) (by decide) (by decide) ?_
        refine sX_aload_n (i := 0) (by decide +kernel) rfl ?_
        refine sX_lload (i := 4) (by decide +kernel) rfl ?_
        refine sX_lload_n (i := 2) (by decide +kernel) rfl ?_
        refine sX_lmul (by decide +kernel) ?_
        refine sX_callSp (As := [.long (x14 * x11)]) (by decide +kernel) lm_X12_733 mf_X12_qClip ms_X12_qClip (m_X12_qClip G l ((x14 * x11)) M16) (by decide) rfl rfl (Nat.le_of_ble_eq_true rfl) (fun x18 => ?_)
        refine sX_callVv (As := [.long x18]) (by decide +kernel) lm_X12_478 mf_X12_qPuts mi_X12_qPuts mc_12 (m_X12_qPuts G l v0 x18 M16) (fun _ h => sRc_some h) (by decide) rfl rfl (Nat.le_of_ble_eq_true rfl) (fun M19 => ?_)
        refine sX_goto (o := 142) (t := 273) (by decide +kernel) (by decide) ?_
        exact sX_some (fun h _ => sW_vret (by decide +kernel) rfl (hr _ h).1.symm (hr _ h).2.symm)
      · refine sX_if (fun hx => ?_) (fun n3 => ?_)
        · refine sX_tin (n := (4 : Int32)) (t := 134) (off := 98) (dflt := 219) (lo := 1) (hi := 10) (offs := #[56, 70, 84, 98, 111, 131, 151, 170, 189, 208]) (len := 56) (by decide +kernel) hx (by decide) (by decide) (by decide) (by decide) ?_
          exact sX.le (xB134 v0 x11 x14 M16) (sLe_s (sLe_n (sLe_s (sLe_n (sLe_s (sLe_n sLe_e))))))
        · refine sX_if (fun hx => ?_) (fun n4 => ?_)
          · refine sX_tin (n := (5 : Int32)) (t := 147) (off := 111) (dflt := 219) (lo := 1) (hi := 10) (offs := #[56, 70, 84, 98, 111, 131, 151, 170, 189, 208]) (len := 56) (by decide +kernel) hx (by decide) (by decide) (by decide) (by decide) ?_
            refine sX_aload_n (i := 0) (by decide +kernel) rfl ?_
            refine sX_lload (i := 4) (by decide +kernel) rfl ?_
            refine sX_lload_n (i := 2) (by decide +kernel) rfl ?_
            refine sX_lcge (o := 8) (t := 160) (by decide +kernel) (by decide +kernel) (by decide) (fun _ => ?_) (fun _ => ?_)
            · refine sX_lload_n (i := 2) (by decide +kernel) rfl ?_
              exact sX.le (xB161 v0 x11 M16) (sLe_n (sLe_n (sLe_n (sLe_n (sLe_n (sLe_n sLe_e))))))
            · refine sX_lload (i := 4) (by decide +kernel) rfl ?_
              refine sX_goto (o := 4) (t := 161) (by decide +kernel) (by decide) ?_
              exact sX.le (xB161 v0 x14 M16) (sLe_n (sLe_n (sLe_n (sLe_n (sLe_n (sLe_n sLe_e))))))
          · refine sX_if (fun hx => ?_) (fun n5 => ?_)
            · refine sX_tin (n := (6 : Int32)) (t := 167) (off := 131) (dflt := 219) (lo := 1) (hi := 10) (offs := #[56, 70, 84, 98, 111, 131, 151, 170, 189, 208]) (len := 56) (by decide +kernel) hx (by decide) (by decide) (by decide) (by decide) ?_
              refine sX_aload_n (i := 0) (by decide +kernel) rfl ?_
              refine sX_lload (i := 4) (by decide +kernel) rfl ?_
              refine sX_lload_n (i := 2) (by decide +kernel) rfl ?_
              refine sX_lcle (o := 8) (t := 180) (by decide +kernel) (by decide +kernel) (by decide) (fun _ => ?_) (fun _ => ?_)
              · refine sX_lload_n (i := 2) (by decide +kernel) rfl ?_
                exact sX.le (xB181 v0 x11 M16) (sLe_n (sLe_n (sLe_n (sLe_n (sLe_n (sLe_n sLe_e))))))
              · refine sX_lload (i := 4) (by decide +kernel) rfl ?_
                refine sX_goto (o := 4) (t := 181) (by decide +kernel) (by decide) ?_
                exact sX.le (xB181 v0 x14 M16) (sLe_n (sLe_n (sLe_n (sLe_n (sLe_n (sLe_n sLe_e))))))
            · refine sX_if (fun hx => ?_) (fun n6 => ?_)
              · refine sX_tin (n := (7 : Int32)) (t := 187) (off := 151) (dflt := 219) (lo := 1) (hi := 10) (offs := #[56, 70, 84, 98, 111, 131, 151, 170, 189, 208]) (len := 56) (by decide +kernel) hx (by decide) (by decide) (by decide) (by decide) ?_
                refine sX_aload_n (i := 0) (by decide +kernel) rfl ?_
                refine sX_lload (i := 4) (by decide +kernel) rfl ?_
                refine sX_lload_n (i := 2) (by decide +kernel) rfl ?_
                refine sX_lcge (o := 7) (t := 199) (by decide +kernel) (by decide +kernel) (by decide) (fun _ => ?_) (fun _ => ?_)
                · refine sX_lconst (n := 0) (v := (0 : Int64)) (by decide +kernel) (by decide) ?_
                  exact sX.le (xB200 v0 ((0 : Int64)) M16) (sLe_n (sLe_n (sLe_n (sLe_n (sLe_n (sLe_n sLe_e))))))
                · refine sX_lconst (n := 1) (v := (1 : Int64)) (by decide +kernel) (by decide) ?_
                  refine sX_goto (o := 4) (t := 200) (by decide +kernel) (by decide) ?_
                  exact sX.le (xB200 v0 ((1 : Int64)) M16) (sLe_n (sLe_n (sLe_n (sLe_n (sLe_n (sLe_n sLe_e))))))
              · refine sX_if (fun hx => ?_) (fun n7 => ?_)
                · refine sX_tin (n := (8 : Int32)) (t := 206) (off := 170) (dflt := 219) (lo := 1) (hi := 10) (offs := #[56, 70, 84, 98, 111, 131, 151, 170, 189, 208]) (len := 56) (by decide +kernel) hx (by decide) (by decide) (by decide) (by decide) ?_
                  refine sX_aload_n (i := 0) (by decide +kernel) rfl ?_
                  refine sX_lload (i := 4) (by decide +kernel) rfl ?_
                  refine sX_lload_n (i := 2) (by decide +kernel) rfl ?_
                  refine sX_lcle (o := 7) (t := 218) (by decide +kernel) (by decide +kernel) (by decide) (fun _ => ?_) (fun _ => ?_)
                  · refine sX_lconst (n := 0) (v := (0 : Int64)) (by decide +kernel) (by decide) ?_
                    exact sX.le (xB219 v0 ((0 : Int64)) M16) (sLe_n (sLe_n (sLe_n (sLe_n (sLe_n (sLe_n sLe_e))))))
                  · refine sX_lconst (n := 1) (v := (1 : Int64)) (by decide +kernel) (by decide) ?_
                    refine sX_goto (o := 4) (t := 219) (by decide +kernel) (by decide) ?_
                    exact sX.le (xB219 v0 ((1 : Int64)) M16) (sLe_n (sLe_n (sLe_n (sLe_n (sLe_n (sLe_n sLe_e))))))
                · refine sX_if (fun hx => ?_) (fun n8 => ?_)
                  · refine sX_tin (n := (9 : Int32)) (t := 225) (off := 189) (dflt := 219) (lo := 1) (hi := 10) (offs := #[56, 70, 84, 98, 111, 131, 151, 170, 189, 208]) (len := 56) (by decide +kernel) hx (by decide) (by decide) (by decide) (by decide) ?_
                    refine sX_aload_n (i := 0) (by decide +kernel) rfl ?_
                    refine sX_lload (i := 4) (by decide +kernel) rfl ?_
                    refine sX_lload_n (i := 2) (by decide +kernel) rfl ?_
                    refine sX_lcne (o := 7) (t := 237) (by decide +kernel) (by decide +kernel) (by decide) (fun _ => ?_) (fun _ => ?_)
                    · refine sX_lconst (n := 1) (v := (1 : Int64)) (by decide +kernel) (by decide) ?_
                      refine sX_goto (o := 4) (t := 238) (by decide +kernel) (by decide) ?_
                      exact sX.le (xB238 v0 ((1 : Int64)) M16) (sLe_n (sLe_n (sLe_n (sLe_n (sLe_n (sLe_n sLe_e))))))
                    · refine sX_lconst (n := 0) (v := (0 : Int64)) (by decide +kernel) (by decide) ?_
                      exact sX.le (xB238 v0 ((0 : Int64)) M16) (sLe_n (sLe_n (sLe_n (sLe_n (sLe_n (sLe_n sLe_e))))))
                  · refine sX_if (fun hx => ?_) (fun n9 => ?_)
                    · refine sX_tin (n := (10 : Int32)) (t := 244) (off := 208) (dflt := 219) (lo := 1) (hi := 10) (offs := #[56, 70, 84, 98, 111, 131, 151, 170, 189, 208]) (len := 56) (by decide +kernel) hx (by decide) (by decide) (by decide) (by decide) ?_
                      refine sX_aload_n (i := 0) (by decide +kernel) rfl ?_
                      refine sX_lload (i := 4) (by decide +kernel) rfl ?_
                      refine sX_lload_n (i := 2) (by decide +kernel) rfl ?_
                      refine sX_lmul (by decide +kernel) ?_
                      refine sX_callVv (As := [.long (x14 * x11)]) (by decide +kernel) lm_X12_478 mf_X12_qPuts mi_X12_qPuts mc_12 (m_X12_qPuts G l v0 ((x14 * x11)) M16) (fun _ h => sRc_some h) (by decide) rfl rfl (Nat.le_of_ble_eq_true rfl) (fun M17 => ?_)
                      refine sX_goto (o := 21) (t := 273) (by decide +kernel) (by decide) ?_
                      exact sX_some (fun h _ => sW_vret (by decide +kernel) rfl (hr _ h).1.symm (hr _ h).2.symm)
                    · refine sX_tout (t := 255) (dflt := 219) (lo := 1) (hi := 10) (offs := #[56, 70, 84, 98, 111, 131, 151, 170, 189, 208]) (len := 56) (by decide +kernel) (by have e0 := sNe n0 (z := 1) (by decide); have e1 := sNe n1 (z := 2) (by decide); have e2 := sNe n2 (z := 3) (by decide); have e3 := sNe n3 (z := 4) (by decide); have e4 := sNe n4 (z := 5) (by decide); have e5 := sNe n5 (z := 6) (by decide); have e6 := sNe n6 (z := 7) (by decide); have e7 := sNe n7 (z := 8) (by decide); have e8 := sNe n8 (z := 9) (by decide); have e9 := sNe n9 (z := 10) (by decide); omega) (by decide) ?_
                      refine sX_aload_n (i := 0) (by decide +kernel) rfl ?_
                      refine sX_lload (i := 4) (by decide +kernel) rfl ?_
                      refine sX_lload_n (i := 2) (by decide +kernel) rfl ?_
                      refine sX_ladd (by decide +kernel) ?_
                      refine sX_lconst (n := 0) (v := (0 : Int64)) (by decide +kernel) (by decide) ?_
                      refine sX_lcle (o := 7) (t := 269) (by decide +kernel) (by decide +kernel) (by decide) (fun _ => ?_) (fun _ => ?_)
                      · refine sX_lconst (n := 0) (v := (0 : Int64)) (by decide +kernel) (by decide) ?_
                        exact sX.le (xB270 v0 ((0 : Int64)) M16) (sLe_n (sLe_n (sLe_n (sLe_n (sLe_n (sLe_n sLe_e))))))
                      · refine sX_lconst (n := 1) (v := (1 : Int64)) (by decide +kernel) (by decide) ?_
                        refine sX_goto (o := 4) (t := 270) (by decide +kernel) (by decide) ?_
                        exact sX.le (xB270 v0 ((1 : Int64)) M16) (sLe_n (sLe_n (sLe_n (sLe_n (sLe_n (sLe_n sLe_e))))))
def f_X12_codesTell_B150 (v0 : Nat) (M : sMem) : Option (Int64 × sMem) :=
  (gR 12 127 121 M v0).bind fun x1 =>
  (ldJ M x1 ((0 : Int32))).bind fun x2 =>
  some ((x2, M))
def f_X12_codesTell_B144 (v0 : Nat) (v1 : Int32) (v2 : Int32) (v3 : Int32) (M : sMem) : Option ((Int32 × sMem) ⊕ ((sMem))) :=
  some (.inl ((((v3 + (1 : Int32))), M)))
def f_X12_codesTell_B111 (v0 : Nat) (v1 : Int32) (v2 : Int32) (v3 : Int32) (M : sMem) : Option ((Int32 × sMem) ⊕ ((sMem))) :=
  (gR 12 127 121 M v0).bind fun x3 =>
  (gI 12 127 122 M v0).bind fun x4 =>
  (gR 12 127 121 M v0).bind fun x5 =>
  (gI 12 127 122 M v0).bind fun x6 =>
  (ldJ M x5 ((x6 - (1 : Int32)))).bind fun x7 =>
  (stJ M x3 ((x4 - (1 : Int32))) (((1 : Int64) - x7))).bind fun M8 =>
  f_X12_codesTell_B144 v0 v1 v2 v3 M8
def f_X12_codesTell_K19 (v0 : Nat) (v1 : Int32) (v2 : Int32) (v3 : Int32) (M : sMem) : Option ((Int32 × sMem) ⊕ ((sMem))) :=
  (gR 12 127 53 M v0).bind fun x9 =>
  (ldI 14 M x9 (((3 : Int32) + v1))).bind fun x10 =>
  if x10 ≤ v3 then
    some (.inr M)
  else
    (gR 12 127 54 M v0).bind fun x11 =>
    (ldI 14 M x11 (((1600 : Int32) + v3))).bind fun x12 =>
    if x12 < (1000 : Int32) then
      if x12 < (40 : Int32) then
        if x12 = (13 : Int32) then
          (f_X12_qPuts v0 ((1 : Int64)) M).bind fun M13 =>
          f_X12_codesTell_B144 v0 v1 v2 v3 M13
        else
          if x12 = (12 : Int32) then
            f_X12_codesTell_B111 v0 v1 v2 v3 M
          else
            (f_X12_qJoins v0 x12 M).bind fun M14 =>
            f_X12_codesTell_B144 v0 v1 v2 v3 M14
      else
        (f_X12_qPartOf v0 ((x12 - (40 : Int32))) v2 M).bind fun x15 =>
        (f_X12_qPuts v0 x15 M).bind fun M16 =>
        f_X12_codesTell_B144 v0 v1 v2 v3 M16
    else
      (f_X12_qPuts v0 (((x12 - (1000 : Int32))).toInt64) M).bind fun M17 =>
      f_X12_codesTell_B144 v0 v1 v2 v3 M17
def f_X12_codesTell_L19 (v0 : Nat) (v1 : Int32) (v2 : Int32) (v3 : Int32) (M : sMem) : Option (Int64 × sMem) :=
  (sItr (fun a : (Int32 × sMem) => f_X12_codesTell_K19 v0 v1 v2 a.1 a.2) sFuel (v3, M)).bind (fun b => f_X12_codesTell_B150 v0 b)
def f_X12_codesTell (v0 : Nat) (v1 : Int32) (v2 : Int32) (M0 : sMem) : Option (Int64 × sMem) :=
  sRc 12 127 M0 v0 (
    (pI 12 127 58 M0 v0 v1).bind fun M18 =>
    (pI 12 127 122 M18 v0 ((0 : Int32))).bind fun M19 =>
    (gR 12 127 52 M19 v0).bind fun x20 =>
    (ldI 14 M19 x20 (((3 : Int32) + v1))).bind fun x21 =>
    f_X12_codesTell_L19 v0 v1 v2 x21 M19)
set_option maxRecDepth 100000 in
set_option maxHeartbeats 4000000 in
theorem m_X12_codesTell (G : sG) (l : Launch) (v0 : Nat) (v1 : Int32) (v2 : Int32) (M0 : sMem) : sC G l 3 yX12_codesTell cX12_codesTell 5 (some .long) [.ref v0, .int v1, .int v2] M0 rvJ (f_X12_codesTell v0 v1 v2 M0) := by
  refine sC_m (ls := [some (.ref v0), some (.int v1), some (.int v2), none, none]) (by decide +kernel) rfl (Nat.le_of_ble_eq_true rfl) (fun r M' K hr => ?_)
  unfold f_X12_codesTell
  have xB150 : ∀ (v0 : Nat) (M : sMem), sX G l 3 yX12_codesTell cX12_codesTell 5 (some .long) M0 r M' 150 [some (.ref v0), none, none, none, none] [] M (f_X12_codesTell_B150 v0 M) K := by
    intro v0 M
    unfold f_X12_codesTell_B150
    refine sX_aload_n (i := 0) (by decide +kernel) rfl ?_
    refine sX_getR lf_X12_291 tk_12_121 (by decide +kernel) (fun x1 => ?_)
    refine sX_iconst (n := 0) (v := (0 : Int32)) (by decide +kernel) (by decide) ?_
    refine sX_laload (by decide +kernel) (fun x2 => ?_)
    exact sX_some (fun h _ => sW_lret (by decide +kernel) rfl (hr _ h).1.symm (hr _ h).2.symm)
  have xL19 : ∀ (v0 : Nat) (v1 : Int32) (v2 : Int32) (v3 : Int32) (M : sMem), sX G l 3 yX12_codesTell cX12_codesTell 5 (some .long) M0 r M' 19 [some (.ref v0), some (.int v1), some (.int v2), some (.int v3), none] [] M (f_X12_codesTell_L19 v0 v1 v2 v3 M) K := by
    intro v0 v1 v2 v3 M
    unfold f_X12_codesTell_L19
    refine sX_bind ?_
    refine sX_loop (LS := fun a : (Int32 × sMem) => [some (.ref v0), some (.int v1), some (.int v2), some (.int a.1), none]) (MM := fun a => a.2) (fun K1 hb1 he1 => ?_) sFuel ((v3, M))
    have xB144 : ∀ (v3 : Int32) (M : sMem), sX G l 3 yX12_codesTell cX12_codesTell 5 (some .long) M0 r M' 144 [some (.ref v0), some (.int v1), some (.int v2), some (.int v3), none] [] M (f_X12_codesTell_B144 v0 v1 v2 v3 M) K1 := by
      intro v3 M
      unfold f_X12_codesTell_B144
      refine sX_iinc (i := 3) (n := 1) (v := v3 + (1 : Int32)) (ls2 := [some (.ref v0), some (.int v1), some (.int v2), some (.int (v3 + (1 : Int32))), none]) (by decide +kernel) rfl rfl (by decide) rfl ?_
      refine sX_goto (o := -128) (t := 19) (by decide +kernel) (by decide) ?_
      exact sX_back (a := (((v3 + (1 : Int32))), M)) hb1 rfl (sLe_s (sLe_s (sLe_s (sLe_s (sLe_n sLe_e)))))
    have xB111 : ∀ (v3 : Int32) (M : sMem), sX G l 3 yX12_codesTell cX12_codesTell 5 (some .long) M0 r M' 111 [some (.ref v0), some (.int v1), some (.int v2), some (.int v3), none] [] M (f_X12_codesTell_B111 v0 v1 v2 v3 M) K1 := by
      intro v3 M
      unfold f_X12_codesTell_B111
      refine sX_aload_n (i := 0) (by decide +kernel) rfl ?_
      refine sX_getR lf_X12_291 tk_12_121 (by decide +kernel) (fun x3 => ?_)
      refine sX_aload_n (i := 0) (by decide +kernel) rfl ?_
      refine sX_getI lf_X12_475 tk_12_122 (by decide +kernel) (fun x4 => ?_)
      refine sX_iconst (n := 1) (v := (1 : Int32)) (by decide +kernel) (by decide) ?_
      refine sX_isub (by decide +kernel) ?_
      refine sX_lconst (n := 1) (v := (1 : Int64)) (by decide +kernel) (by decide) ?_
      refine sX_aload_n (i := 0) (by decide +kernel) rfl ?_
      refine sX_getR lf_X12_291 tk_12_121 (by decide +kernel) (fun x5 => ?_)
      refine sX_aload_n (i := 0) (by decide +kernel) rfl ?_
      refine sX_getI lf_X12_475 tk_12_122 (by decide +kernel) (fun x6 => ?_)
      refine sX_iconst (n := 1) (v := (1 : Int32)) (by decide +kernel) (by decide) ?_
      refine sX_isub (by decide +kernel) ?_
      refine sX_laload (by decide +kernel) (fun x7 => ?_)
      refine sX_lsub (by decide +kernel) ?_
      refine sX_lastore (by decide +kernel) (by decide) (fun M8 => ?_)
      refine sX_goto (o := 9) (t := 144) (by decide +kernel) (by decide) ?_
      exact sX.le (xB144 v3 M8) (sLe_s (sLe_s (sLe_s (sLe_s (sLe_n sLe_e)))))
    have xK19 : ∀ (v3 : Int32) (M : sMem), sX G l 3 yX12_codesTell cX12_codesTell 5 (some .long) M0 r M' 19 [some (.ref v0), some (.int v1), some (.int v2), some (.int v3), none] [] M (f_X12_codesTell_K19 v0 v1 v2 v3 M) K1 := by
      intro v3 M
      unfold f_X12_codesTell_K19
      refine sX_iload_n (i := 3) (by decide +kernel) rfl ?_
      refine sX_aload_n (i := 0) (by decide +kernel) rfl ?_
      refine sX_getR lf_X12_145 tk_12_53 (by decide +kernel) (fun x9 => ?_)
      refine sX_iconst (n := 3) (v := (3 : Int32)) (by decide +kernel) (by decide) ?_
      refine sX_iload_n (i := 1) (by decide +kernel) rfl ?_
      refine sX_iadd (by decide +kernel) ?_
      refine sX_iaload (by decide +kernel) (fun x10 => ?_)
      refine sX_icge (o := 122) (t := 150) (by decide +kernel) (by decide) (fun _ => ?_) (fun _ => ?_)
      · refine sX_exit he1 ?_
        exact sX.le (xB150 v0 M) (sLe_s (sLe_n (sLe_n (sLe_n (sLe_n sLe_e)))))
      · refine sX_aload_n (i := 0) (by decide +kernel) rfl ?_
        refine sX_getR lf_X12_148 tk_12_54 (by decide +kernel) (fun x11 => ?_)
        refine sX_sipush (n := 1600) (v := (1600 : Int32)) (by decide +kernel) (by decide) ?_
        refine sX_iload_n (i := 3) (by decide +kernel) rfl ?_
        refine sX_iadd (by decide +kernel) ?_
        refine sX_iaload (by decide +kernel) (fun x12 => ?_)
        refine sX_istore (i := 4) (ls2 := [some (.ref v0), some (.int v1), some (.int v2), some (.int v3), some (.int x12)]) (by decide +kernel) (by decide) rfl ?_
        refine sX_iload (i := 4) (by decide +kernel) rfl ?_
        refine sX_sipush (n := 1000) (v := (1000 : Int32)) (by decide +kernel) (by decide) ?_
        refine sX_iclt (o := 17) (t := 65) (by decide +kernel) (by decide) (fun _ => ?_) (fun _ => ?_)
        · refine sX_iload (i := 4) (by decide +kernel) rfl ?_
          refine sX_bipush (n := 40) (v := (40 : Int32)) (by decide +kernel) (by decide) ?_
          refine sX_iclt (o := 20) (t := 89) (by decide +kernel) (by decide) (fun _ => ?_) (fun _ => ?_)
          · refine sX_iload (i := 4) (by decide +kernel) rfl ?_
            refine sX_bipush (n := 13) (v := (13 : Int32)) (by decide +kernel) (by decide) ?_
            refine sX_icne (o := 11) (t := 104) (by decide +kernel) (by decide) (fun _ => ?_) (fun _ => ?_)
            · refine sX_aload_n (i := 0) (by decide +kernel) rfl ?_
              refine sX_lconst (n := 1) (v := (1 : Int64)) (by decide +kernel) (by decide) ?_
              refine sX_callVv (As := [.long (1 : Int64)]) (by decide +kernel) lm_X12_478 mf_X12_qPuts mi_X12_qPuts mc_12 (m_X12_qPuts G l v0 ((1 : Int64)) M) (fun _ h => sRc_some h) (by decide) rfl rfl (Nat.le_of_ble_eq_true rfl) (fun M13 => ?_)
              refine sX_goto (o := 43) (t := 144) (by decide +kernel) (by decide) ?_
              exact sX.le (xB144 v3 M13) (sLe_s (sLe_s (sLe_s (sLe_s (sLe_n sLe_e)))))
            · refine sX_iload (i := 4) (by decide +kernel) rfl ?_
              refine sX_bipush (n := 12) (v := (12 : Int32)) (by decide +kernel) (by decide) ?_
              refine sX_icne (o := 30) (t := 138) (by decide +kernel) (by decide) (fun _ => ?_) (fun _ => ?_)
              · exact sX.le (xB111 v3 M) (sLe_s (sLe_s (sLe_s (sLe_s (sLe_n sLe_e)))))
              · refine sX_aload_n (i := 0) (by decide +kernel) rfl ?_
                refine sX_iload (i := 4) (by decide +kernel) rfl ?_
                refine sX_callVv (As := [.int x12]) (by decide +kernel) lm_X12_486 mf_X12_qJoins mi_X12_qJoins mc_12 (m_X12_qJoins G l v0 x12 M) (fun _ h => sRc_some h) (by decide) rfl rfl (Nat.le_of_ble_eq_true rfl) (fun M14 => ?_)
                exact sX.le (xB144 v3 M14) (sLe_s (sLe_s (sLe_s (sLe_s (sLe_n sLe_e)))))
          · refine sX_aload_n (i := 0) (by decide +kernel) rfl ?_
            refine sX_aload_n (i := 0) (by decide +kernel) rfl ?_
            refine sX_iload (i := 4) (by decide +kernel) rfl ?_
            refine sX_bipush (n := 40) (v := (40 : Int32)) (by decide +kernel) (by decide) ?_
            refine sX_isub (by decide +kernel) ?_
            refine sX_iload_n (i := 2) (by decide +kernel) rfl ?_
            refine sX_callVp (As := [.int (x12 - (40 : Int32)), .int v2]) (by decide +kernel) lm_X12_482 mf_X12_qPartOf mi_X12_qPartOf mc_12 (m_X12_qPartOf G l v0 ((x12 - (40 : Int32))) v2 M) (fun _ h => sRc_some h) (by decide) rfl rfl (Nat.le_of_ble_eq_true rfl) (fun x15 => ?_)
            refine sX_callVv (As := [.long x15]) (by decide +kernel) lm_X12_478 mf_X12_qPuts mi_X12_qPuts mc_12 (m_X12_qPuts G l v0 x15 M) (fun _ h => sRc_some h) (by decide) rfl rfl (Nat.le_of_ble_eq_true rfl) (fun M16 => ?_)
            refine sX_goto (o := 58) (t := 144) (by decide +kernel) (by decide) ?_
            exact sX.le (xB144 v3 M16) (sLe_s (sLe_s (sLe_s (sLe_s (sLe_n sLe_e)))))
        · refine sX_aload_n (i := 0) (by decide +kernel) rfl ?_
          refine sX_iload (i := 4) (by decide +kernel) rfl ?_
          refine sX_sipush (n := 1000) (v := (1000 : Int32)) (by decide +kernel) (by decide) ?_
          refine sX_isub (by decide +kernel) ?_
          refine sX_i2l (by decide +kernel) ?_
          refine sX_callVv (As := [.long ((x12 - (1000 : Int32))).toInt64]) (by decide +kernel) lm_X12_478 mf_X12_qPuts mi_X12_qPuts mc_12 (m_X12_qPuts G l v0 (((x12 - (1000 : Int32))).toInt64) M) (fun _ h => sRc_some h) (by decide) rfl rfl (Nat.le_of_ble_eq_true rfl) (fun M17 => ?_)
          refine sX_goto (o := 82) (t := 144) (by decide +kernel) (by decide) ?_
          exact sX.le (xB144 v3 M17) (sLe_s (sLe_s (sLe_s (sLe_s (sLe_n sLe_e)))))
    exact fun a => xK19 a.1 a.2
  refine sX_rc ?_
  refine sX_aload_n (i := 0) (by decide +kernel) rfl ?_
  refine sX_iload_n (i := 1) (by decide +kernel) rfl ?_
  refine sX_putI lf_X12_358 tp_12_58 (by decide +kernel) (by decide) (fun M18 => ?_)
  refine sX_aload_n (i := 0) (by decide +kernel) rfl ?_
  refine sX_iconst (n := 0) (v := (0 : Int32)) (by decide +kernel) (by decide) ?_
  refine sX_putI lf_X12_475 tp_12_122 (by decide +kernel) (by decide) (fun M19 => ?_)
  refine sX_aload_n (i := 0) (by decide +kernel) rfl ?_
  refine sX_getR lf_X12_142 tk_12_52 (by decide +kernel) (fun x20 => ?_)
  refine sX_iconst (n := 3) (v := (3 : Int32)) (by decide +kernel) (by decide) ?_
  refine sX_iload_n (i := 1) (by decide +kernel) rfl ?_
  refine sX_iadd (by decide +kernel) ?_
  refine sX_iaload (by decide +kernel) (fun x21 => ?_)
  refine sX_istore_n (i := 3) (ls2 := [some (.ref v0), some (.int v1), some (.int v2), some (.int x21), none]) (by decide +kernel) (by decide) rfl ?_
  exact sX.le (xL19 v0 v1 v2 x21 M19) (sLe_s (sLe_s (sLe_s (sLe_s (sLe_n sLe_e)))))
def f_X12_isTold (v0 : Nat) (v1 : Int32) (M0 : sMem) : Option Int32 :=
  sRc 12 127 M0 v0 (
    (gR 12 127 52 M0 v0).bind fun x1 =>
    (ldI 14 M0 x1 (((3 : Int32) + v1))).bind fun x2 =>
    if x2 = (-1 : Int32) then
      some ((0 : Int32))
    else
      some ((1 : Int32)))
set_option maxRecDepth 100000 in
set_option maxHeartbeats 4000000 in
theorem m_X12_isTold (G : sG) (l : Launch) (v0 : Nat) (v1 : Int32) (M0 : sMem) : sCp G l 1 yX12_isTold cX12_isTold 2 (some .boolean) [.ref v0, .int v1] M0 rvI (f_X12_isTold v0 v1 M0) := by
  refine sC_p (ls := [some (.ref v0), some (.int v1)]) (by decide +kernel) rfl (Nat.le_of_ble_eq_true rfl) (fun r M' K hr => ?_)
  unfold f_X12_isTold
  refine sX_rc ?_
  refine sX_aload_n (i := 0) (by decide +kernel) rfl ?_
  refine sX_getR lf_X12_142 tk_12_52 (by decide +kernel) (fun x1 => ?_)
  refine sX_iconst (n := 3) (v := (3 : Int32)) (by decide +kernel) (by decide) ?_
  refine sX_iload_n (i := 1) (by decide +kernel) rfl ?_
  refine sX_iadd (by decide +kernel) ?_
  refine sX_iaload (by decide +kernel) (fun x2 => ?_)
  refine sX_iconst (n := -1) (v := (-1 : Int32)) (by decide +kernel) (by decide) ?_
  refine sX_iceq (o := 7) (t := 16) (by decide +kernel) (by decide) (fun _ => ?_) (fun _ => ?_)
  · refine sX_iconst (n := 0) (v := (0 : Int32)) (by decide +kernel) (by decide) ?_
    exact sX_some (fun h _ => sW_zret (by decide +kernel) rfl (by decide) (hr _ h).1.symm (hr _ h).2.symm)
  · refine sX_iconst (n := 1) (v := (1 : Int32)) (by decide +kernel) (by decide) ?_
    refine sX_goto (o := 4) (t := 17) (by decide +kernel) (by decide) ?_
    exact sX_some (fun h _ => sW_zret (by decide +kernel) rfl (by decide) (hr _ h).1.symm (hr _ h).2.symm)
def f_X12_headOf_B61 (M0 : sMem) : Option Int32 :=
  some ((-1 : Int32))
def f_X12_headOf (v0 : Nat) (v1 : Int32) (v2 : Int32) (v3 : Int32) (M0 : sMem) : Option Int32 :=
  sRc 12 127 M0 v0 (
    (gR 12 127 50 M0 v0).bind fun x1 =>
    (ldI 14 M0 x1 (((17 : Int32) + ((3 : Int32) * v1)))).bind fun x2 =>
    (gR 12 127 50 M0 v0).bind fun x3 =>
    (ldI 14 M0 x3 (((16 : Int32) + ((3 : Int32) * v1)))).bind fun x4 =>
    if ((v3 - x2) - v2) < 0 then
      f_X12_headOf_B61 M0
    else
      (gR 12 127 50 M0 v0).bind fun x5 =>
      (ldI 14 M0 x5 (((15 : Int32) + ((3 : Int32) * v1)))).bind fun x6 =>
      (gR 12 127 45 M0 v0).bind fun x7 =>
      (ldI 14 M0 x7 ((2 : Int32))).bind fun x8 =>
      if ((((v3 - x2) - v2) * x4) - x6) ≤ x8 then
        some ((((v3 - x2) - v2) * x4))
      else
        f_X12_headOf_B61 M0)
set_option maxRecDepth 100000 in
set_option maxHeartbeats 4000000 in
theorem m_X12_headOf (G : sG) (l : Launch) (v0 : Nat) (v1 : Int32) (v2 : Int32) (v3 : Int32) (M0 : sMem) : sCp G l 1 yX12_headOf cX12_headOf 6 (some .int) [.ref v0, .int v1, .int v2, .int v3] M0 rvI (f_X12_headOf v0 v1 v2 v3 M0) := by
  refine sC_p (ls := [some (.ref v0), some (.int v1), some (.int v2), some (.int v3), none, none]) (by decide +kernel) rfl (Nat.le_of_ble_eq_true rfl) (fun r M' K hr => ?_)
  unfold f_X12_headOf
  have xB61 : sX G l 1 yX12_headOf cX12_headOf 6 (some .int) M0 r M' 61 [none, none, none, none, none, none] [] M0 (f_X12_headOf_B61 M0) K := by
    unfold f_X12_headOf_B61
    refine sX_iconst (n := -1) (v := (-1 : Int32)) (by decide +kernel) (by decide) ?_
    refine sX_goto (o := 5) (t := 67) (by decide +kernel) (by decide) ?_
    exact sX_some (fun h _ => sW_iret (by decide +kernel) rfl (hr _ h).1.symm (hr _ h).2.symm)
  refine sX_rc ?_
  refine sX_iload_n (i := 3) (by decide +kernel) rfl ?_
  refine sX_aload_n (i := 0) (by decide +kernel) rfl ?_
  refine sX_getR lf_X12_136 tk_12_50 (by decide +kernel) (fun x1 => ?_)
  refine sX_bipush (n := 17) (v := (17 : Int32)) (by decide +kernel) (by decide) ?_
  refine sX_iconst (n := 3) (v := (3 : Int32)) (by decide +kernel) (by decide) ?_
  refine sX_iload_n (i := 1) (by decide +kernel) rfl ?_
  refine sX_imul (by decide +kernel) ?_
  refine sX_iadd (by decide +kernel) ?_
  refine sX_iaload (by decide +kernel) (fun x2 => ?_)
  refine sX_isub (by decide +kernel) ?_
  refine sX_iload_n (i := 2) (by decide +kernel) rfl ?_
  refine sX_isub (by decide +kernel) ?_
  refine sX_istore (i := 4) (ls2 := [some (.ref v0), some (.int v1), some (.int v2), some (.int v3), some (.int ((v3 - x2) - v2)), none]) (by decide +kernel) (by decide) rfl ?_
  refine sX_iload (i := 4) (by decide +kernel) rfl ?_
  refine sX_aload_n (i := 0) (by decide +kernel) rfl ?_
  refine sX_getR lf_X12_136 tk_12_50 (by decide +kernel) (fun x3 => ?_)
  refine sX_bipush (n := 16) (v := (16 : Int32)) (by decide +kernel) (by decide) ?_
  refine sX_iconst (n := 3) (v := (3 : Int32)) (by decide +kernel) (by decide) ?_
  refine sX_iload_n (i := 1) (by decide +kernel) rfl ?_
  refine sX_imul (by decide +kernel) ?_
  refine sX_iadd (by decide +kernel) ?_
  refine sX_iaload (by decide +kernel) (fun x4 => ?_)
  refine sX_imul (by decide +kernel) ?_
  refine sX_istore (i := 5) (ls2 := [some (.ref v0), some (.int v1), some (.int v2), some (.int v3), some (.int ((v3 - x2) - v2)), some (.int (((v3 - x2) - v2) * x4))]) (by decide +kernel) (by decide) rfl ?_
  refine sX_iload (i := 4) (by decide +kernel) rfl ?_
  refine sX_iflt (o := 26) (t := 61) (by decide +kernel) (by decide) (fun _ => ?_) (fun _ => ?_)
  · exact sX.le xB61 (sLe_n (sLe_n (sLe_n (sLe_n (sLe_n (sLe_n sLe_e))))))
  · refine sX_iload (i := 5) (by decide +kernel) rfl ?_
    refine sX_aload_n (i := 0) (by decide +kernel) rfl ?_
    refine sX_getR lf_X12_136 tk_12_50 (by decide +kernel) (fun x5 => ?_)
    refine sX_bipush (n := 15) (v := (15 : Int32)) (by decide +kernel) (by decide) ?_
    refine sX_iconst (n := 3) (v := (3 : Int32)) (by decide +kernel) (by decide) ?_
    refine sX_iload_n (i := 1) (by decide +kernel) rfl ?_
    refine sX_imul (by decide +kernel) ?_
    refine sX_iadd (by decide +kernel) ?_
    refine sX_iaload (by decide +kernel) (fun x6 => ?_)
    refine sX_isub (by decide +kernel) ?_
    refine sX_aload_n (i := 0) (by decide +kernel) rfl ?_
    refine sX_getR lf_X12_120 tk_12_45 (by decide +kernel) (fun x7 => ?_)
    refine sX_iconst (n := 2) (v := (2 : Int32)) (by decide +kernel) (by decide) ?_
    refine sX_iaload (by decide +kernel) (fun x8 => ?_)
    refine sX_icle (o := 7) (t := 65) (by decide +kernel) (by decide) (fun _ => ?_) (fun _ => ?_)
    · refine sX_iload (i := 5) (by decide +kernel) rfl ?_
      exact sX_some (fun h _ => sW_iret (by decide +kernel) rfl (hr _ h).1.symm (hr _ h).2.symm)
    · exact sX.le xB61 (sLe_n (sLe_n (sLe_n (sLe_n (sLe_n (sLe_n sLe_e))))))
def f_X12_doesShut_B78 (M : sMem) : Option (Int32 × sMem) :=
  some (((1 : Int32), M))
def f_X12_doesShut (v0 : Nat) (v1 : Int32) (v2 : Int32) (v3 : Int32) (v4 : Int32) (M0 : sMem) : Option (Int32 × sMem) :=
  sRc 12 127 M0 v0 (
    (f_X12_headOf v0 v1 v2 v4 M0).bind fun x1 =>
    if x1 = (-1 : Int32) then
      some (((0 : Int32), M0))
    else
      (f_X12_mileOf v0 v3 M0).bind fun x2 =>
      (pI 12 127 61 M0 v0 ((x2 - x1))).bind fun M3 =>
      (gR 12 127 50 M3 v0).bind fun x4 =>
      (ldI 14 M3 x4 (((15 : Int32) + ((3 : Int32) * v1)))).bind fun x5 =>
      (f_X12_mileOf v0 v3 M3).bind fun x6 =>
      (pI 12 127 62 M3 v0 (((x1 - x5) - x6))).bind fun M7 =>
      (f_X12_isTold v0 ((0 : Int32)) M7).bind fun x8 =>
      if x8 = 0 then
        (gI 12 127 61 M7 v0).bind fun x9 =>
        if (3 : Int32) ≤ x9 then
          some (((0 : Int32), M7))
        else
          (gI 12 127 62 M7 v0).bind fun x10 =>
          if (1 : Int32) ≤ x10 then
            some (((0 : Int32), M7))
          else
            f_X12_doesShut_B78 M7
      else
        (pI 12 127 63 M7 v0 v1).bind fun M11 =>
        (pI 12 127 64 M11 v0 v4).bind fun M12 =>
        (f_X12_codesTell v0 ((0 : Int32)) ((0 : Int32)) M12).bind fun (x13, M14) =>
        if x13 = (1 : Int64) then
          some (((1 : Int32), M14))
        else
          some (((0 : Int32), M14)))
set_option maxRecDepth 100000 in
set_option maxHeartbeats 4000000 in
theorem m_X12_doesShut (G : sG) (l : Launch) (v0 : Nat) (v1 : Int32) (v2 : Int32) (v3 : Int32) (v4 : Int32) (M0 : sMem) : sC G l 4 yX12_doesShut cX12_doesShut 6 (some .boolean) [.ref v0, .int v1, .int v2, .int v3, .int v4] M0 rvI (f_X12_doesShut v0 v1 v2 v3 v4 M0) := by
  refine sC_m (ls := [some (.ref v0), some (.int v1), some (.int v2), some (.int v3), some (.int v4), none]) (by decide +kernel) rfl (Nat.le_of_ble_eq_true rfl) (fun r M' K hr => ?_)
  unfold f_X12_doesShut
  have xB78 : ∀ (M : sMem), sX G l 4 yX12_doesShut cX12_doesShut 6 (some .boolean) M0 r M' 78 [none, none, none, none, none, none] [] M (f_X12_doesShut_B78 M) K := by
    intro M
    unfold f_X12_doesShut_B78
    refine sX_iconst (n := 1) (v := (1 : Int32)) (by decide +kernel) (by decide) ?_
    refine sX_goto (o := 4) (t := 83) (by decide +kernel) (by decide) ?_
    exact sX_some (fun h _ => sW_zret (by decide +kernel) rfl (by decide) (hr _ h).1.symm (hr _ h).2.symm)
  refine sX_rc ?_
  refine sX_aload_n (i := 0) (by decide +kernel) rfl ?_
  refine sX_iload_n (i := 1) (by decide +kernel) rfl ?_
  refine sX_iload_n (i := 2) (by decide +kernel) rfl ?_
  refine sX_iload (i := 4) (by decide +kernel) rfl ?_
  refine sX_callVp (As := [.int v1, .int v2, .int v4]) (by decide +kernel) lm_X12_489 mf_X12_headOf mi_X12_headOf mc_12 (m_X12_headOf G l v0 v1 v2 v4 M0) (fun _ h => sRc_some h) (by decide) rfl rfl (Nat.le_of_ble_eq_true rfl) (fun x1 => ?_)
  refine sX_istore (i := 5) (ls2 := [some (.ref v0), some (.int v1), some (.int v2), some (.int v3), some (.int v4), some (.int x1)]) (by decide +kernel) (by decide) rfl ?_
  refine sX_iload (i := 5) (by decide +kernel) rfl ?_
  refine sX_iconst (n := -1) (v := (-1 : Int32)) (by decide +kernel) (by decide) ?_
  refine sX_icne (o := 5) (t := 18) (by decide +kernel) (by decide) (fun _ => ?_) (fun _ => ?_)
  · refine sX_iconst (n := 0) (v := (0 : Int32)) (by decide +kernel) (by decide) ?_
    exact sX_some (fun h _ => sW_zret (by decide +kernel) rfl (by decide) (hr _ h).1.symm (hr _ h).2.symm)
  · refine sX_aload_n (i := 0) (by decide +kernel) rfl ?_
    refine sX_aload_n (i := 0) (by decide +kernel) rfl ?_
    refine sX_iload_n (i := 3) (by decide +kernel) rfl ?_
    refine sX_callVp (As := [.int v3]) (by decide +kernel) lm_X12_493 mf_X12_mileOf mi_X12_mileOf mc_12 (m_X12_mileOf G l v0 v3 M0) (fun _ h => sRc_some h) (by decide) rfl rfl (Nat.le_of_ble_eq_true rfl) (fun x2 => ?_)
    refine sX_iload (i := 5) (by decide +kernel) rfl ?_
    refine sX_isub (by decide +kernel) ?_
    refine sX_putI lf_X12_497 tp_12_61 (by decide +kernel) (by decide) (fun M3 => ?_)
    refine sX_aload_n (i := 0) (by decide +kernel) rfl ?_
    refine sX_iload (i := 5) (by decide +kernel) rfl ?_
    refine sX_aload_n (i := 0) (by decide +kernel) rfl ?_
    refine sX_getR lf_X12_136 tk_12_50 (by decide +kernel) (fun x4 => ?_)
    refine sX_bipush (n := 15) (v := (15 : Int32)) (by decide +kernel) (by decide) ?_
    refine sX_iconst (n := 3) (v := (3 : Int32)) (by decide +kernel) (by decide) ?_
    refine sX_iload_n (i := 1) (by decide +kernel) rfl ?_
    refine sX_imul (by decide +kernel) ?_
    refine sX_iadd (by decide +kernel) ?_
    refine sX_iaload (by decide +kernel) (fun x5 => ?_)
    refine sX_isub (by decide +kernel) ?_
    refine sX_aload_n (i := 0) (by decide +kernel) rfl ?_
    refine sX_iload_n (i := 3) (by decide +kernel) rfl ?_
    refine sX_callVp (As := [.int v3]) (by decide +kernel) lm_X12_493 mf_X12_mileOf mi_X12_mileOf mc_12 (m_X12_mileOf G l v0 v3 M3) (fun _ h => sRc_some h) (by decide) rfl rfl (Nat.le_of_ble_eq_true rfl) (fun x6 => ?_)
    refine sX_isub (by decide +kernel) ?_
    refine sX_putI lf_X12_500 tp_12_62 (by decide +kernel) (by decide) (fun M7 => ?_)
    refine sX_aload_n (i := 0) (by decide +kernel) rfl ?_
    refine sX_iconst (n := 0) (v := (0 : Int32)) (by decide +kernel) (by decide) ?_
    refine sX_callVp (As := [.int (0 : Int32)]) (by decide +kernel) lm_X12_503 mf_X12_isTold mi_X12_isTold mc_12 (m_X12_isTold G l v0 ((0 : Int32)) M7) (fun _ h => sRc_some h) (by decide) rfl rfl (Nat.le_of_ble_eq_true rfl) (fun x8 => ?_)
    refine sX_ifne (o := 25) (t := 84) (by decide +kernel) (by decide) (fun _ => ?_) (fun _ => ?_)
    · refine sX_aload_n (i := 0) (by decide +kernel) rfl ?_
      refine sX_getI lf_X12_497 tk_12_61 (by decide +kernel) (fun x9 => ?_)
      refine sX_iconst (n := 3) (v := (3 : Int32)) (by decide +kernel) (by decide) ?_
      refine sX_icge (o := 15) (t := 82) (by decide +kernel) (by decide) (fun _ => ?_) (fun _ => ?_)
      · refine sX_iconst (n := 0) (v := (0 : Int32)) (by decide +kernel) (by decide) ?_
        exact sX_some (fun h _ => sW_zret (by decide +kernel) rfl (by decide) (hr _ h).1.symm (hr _ h).2.symm)
      · refine sX_aload_n (i := 0) (by decide +kernel) rfl ?_
        refine sX_getI lf_X12_500 tk_12_62 (by decide +kernel) (fun x10 => ?_)
        refine sX_iconst (n := 1) (v := (1 : Int32)) (by decide +kernel) (by decide) ?_
        refine sX_icge (o := 7) (t := 82) (by decide +kernel) (by decide) (fun _ => ?_) (fun _ => ?_)
        · refine sX_iconst (n := 0) (v := (0 : Int32)) (by decide +kernel) (by decide) ?_
          exact sX_some (fun h _ => sW_zret (by decide +kernel) rfl (by decide) (hr _ h).1.symm (hr _ h).2.symm)
        · exact sX.le (xB78 M7) (sLe_n (sLe_n (sLe_n (sLe_n (sLe_n (sLe_n sLe_e))))))
    · refine sX_aload_n (i := 0) (by decide +kernel) rfl ?_
      refine sX_iload_n (i := 1) (by decide +kernel) rfl ?_
      refine sX_putI lf_X12_506 tp_12_63 (by decide +kernel) (by decide) (fun M11 => ?_)
      refine sX_aload_n (i := 0) (by decide +kernel) rfl ?_
      refine sX_iload (i := 4) (by decide +kernel) rfl ?_
      refine sX_putI lf_X12_509 tp_12_64 (by decide +kernel) (by decide) (fun M12 => ?_)
      refine sX_aload_n (i := 0) (by decide +kernel) rfl ?_
      refine sX_iconst (n := 0) (v := (0 : Int32)) (by decide +kernel) (by decide) ?_
      refine sX_iconst (n := 0) (v := (0 : Int32)) (by decide +kernel) (by decide) ?_
      refine sX_callV (As := [.int (0 : Int32), .int (0 : Int32)]) (by decide +kernel) lm_X12_512 mf_X12_codesTell mi_X12_codesTell mc_12 (m_X12_codesTell G l v0 ((0 : Int32)) ((0 : Int32)) M12) (fun _ h => sRc_some h) (by decide) rfl rfl (Nat.le_of_ble_eq_true rfl) (fun x13 M14 _ => ?_)
      refine sX_lconst (n := 1) (v := (1 : Int64)) (by decide +kernel) (by decide) ?_
      refine sX_lcne (o := 7) (t := 110) (by decide +kernel) (by decide +kernel) (by decide) (fun _ => ?_) (fun _ => ?_)
      · refine sX_iconst (n := 1) (v := (1 : Int32)) (by decide +kernel) (by decide) ?_
        refine sX_goto (o := 4) (t := 111) (by decide +kernel) (by decide) ?_
        exact sX_some (fun h _ => sW_zret (by decide +kernel) rfl (by decide) (hr _ h).1.symm (hr _ h).2.symm)
      · refine sX_iconst (n := 0) (v := (0 : Int32)) (by decide +kernel) (by decide) ?_
        exact sX_some (fun h _ => sW_zret (by decide +kernel) rfl (by decide) (hr _ h).1.symm (hr _ h).2.symm)
def f_X12_laysShutBut_B95 (v0 : Nat) (v1 : Int32) (v2 : Int32) (M : sMem) : Option ((Int32 × sMem) ⊕ ((sMem))) :=
  some (.inl ((((v2 + (1 : Int32))), M)))
def f_X12_laysShutBut_B75 (v0 : Nat) (v1 : Int32) (v2 : Int32) (v3 : Int32) (v4 : Int32) (M : sMem) : Option ((Int32 × sMem) ⊕ ((sMem))) :=
  (gR 12 127 68 M v0).bind fun x1 =>
  (stZ M x1 ((((200 : Int32) * v2) + v3)) v4).bind fun M2 =>
  some (.inl ((((v3 + (1 : Int32))), M2)))
def f_X12_laysShutBut_B67 (v0 : Nat) (v1 : Int32) (v2 : Int32) (v3 : Int32) (v5 : Int32) (s0 : Int32) (M : sMem) : Option ((Int32 × Int32 × sMem) ⊕ ((Int32 × sMem))) :=
  some (.inl ((s0, ((v5 + (1 : Int32))), M)))
def f_X12_laysShutBut_B66 (v0 : Nat) (v1 : Int32) (v2 : Int32) (v3 : Int32) (v5 : Int32) (M : sMem) : Option ((Int32 × Int32 × sMem) ⊕ ((Int32 × sMem))) :=
  f_X12_laysShutBut_B67 v0 v1 v2 v3 v5 ((0 : Int32)) M
def f_X12_laysShutBut_K25 (v0 : Nat) (v1 : Int32) (v2 : Int32) (v3 : Int32) (v4 : Int32) (v5 : Int32) (M : sMem) : Option ((Int32 × Int32 × sMem) ⊕ ((Int32 × sMem))) :=
  (f_X12_eraMany v0 M).bind fun x3 =>
  if x3 ≤ v5 then
    some (.inr ((v4, M)))
  else
    if v4 = 0 then
      if v5 = v1 then
        f_X12_laysShutBut_B66 v0 v1 v2 v3 v5 M
      else
        (f_X12_lateOf v0 v5 M).bind fun x4 =>
        (f_X12_doesShut v0 v5 x4 v2 v3 M).bind fun (x5, M6) =>
        if x5 = 0 then
          f_X12_laysShutBut_B66 v0 v1 v2 v3 v5 M6
        else
          f_X12_laysShutBut_B67 v0 v1 v2 v3 v5 ((1 : Int32)) M6
    else
      some (.inr ((v4, M)))
def f_X12_laysShutBut_L25 (v0 : Nat) (v1 : Int32) (v2 : Int32) (v3 : Int32) (v4 : Int32) (v5 : Int32) (M : sMem) : Option ((Int32 × sMem) ⊕ ((sMem))) :=
  (sItr (fun a : (Int32 × Int32 × sMem) => f_X12_laysShutBut_K25 v0 v1 v2 v3 a.1 a.2.1 a.2.2) sFuel (v4, v5, M)).bind (fun b => f_X12_laysShutBut_B75 v0 v1 v2 v3 b.1 b.2)
def f_X12_laysShutBut_K12 (v0 : Nat) (v1 : Int32) (v2 : Int32) (v3 : Int32) (M : sMem) : Option ((Int32 × sMem) ⊕ ((sMem))) :=
  if (200 : Int32) ≤ v3 then
    some (.inr M)
  else
    f_X12_laysShutBut_L25 v0 v1 v2 v3 ((0 : Int32)) ((0 : Int32)) M
def f_X12_laysShutBut_L12 (v0 : Nat) (v1 : Int32) (v2 : Int32) (v3 : Int32) (M : sMem) : Option ((Int32 × sMem) ⊕ ((sMem))) :=
  (sItr (fun a : (Int32 × sMem) => f_X12_laysShutBut_K12 v0 v1 v2 a.1 a.2) sFuel (v3, M)).bind (fun b => f_X12_laysShutBut_B95 v0 v1 v2 b)
def f_X12_laysShutBut_K2 (v0 : Nat) (v1 : Int32) (v2 : Int32) (M : sMem) : Option ((Int32 × sMem) ⊕ ((sMem))) :=
  (f_X12_gateMany v0 M).bind fun x7 =>
  if x7 ≤ v2 then
    some (.inr M)
  else
    f_X12_laysShutBut_L12 v0 v1 v2 ((0 : Int32)) M
def f_X12_laysShutBut_L2 (v0 : Nat) (v1 : Int32) (v2 : Int32) (M : sMem) : Option sMem :=
  (sItr (fun a : (Int32 × sMem) => f_X12_laysShutBut_K2 v0 v1 a.1 a.2) sFuel (v2, M)).bind (fun b => some b)
def f_X12_laysShutBut (v0 : Nat) (v1 : Int32) (M0 : sMem) : Option sMem :=
  sRc 12 127 M0 v0 (
    f_X12_laysShutBut_L2 v0 v1 ((0 : Int32)) M0)
set_option maxRecDepth 100000 in
set_option maxHeartbeats 4000000 in
theorem m_X12_laysShutBut (G : sG) (l : Launch) (v0 : Nat) (v1 : Int32) (M0 : sMem) : sCv G l 5 yX12_laysShutBut cX12_laysShutBut 6 none [.ref v0, .int v1] M0 (f_X12_laysShutBut v0 v1 M0) := by
  refine sC_v (ls := [some (.ref v0), some (.int v1), none, none, none, none]) (by decide +kernel) rfl (Nat.le_of_ble_eq_true rfl) (fun r M' K hr => ?_)
  unfold f_X12_laysShutBut
  have xL2 : ∀ (v0 : Nat) (v1 : Int32) (v2 : Int32) (M : sMem), sX G l 5 yX12_laysShutBut cX12_laysShutBut 6 none M0 r M' 2 [some (.ref v0), some (.int v1), some (.int v2), none, none, none] [] M (f_X12_laysShutBut_L2 v0 v1 v2 M) K := by
    intro v0 v1 v2 M
    unfold f_X12_laysShutBut_L2
    refine sX_bind ?_
    refine sX_loop (LS := fun a : (Int32 × sMem) => [some (.ref v0), some (.int v1), some (.int a.1), none, none, none]) (MM := fun a => a.2) (fun K1 hb1 he1 => ?_) sFuel ((v2, M))
    have xB95 : ∀ (v2 : Int32) (M : sMem), sX G l 5 yX12_laysShutBut cX12_laysShutBut 6 none M0 r M' 95 [some (.ref v0), some (.int v1), some (.int v2), none, none, none] [] M (f_X12_laysShutBut_B95 v0 v1 v2 M) K1 := by
      intro v2 M
      unfold f_X12_laysShutBut_B95
      refine sX_iinc (i := 2) (n := 1) (v := v2 + (1 : Int32)) (ls2 := [some (.ref v0), some (.int v1), some (.int (v2 + (1 : Int32))), none, none, none]) (by decide +kernel) rfl rfl (by decide) rfl ?_
      refine sX_goto (o := -96) (t := 2) (by decide +kernel) (by decide) ?_
      exact sX_back (a := (((v2 + (1 : Int32))), M)) hb1 rfl (sLe_s (sLe_s (sLe_s (sLe_n (sLe_n (sLe_n sLe_e))))))
    have xL12 : ∀ (v2 : Int32) (v3 : Int32) (M : sMem), sX G l 5 yX12_laysShutBut cX12_laysShutBut 6 none M0 r M' 12 [some (.ref v0), some (.int v1), some (.int v2), some (.int v3), none, none] [] M (f_X12_laysShutBut_L12 v0 v1 v2 v3 M) K1 := by
      intro v2 v3 M
      unfold f_X12_laysShutBut_L12
      refine sX_bind ?_
      refine sX_loop (LS := fun a : (Int32 × sMem) => [some (.ref v0), some (.int v1), some (.int v2), some (.int a.1), none, none]) (MM := fun a => a.2) (fun K2 hb2 he2 => ?_) sFuel ((v3, M))
      have xB75 : ∀ (v3 : Int32) (v4 : Int32) (M : sMem), sX G l 5 yX12_laysShutBut cX12_laysShutBut 6 none M0 r M' 75 [some (.ref v0), some (.int v1), some (.int v2), some (.int v3), some (.int v4), none] [] M (f_X12_laysShutBut_B75 v0 v1 v2 v3 v4 M) K2 := by
        intro v3 v4 M
        unfold f_X12_laysShutBut_B75
        refine sX_aload_n (i := 0) (by decide +kernel) rfl ?_
        refine sX_getR lf_X12_163 tk_12_68 (by decide +kernel) (fun x1 => ?_)
        refine sX_sipush (n := 200) (v := (200 : Int32)) (by decide +kernel) (by decide) ?_
        refine sX_iload_n (i := 2) (by decide +kernel) rfl ?_
        refine sX_imul (by decide +kernel) ?_
        refine sX_iload_n (i := 3) (by decide +kernel) rfl ?_
        refine sX_iadd (by decide +kernel) ?_
        refine sX_iload (i := 4) (by decide +kernel) rfl ?_
        refine sX_bastore (by decide +kernel) (by decide) (fun M2 => ?_)
        refine sX_iinc (i := 3) (n := 1) (v := v3 + (1 : Int32)) (ls2 := [some (.ref v0), some (.int v1), some (.int v2), some (.int (v3 + (1 : Int32))), some (.int v4), none]) (by decide +kernel) rfl rfl (by decide) rfl ?_
        refine sX_goto (o := -80) (t := 12) (by decide +kernel) (by decide) ?_
        exact sX_back (a := (((v3 + (1 : Int32))), M2)) hb2 rfl (sLe_s (sLe_s (sLe_s (sLe_s (sLe_n (sLe_n sLe_e))))))
      have xL25 : ∀ (v3 : Int32) (v4 : Int32) (v5 : Int32) (M : sMem), sX G l 5 yX12_laysShutBut cX12_laysShutBut 6 none M0 r M' 25 [some (.ref v0), some (.int v1), some (.int v2), some (.int v3), some (.int v4), some (.int v5)] [] M (f_X12_laysShutBut_L25 v0 v1 v2 v3 v4 v5 M) K2 := by
        intro v3 v4 v5 M
        unfold f_X12_laysShutBut_L25
        refine sX_bind ?_
        refine sX_loop (LS := fun a : (Int32 × Int32 × sMem) => [some (.ref v0), some (.int v1), some (.int v2), some (.int v3), some (.int a.1), some (.int a.2.1)]) (MM := fun a => a.2.2) (fun K3 hb3 he3 => ?_) sFuel ((v4, v5, M))
        have xB67 : ∀ (v5 : Int32) (s0 : Int32) (M : sMem), sX G l 5 yX12_laysShutBut cX12_laysShutBut 6 none M0 r M' 67 [some (.ref v0), some (.int v1), some (.int v2), some (.int v3), none, some (.int v5)] [.int s0] M (f_X12_laysShutBut_B67 v0 v1 v2 v3 v5 s0 M) K3 := by
          intro v5 s0 M
          unfold f_X12_laysShutBut_B67
          refine sX_istore (i := 4) (ls2 := [some (.ref v0), some (.int v1), some (.int v2), some (.int v3), some (.int s0), some (.int v5)]) (by decide +kernel) (by decide) rfl ?_
          refine sX_iinc (i := 5) (n := 1) (v := v5 + (1 : Int32)) (ls2 := [some (.ref v0), some (.int v1), some (.int v2), some (.int v3), some (.int s0), some (.int (v5 + (1 : Int32)))]) (by decide +kernel) rfl rfl (by decide) rfl ?_
          refine sX_goto (o := -47) (t := 25) (by decide +kernel) (by decide) ?_
          exact sX_back (a := (s0, ((v5 + (1 : Int32))), M)) hb3 rfl (sLe_s (sLe_s (sLe_s (sLe_s (sLe_s (sLe_s sLe_e))))))
        have xB66 : ∀ (v5 : Int32) (M : sMem), sX G l 5 yX12_laysShutBut cX12_laysShutBut 6 none M0 r M' 66 [some (.ref v0), some (.int v1), some (.int v2), some (.int v3), none, some (.int v5)] [] M (f_X12_laysShutBut_B66 v0 v1 v2 v3 v5 M) K3 := by
          intro v5 M
          unfold f_X12_laysShutBut_B66
          refine sX_iconst (n := 0) (v := (0 : Int32)) (by decide +kernel) (by decide) ?_
          exact sX.le (xB67 v5 ((0 : Int32)) M) (sLe_s (sLe_s (sLe_s (sLe_s (sLe_n (sLe_s sLe_e))))))
        have xK25 : ∀ (v4 : Int32) (v5 : Int32) (M : sMem), sX G l 5 yX12_laysShutBut cX12_laysShutBut 6 none M0 r M' 25 [some (.ref v0), some (.int v1), some (.int v2), some (.int v3), some (.int v4), some (.int v5)] [] M (f_X12_laysShutBut_K25 v0 v1 v2 v3 v4 v5 M) K3 := by
          intro v4 v5 M
          unfold f_X12_laysShutBut_K25
          refine sX_iload (i := 5) (by decide +kernel) rfl ?_
          refine sX_aload_n (i := 0) (by decide +kernel) rfl ?_
          refine sX_callVp (As := []) (by decide +kernel) lm_X12_466 mf_X12_eraMany mi_X12_eraMany mc_12 (m_X12_eraMany G l v0 M) (fun _ h => sRc_some h) (by decide) rfl rfl (Nat.le_of_ble_eq_true rfl) (fun x3 => ?_)
          refine sX_icge (o := 44) (t := 75) (by decide +kernel) (by decide) (fun _ => ?_) (fun _ => ?_)
          · refine sX_exit he3 ?_
            exact sX.le (xB75 v3 v4 M) (sLe_s (sLe_s (sLe_s (sLe_s (sLe_s (sLe_n sLe_e))))))
          · refine sX_iload (i := 4) (by decide +kernel) rfl ?_
            refine sX_ifne (o := 39) (t := 75) (by decide +kernel) (by decide) (fun _ => ?_) (fun _ => ?_)
            · refine sX_iload (i := 5) (by decide +kernel) rfl ?_
              refine sX_iload_n (i := 1) (by decide +kernel) rfl ?_
              refine sX_iceq (o := 24) (t := 66) (by decide +kernel) (by decide) (fun _ => ?_) (fun _ => ?_)
              · exact sX.le (xB66 v5 M) (sLe_s (sLe_s (sLe_s (sLe_s (sLe_n (sLe_s sLe_e))))))
              · refine sX_aload_n (i := 0) (by decide +kernel) rfl ?_
                refine sX_iload (i := 5) (by decide +kernel) rfl ?_
                refine sX_aload_n (i := 0) (by decide +kernel) rfl ?_
                refine sX_iload (i := 5) (by decide +kernel) rfl ?_
                refine sX_callVp (As := [.int v5]) (by decide +kernel) lm_X12_515 mf_X12_lateOf mi_X12_lateOf mc_12 (m_X12_lateOf G l v0 v5 M) (fun _ h => sRc_some h) (by decide) rfl rfl (Nat.le_of_ble_eq_true rfl) (fun x4 => ?_)
                refine sX_iload_n (i := 2) (by decide +kernel) rfl ?_
                refine sX_iload_n (i := 3) (by decide +kernel) rfl ?_
                refine sX_callV (As := [.int v5, .int x4, .int v2, .int v3]) (by decide +kernel) lm_X12_518 mf_X12_doesShut mi_X12_doesShut mc_12 (m_X12_doesShut G l v0 v5 x4 v2 v3 M) (fun _ h => sRc_some h) (by decide) rfl rfl (Nat.le_of_ble_eq_true rfl) (fun x5 M6 _ => ?_)
                refine sX_ifeq (o := 7) (t := 66) (by decide +kernel) (by decide) (fun _ => ?_) (fun _ => ?_)
                · exact sX.le (xB66 v5 M6) (sLe_s (sLe_s (sLe_s (sLe_s (sLe_n (sLe_s sLe_e))))))
                · refine sX_iconst (n := 1) (v := (1 : Int32)) (by decide +kernel) (by decide) ?_
                  refine sX_goto (o := 4) (t := 67) (by decide +kernel) (by decide) ?_
                  exact sX.le (xB67 v5 ((1 : Int32)) M6) (sLe_s (sLe_s (sLe_s (sLe_s (sLe_n (sLe_s sLe_e))))))
            · refine sX_exit he3 ?_
              exact sX.le (xB75 v3 v4 M) (sLe_s (sLe_s (sLe_s (sLe_s (sLe_s (sLe_n sLe_e))))))
        exact fun a => xK25 a.1 a.2.1 a.2.2
      have xK12 : ∀ (v3 : Int32) (M : sMem), sX G l 5 yX12_laysShutBut cX12_laysShutBut 6 none M0 r M' 12 [some (.ref v0), some (.int v1), some (.int v2), some (.int v3), none, none] [] M (f_X12_laysShutBut_K12 v0 v1 v2 v3 M) K2 := by
        intro v3 M
        unfold f_X12_laysShutBut_K12
        refine sX_iload_n (i := 3) (by decide +kernel) rfl ?_
        refine sX_sipush (n := 200) (v := (200 : Int32)) (by decide +kernel) (by decide) ?_
        refine sX_icge (o := 79) (t := 95) (by decide +kernel) (by decide) (fun _ => ?_) (fun _ => ?_)
        · refine sX_exit he2 ?_
          exact sX.le (xB95 v2 M) (sLe_s (sLe_s (sLe_s (sLe_n (sLe_n (sLe_n sLe_e))))))
        · refine sX_iconst (n := 0) (v := (0 : Int32)) (by decide +kernel) (by decide) ?_
          refine sX_istore (i := 4) (ls2 := [some (.ref v0), some (.int v1), some (.int v2), some (.int v3), some (.int (0 : Int32)), none]) (by decide +kernel) (by decide) rfl ?_
          refine sX_iconst (n := 0) (v := (0 : Int32)) (by decide +kernel) (by decide) ?_
          refine sX_istore (i := 5) (ls2 := [some (.ref v0), some (.int v1), some (.int v2), some (.int v3), some (.int (0 : Int32)), some (.int (0 : Int32))]) (by decide +kernel) (by decide) rfl ?_
          exact sX.le (xL25 v3 ((0 : Int32)) ((0 : Int32)) M) (sLe_s (sLe_s (sLe_s (sLe_s (sLe_s (sLe_s sLe_e))))))
      exact fun a => xK12 a.1 a.2
    have xK2 : ∀ (v2 : Int32) (M : sMem), sX G l 5 yX12_laysShutBut cX12_laysShutBut 6 none M0 r M' 2 [some (.ref v0), some (.int v1), some (.int v2), none, none, none] [] M (f_X12_laysShutBut_K2 v0 v1 v2 M) K1 := by
      intro v2 M
      unfold f_X12_laysShutBut_K2
      refine sX_iload_n (i := 2) (by decide +kernel) rfl ?_
      refine sX_aload_n (i := 0) (by decide +kernel) rfl ?_
      refine sX_callVp (As := []) (by decide +kernel) lm_X12_460 mf_X12_gateMany mi_X12_gateMany mc_12 (m_X12_gateMany G l v0 M) (fun _ h => sRc_some h) (by decide) rfl rfl (Nat.le_of_ble_eq_true rfl) (fun x7 => ?_)
      refine sX_icge (o := 94) (t := 101) (by decide +kernel) (by decide) (fun _ => ?_) (fun _ => ?_)
      · refine sX_exit he1 ?_
        exact sX_some (fun h _ => sW_vret (by decide +kernel) rfl (hr _ h).1.symm (hr _ h).2.symm)
      · refine sX_iconst (n := 0) (v := (0 : Int32)) (by decide +kernel) (by decide) ?_
        refine sX_istore_n (i := 3) (ls2 := [some (.ref v0), some (.int v1), some (.int v2), some (.int (0 : Int32)), none, none]) (by decide +kernel) (by decide) rfl ?_
        exact sX.le (xL12 v2 ((0 : Int32)) M) (sLe_s (sLe_s (sLe_s (sLe_s (sLe_n (sLe_n sLe_e))))))
    exact fun a => xK2 a.1 a.2
  refine sX_rc ?_
  refine sX_iconst (n := 0) (v := (0 : Int32)) (by decide +kernel) (by decide) ?_
  refine sX_istore_n (i := 2) (ls2 := [some (.ref v0), some (.int v1), some (.int (0 : Int32)), none, none, none]) (by decide +kernel) (by decide) rfl ?_
  exact sX.le (xL2 v0 v1 ((0 : Int32)) M0) (sLe_s (sLe_s (sLe_s (sLe_n (sLe_n (sLe_n sLe_e))))))
def f_X12_laysShut (v0 : Nat) (M0 : sMem) : Option sMem :=
  sRc 12 127 M0 v0 (
    (f_X12_laysShutBut v0 ((-1 : Int32)) M0).bind fun M1 =>
    some M1)
set_option maxRecDepth 100000 in
set_option maxHeartbeats 4000000 in
theorem m_X12_laysShut (G : sG) (l : Launch) (v0 : Nat) (M0 : sMem) : sCv G l 6 yX12_laysShut cX12_laysShut 1 none [.ref v0] M0 (f_X12_laysShut v0 M0) := by
  refine sC_v (ls := [some (.ref v0)]) (by decide +kernel) rfl (Nat.le_of_ble_eq_true rfl) (fun r M' K hr => ?_)
  unfold f_X12_laysShut
  refine sX_rc ?_
  refine sX_aload_n (i := 0) (by decide +kernel) rfl ?_
  refine sX_iconst (n := -1) (v := (-1 : Int32)) (by decide +kernel) (by decide) ?_
  refine sX_callVv (As := [.int (-1 : Int32)]) (by decide +kernel) lm_X12_522 mf_X12_laysShutBut mi_X12_laysShutBut mc_12 (m_X12_laysShutBut G l v0 ((-1 : Int32)) M0) (fun _ h => sRc_some h) (by decide) rfl rfl (Nat.le_of_ble_eq_true rfl) (fun M1 => ?_)
  exact sX_some (fun h _ => sW_vret (by decide +kernel) rfl (hr _ h).1.symm (hr _ h).2.symm)
def f_X12_isClosed (v0 : Nat) (v1 : Int32) (v2 : Int32) (M0 : sMem) : Option Int32 :=
  sRc 12 127 M0 v0 (
    (f_X12_isUp v0 v1 M0).bind fun x1 =>
    if x1 = 0 then
      (gR 12 127 68 M0 v0).bind fun x2 =>
      (ldI 16 M0 x2 ((((200 : Int32) * v1) + v2))).bind fun x3 =>
      if x3 = 0 then
        some ((0 : Int32))
      else
        some ((1 : Int32))
    else
      some ((0 : Int32)))
set_option maxRecDepth 100000 in
set_option maxHeartbeats 4000000 in
theorem m_X12_isClosed (G : sG) (l : Launch) (v0 : Nat) (v1 : Int32) (v2 : Int32) (M0 : sMem) : sCp G l 2 yX12_isClosed cX12_isClosed 3 (some .boolean) [.ref v0, .int v1, .int v2] M0 rvI (f_X12_isClosed v0 v1 v2 M0) := by
  refine sC_p (ls := [some (.ref v0), some (.int v1), some (.int v2)]) (by decide +kernel) rfl (Nat.le_of_ble_eq_true rfl) (fun r M' K hr => ?_)
  unfold f_X12_isClosed
  refine sX_rc ?_
  refine sX_aload_n (i := 0) (by decide +kernel) rfl ?_
  refine sX_iload_n (i := 1) (by decide +kernel) rfl ?_
  refine sX_callVp (As := [.int v1]) (by decide +kernel) lm_X12_472 mf_X12_isUp mi_X12_isUp mc_12 (m_X12_isUp G l v0 v1 M0) (fun _ h => sRc_some h) (by decide) rfl rfl (Nat.le_of_ble_eq_true rfl) (fun x1 => ?_)
  refine sX_ifne (o := 22) (t := 27) (by decide +kernel) (by decide) (fun _ => ?_) (fun _ => ?_)
  · refine sX_aload_n (i := 0) (by decide +kernel) rfl ?_
    refine sX_getR lf_X12_163 tk_12_68 (by decide +kernel) (fun x2 => ?_)
    refine sX_sipush (n := 200) (v := (200 : Int32)) (by decide +kernel) (by decide) ?_
    refine sX_iload_n (i := 1) (by decide +kernel) rfl ?_
    refine sX_imul (by decide +kernel) ?_
    refine sX_iload_n (i := 2) (by decide +kernel) rfl ?_
    refine sX_iadd (by decide +kernel) ?_
    refine sX_baload (by decide +kernel) (fun x3 => ?_)
    refine sX_ifeq (o := 7) (t := 27) (by decide +kernel) (by decide) (fun _ => ?_) (fun _ => ?_)
    · refine sX_iconst (n := 0) (v := (0 : Int32)) (by decide +kernel) (by decide) ?_
      exact sX_some (fun h _ => sW_zret (by decide +kernel) rfl (by decide) (hr _ h).1.symm (hr _ h).2.symm)
    · refine sX_iconst (n := 1) (v := (1 : Int32)) (by decide +kernel) (by decide) ?_
      refine sX_goto (o := 4) (t := 28) (by decide +kernel) (by decide) ?_
      exact sX_some (fun h _ => sW_zret (by decide +kernel) rfl (by decide) (hr _ h).1.symm (hr _ h).2.symm)
  · refine sX_iconst (n := 0) (v := (0 : Int32)) (by decide +kernel) (by decide) ?_
    exact sX_some (fun h _ => sW_zret (by decide +kernel) rfl (by decide) (hr _ h).1.symm (hr _ h).2.symm)
