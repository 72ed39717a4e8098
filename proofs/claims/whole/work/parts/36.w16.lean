def f_X12_reaches (v0 : Nat) (v1 : Int32) (v2 : Int32) (M0 : sMem) : Option sMem :=
  sRc 12 127 M0 v0 (
    if (200 : Int32) ≤ v2 then
      some M0
    else
      (gR 12 127 69 M0 v0).bind fun x1 =>
      (stZ M0 x1 ((((7 : Int32) * v2) + v1)) ((1 : Int32))).bind fun M2 =>
      some M2)
set_option maxRecDepth 100000 in
set_option maxHeartbeats 4000000 in
theorem m_X12_reaches (G : sG) (l : Launch) (v0 : Nat) (v1 : Int32) (v2 : Int32) (M0 : sMem) : sCv G l 1 yX12_reaches cX12_reaches 3 none [.ref v0, .int v1, .int v2] M0 (f_X12_reaches v0 v1 v2 M0) := by
  refine sC_v (ls := [some (.ref v0), some (.int v1), some (.int v2)]) (by decide +kernel) rfl (Nat.le_of_ble_eq_true rfl) (fun r M' K hr => ?_)
  unfold f_X12_reaches
  refine sX_rc ?_
  refine sX_iload_n (i := 2) (by decide +kernel) rfl ?_
  refine sX_sipush (n := 200) (v := (200 : Int32)) (by decide +kernel) (by decide) ?_
  refine sX_icge (o := 15) (t := 19) (by decide +kernel) (by decide) (fun _ => ?_) (fun _ => ?_)
  · exact sX_some (fun h _ => sW_vret (by decide +kernel) rfl (hr _ h).1.symm (hr _ h).2.symm)
  · refine sX_aload_n (i := 0) (by decide +kernel) rfl ?_
    refine sX_getR lf_X12_167 tk_12_69 (by decide +kernel) (fun x1 => ?_)
    refine sX_bipush (n := 7) (v := (7 : Int32)) (by decide +kernel) (by decide) ?_
    refine sX_iload_n (i := 2) (by decide +kernel) rfl ?_
    refine sX_imul (by decide +kernel) ?_
    refine sX_iload_n (i := 1) (by decide +kernel) rfl ?_
    refine sX_iadd (by decide +kernel) ?_
    refine sX_iconst (n := 1) (v := (1 : Int32)) (by decide +kernel) (by decide) ?_
    refine sX_bastore (by decide +kernel) (by decide) (fun M2 => ?_)
    exact sX_some (fun h _ => sW_vret (by decide +kernel) rfl (hr _ h).1.symm (hr _ h).2.symm)
def f_X12_goesAlong_B89 (v0 : Nat) (v1 : Int32) (v2 : Int32) (v3 : Int32) (M : sMem) : Option sMem :=
  (gR 12 127 49 M v0).bind fun x1 =>
  (ldI 14 M x1 (((49 : Int32) + ((4 : Int32) * v1)))).bind fun x2 =>
  if x2 = v2 then
    (gR 12 127 49 M v0).bind fun x3 =>
    (ldI 14 M x3 (((48 : Int32) + ((4 : Int32) * v1)))).bind fun x4 =>
    (gR 12 127 49 M v0).bind fun x5 =>
    (ldI 14 M x5 (((50 : Int32) + ((4 : Int32) * v1)))).bind fun x6 =>
    (f_X12_reaches v0 x4 ((v3 + x6)) M).bind fun M7 =>
    some M7
  else
    some M
def f_X12_goesAlong_B46 (v0 : Nat) (v1 : Int32) (v2 : Int32) (v3 : Int32) (M : sMem) : Option sMem :=
  (gR 12 127 49 M v0).bind fun x8 =>
  (ldI 14 M x8 (((48 : Int32) + ((4 : Int32) * v1)))).bind fun x9 =>
  if x9 = v2 then
    (gR 12 127 49 M v0).bind fun x10 =>
    (ldI 14 M x10 (((49 : Int32) + ((4 : Int32) * v1)))).bind fun x11 =>
    (gR 12 127 49 M v0).bind fun x12 =>
    (ldI 14 M x12 (((50 : Int32) + ((4 : Int32) * v1)))).bind fun x13 =>
    (f_X12_reaches v0 x11 ((v3 + x13)) M).bind fun M14 =>
    f_X12_goesAlong_B89 v0 v1 v2 v3 M14
  else
    f_X12_goesAlong_B89 v0 v1 v2 v3 M
def f_X12_goesAlong (v0 : Nat) (v1 : Int32) (v2 : Int32) (v3 : Int32) (v4 : Int32) (M0 : sMem) : Option sMem :=
  sRc 12 127 M0 v0 (
    (gR 12 127 49 M0 v0).bind fun x15 =>
    (ldI 14 M0 x15 (((51 : Int32) + ((4 : Int32) * v1)))).bind fun x16 =>
    if x16 = (-1 : Int32) then
      f_X12_goesAlong_B46 v0 v1 v2 v3 M0
    else
      if ((v4 >>> (x16 &&& 31)) &&& (1 : Int32)) = 0 then
        (gR 12 127 68 M0 v0).bind fun x17 =>
        (ldI 16 M0 x17 ((((200 : Int32) * x16) + v3))).bind fun x18 =>
        if x18 = 0 then
          f_X12_goesAlong_B46 v0 v1 v2 v3 M0
        else
          some M0
      else
        f_X12_goesAlong_B46 v0 v1 v2 v3 M0)
set_option maxRecDepth 100000 in
set_option maxHeartbeats 4000000 in
theorem m_X12_goesAlong (G : sG) (l : Launch) (v0 : Nat) (v1 : Int32) (v2 : Int32) (v3 : Int32) (v4 : Int32) (M0 : sMem) : sCv G l 2 yX12_goesAlong cX12_goesAlong 6 none [.ref v0, .int v1, .int v2, .int v3, .int v4] M0 (f_X12_goesAlong v0 v1 v2 v3 v4 M0) := by
  refine sC_v (ls := [some (.ref v0), some (.int v1), some (.int v2), some (.int v3), some (.int v4), none]) (by decide +kernel) rfl (Nat.le_of_ble_eq_true rfl) (fun r M' K hr => ?_)
  unfold f_X12_goesAlong
  have xB89 : ∀ (v0 : Nat) (v1 : Int32) (v2 : Int32) (v3 : Int32) (M : sMem), sX G l 2 yX12_goesAlong cX12_goesAlong 6 none M0 r M' 89 [some (.ref v0), some (.int v1), some (.int v2), some (.int v3), none, none] [] M (f_X12_goesAlong_B89 v0 v1 v2 v3 M) K := by
    intro v0 v1 v2 v3 M
    unfold f_X12_goesAlong_B89
    refine sX_aload_n (i := 0) (by decide +kernel) rfl ?_
    refine sX_getR lf_X12_133 tk_12_49 (by decide +kernel) (fun x1 => ?_)
    refine sX_bipush (n := 49) (v := (49 : Int32)) (by decide +kernel) (by decide) ?_
    refine sX_iconst (n := 4) (v := (4 : Int32)) (by decide +kernel) (by decide) ?_
    refine sX_iload_n (i := 1) (by decide +kernel) rfl ?_
    refine sX_imul (by decide +kernel) ?_
    refine sX_iadd (by decide +kernel) ?_
    refine sX_iaload (by decide +kernel) (fun x2 => ?_)
    refine sX_iload_n (i := 2) (by decide +kernel) rfl ?_
    refine sX_icne (o := 31) (t := 132) (by decide +kernel) (by decide) (fun _ => ?_) (fun _ => ?_)
    · refine sX_aload_n (i := 0) (by decide +kernel) rfl ?_
      refine sX_aload_n (i := 0) (by decide +kernel) rfl ?_
      refine sX_getR lf_X12_133 tk_12_49 (by decide +kernel) (fun x3 => ?_)
      refine sX_bipush (n := 48) (v := (48 : Int32)) (by decide +kernel) (by decide) ?_
      refine sX_iconst (n := 4) (v := (4 : Int32)) (by decide +kernel) (by decide) ?_
      refine sX_iload_n (i := 1) (by decide +kernel) rfl ?_
      refine sX_imul (by decide +kernel) ?_
      refine sX_iadd (by decide +kernel) ?_
      refine sX_iaload (by decide +kernel) (fun x4 => ?_)
      refine sX_iload_n (i := 3) (by decide +kernel) rfl ?_
      refine sX_aload_n (i := 0) (by decide +kernel) rfl ?_
      refine sX_getR lf_X12_133 tk_12_49 (by decide +kernel) (fun x5 => ?_)
      refine sX_bipush (n := 50) (v := (50 : Int32)) (by decide +kernel) (by decide) ?_
      refine sX_iconst (n := 4) (v := (4 : Int32)) (by decide +kernel) (by decide) ?_
      refine sX_iload_n (i := 1) (by decide +kernel) rfl ?_
      refine sX_imul (by decide +kernel) ?_
      refine sX_iadd (by decide +kernel) ?_
      refine sX_iaload (by decide +kernel) (fun x6 => ?_)
      refine sX_iadd (by decide +kernel) ?_
      refine sX_callVv (As := [.int x4, .int (v3 + x6)]) (by decide +kernel) lm_X12_525 mf_X12_reaches mi_X12_reaches mc_12 (m_X12_reaches G l v0 x4 ((v3 + x6)) M) (fun _ h => sRc_some h) (by decide) rfl rfl (Nat.le_of_ble_eq_true rfl) (fun M7 => ?_)
      exact sX_some (fun h _ => sW_vret (by decide +kernel) rfl (hr _ h).1.symm (hr _ h).2.symm)
    · exact sX_some (fun h _ => sW_vret (by decide +kernel) rfl (hr _ h).1.symm (hr _ h).2.symm)
  have xB46 : ∀ (v0 : Nat) (v1 : Int32) (v2 : Int32) (v3 : Int32) (M : sMem), sX G l 2 yX12_goesAlong cX12_goesAlong 6 none M0 r M' 46 [some (.ref v0), some (.int v1), some (.int v2), some (.int v3), none, none] [] M (f_X12_goesAlong_B46 v0 v1 v2 v3 M) K := by
    intro v0 v1 v2 v3 M
    unfold f_X12_goesAlong_B46
    refine sX_aload_n (i := 0) (by decide +kernel) rfl ?_
    refine sX_getR lf_X12_133 tk_12_49 (by decide +kernel) (fun x8 => ?_)
    refine sX_bipush (n := 48) (v := (48 : Int32)) (by decide +kernel) (by decide) ?_
    refine sX_iconst (n := 4) (v := (4 : Int32)) (by decide +kernel) (by decide) ?_
    refine sX_iload_n (i := 1) (by decide +kernel) rfl ?_
    refine sX_imul (by decide +kernel) ?_
    refine sX_iadd (by decide +kernel) ?_
    refine sX_iaload (by decide +kernel) (fun x9 => ?_)
    refine sX_iload_n (i := 2) (by decide +kernel) rfl ?_
    refine sX_icne (o := 31) (t := 89) (by decide +kernel) (by decide) (fun _ => ?_) (fun _ => ?_)
    · refine sX_aload_n (i := 0) (by decide +kernel) rfl ?_
      refine sX_aload_n (i := 0) (by decide +kernel) rfl ?_
      refine sX_getR lf_X12_133 tk_12_49 (by decide +kernel) (fun x10 => ?_)
      refine sX_bipush (n := 49) (v := (49 : Int32)) (by decide +kernel) (by decide) ?_
      refine sX_iconst (n := 4) (v := (4 : Int32)) (by decide +kernel) (by decide) ?_
      refine sX_iload_n (i := 1) (by decide +kernel) rfl ?_
      refine sX_imul (by decide +kernel) ?_
      refine sX_iadd (by decide +kernel) ?_
      refine sX_iaload (by decide +kernel) (fun x11 => ?_)
      refine sX_iload_n (i := 3) (by decide +kernel) rfl ?_
      refine sX_aload_n (i := 0) (by decide +kernel) rfl ?_
      refine sX_getR lf_X12_133 tk_12_49 (by decide +kernel) (fun x12 => ?_)
      refine sX_bipush (n := 50) (v := (50 : Int32)) (by decide +kernel) (by decide) ?_
      refine sX_iconst (n := 4) (v := (4 : Int32)) (by decide +kernel) (by decide) ?_
      refine sX_iload_n (i := 1) (by decide +kernel) rfl ?_
      refine sX_imul (by decide +kernel) ?_
      refine sX_iadd (by decide +kernel) ?_
      refine sX_iaload (by decide +kernel) (fun x13 => ?_)
      refine sX_iadd (by decide +kernel) ?_
      refine sX_callVv (As := [.int x11, .int (v3 + x13)]) (by decide +kernel) lm_X12_525 mf_X12_reaches mi_X12_reaches mc_12 (m_X12_reaches G l v0 x11 ((v3 + x13)) M) (fun _ h => sRc_some h) (by decide) rfl rfl (Nat.le_of_ble_eq_true rfl) (fun M14 => ?_)
      exact sX.le (xB89 v0 v1 v2 v3 M14) (sLe_s (sLe_s (sLe_s (sLe_s (sLe_n (sLe_n sLe_e))))))
    · exact sX.le (xB89 v0 v1 v2 v3 M) (sLe_s (sLe_s (sLe_s (sLe_s (sLe_n (sLe_n sLe_e))))))
  refine sX_rc ?_
  refine sX_aload_n (i := 0) (by decide +kernel) rfl ?_
  refine sX_getR lf_X12_133 tk_12_49 (by decide +kernel) (fun x15 => ?_)
  refine sX_bipush (n := 51) (v := (51 : Int32)) (by decide +kernel) (by decide) ?_
  refine sX_iconst (n := 4) (v := (4 : Int32)) (by decide +kernel) (by decide) ?_
  refine sX_iload_n (i := 1) (by decide +kernel) rfl ?_
  refine sX_imul (by decide +kernel) ?_
  refine sX_iadd (by decide +kernel) ?_
  refine sX_iaload (by decide +kernel) (fun x16 => ?_)
  refine sX_istore (i := 5) (ls2 := [some (.ref v0), some (.int v1), some (.int v2), some (.int v3), some (.int v4), some (.int x16)]) (by decide +kernel) (by decide) rfl ?_
  refine sX_iload (i := 5) (by decide +kernel) rfl ?_
  refine sX_iconst (n := -1) (v := (-1 : Int32)) (by decide +kernel) (by decide) ?_
  refine sX_iceq (o := 30) (t := 46) (by decide +kernel) (by decide) (fun _ => ?_) (fun _ => ?_)
  · exact sX.le (xB46 v0 v1 v2 v3 M0) (sLe_s (sLe_s (sLe_s (sLe_s (sLe_n (sLe_n sLe_e))))))
  · refine sX_iload (i := 4) (by decide +kernel) rfl ?_
    refine sX_iload (i := 5) (by decide +kernel) rfl ?_
    refine sX_ishr (by decide +kernel) ?_
    refine sX_iconst (n := 1) (v := (1 : Int32)) (by decide +kernel) (by decide) ?_
    refine sX_iand (by decide +kernel) ?_
    refine sX_ifne (o := 20) (t := 46) (by decide +kernel) (by decide) (fun _ => ?_) (fun _ => ?_)
    · refine sX_aload_n (i := 0) (by decide +kernel) rfl ?_
      refine sX_getR lf_X12_163 tk_12_68 (by decide +kernel) (fun x17 => ?_)
      refine sX_sipush (n := 200) (v := (200 : Int32)) (by decide +kernel) (by decide) ?_
      refine sX_iload (i := 5) (by decide +kernel) rfl ?_
      refine sX_imul (by decide +kernel) ?_
      refine sX_iload_n (i := 3) (by decide +kernel) rfl ?_
      refine sX_iadd (by decide +kernel) ?_
      refine sX_baload (by decide +kernel) (fun x18 => ?_)
      refine sX_ifeq (o := 4) (t := 46) (by decide +kernel) (by decide) (fun _ => ?_) (fun _ => ?_)
      · exact sX.le (xB46 v0 v1 v2 v3 M0) (sLe_s (sLe_s (sLe_s (sLe_s (sLe_n (sLe_n sLe_e))))))
      · exact sX_some (fun h _ => sW_vret (by decide +kernel) rfl (hr _ h).1.symm (hr _ h).2.symm)
    · exact sX.le (xB46 v0 v1 v2 v3 M0) (sLe_s (sLe_s (sLe_s (sLe_s (sLe_n (sLe_n sLe_e))))))
def f_X12_driveOf_B137 (v0 : Nat) (v2 : Int32) (v4 : Int32) (v5 : Int32) (M : sMem) : Option ((Int32 × sMem) ⊕ (((Int32 × sMem)))) :=
  some (.inl ((((v5 + (1 : Int32))), M)))
def f_X12_driveOf_B131 (v0 : Nat) (v2 : Int32) (v4 : Int32) (v5 : Int32) (v6 : Int32) (M : sMem) : Option ((Int32 × sMem) ⊕ ((sMem))) :=
  some (.inl ((((v6 + (1 : Int32))), M)))
def f_X12_driveOf_K104 (v0 : Nat) (v2 : Int32) (v4 : Int32) (v5 : Int32) (v6 : Int32) (v7 : Int32) (M : sMem) : Option ((Int32 × sMem) ⊕ ((sMem))) :=
  (f_X12_roadMany v0 M).bind fun x1 =>
  if x1 ≤ v7 then
    some (.inr M)
  else
    (f_X12_goesAlong v0 v7 v6 v5 v4 M).bind fun M2 =>
    some (.inl ((((v7 + (1 : Int32))), M2)))
def f_X12_driveOf_L104 (v0 : Nat) (v2 : Int32) (v4 : Int32) (v5 : Int32) (v6 : Int32) (v7 : Int32) (M : sMem) : Option ((Int32 × sMem) ⊕ ((sMem))) :=
  (sItr (fun a : (Int32 × sMem) => f_X12_driveOf_K104 v0 v2 v4 v5 v6 a.1 a.2) sFuel (v7, M)).bind (fun b => f_X12_driveOf_B131 v0 v2 v4 v5 v6 b)
def f_X12_driveOf_K63 (v0 : Nat) (v2 : Int32) (v4 : Int32) (v5 : Int32) (v6 : Int32) (M : sMem) : Option ((Int32 × sMem) ⊕ ((sMem))) :=
  (f_X12_placeMany v0 M).bind fun x3 =>
  if x3 ≤ v6 then
    some (.inr M)
  else
    (gR 12 127 69 M v0).bind fun x4 =>
    (ldI 16 M x4 ((((7 : Int32) * v5) + v6))).bind fun x5 =>
    if x5 = 0 then
      f_X12_driveOf_B131 v0 v2 v4 v5 v6 M
    else
      (f_X12_reaches v0 v6 ((v5 + (1 : Int32))) M).bind fun M6 =>
      f_X12_driveOf_L104 v0 v2 v4 v5 v6 ((0 : Int32)) M6
def f_X12_driveOf_L63 (v0 : Nat) (v2 : Int32) (v4 : Int32) (v5 : Int32) (v6 : Int32) (M : sMem) : Option ((Int32 × sMem) ⊕ (((Int32 × sMem)))) :=
  (sItr (fun a : (Int32 × sMem) => f_X12_driveOf_K63 v0 v2 v4 v5 a.1 a.2) sFuel (v6, M)).bind (fun b => f_X12_driveOf_B137 v0 v2 v4 v5 b)
def f_X12_driveOf_K34 (v0 : Nat) (v2 : Int32) (v4 : Int32) (v5 : Int32) (M : sMem) : Option ((Int32 × sMem) ⊕ (((Int32 × sMem)))) :=
  if (200 : Int32) ≤ v5 then
    some (.inr (((-1 : Int32), M)))
  else
    (gR 12 127 69 M v0).bind fun x7 =>
    (ldI 16 M x7 ((((7 : Int32) * v5) + v2))).bind fun x8 =>
    if x8 = 0 then
      f_X12_driveOf_L63 v0 v2 v4 v5 ((0 : Int32)) M
    else
      some (.inr ((v5, M)))
def f_X12_driveOf_L34 (v0 : Nat) (v2 : Int32) (v4 : Int32) (v5 : Int32) (M : sMem) : Option (Int32 × sMem) :=
  (sItr (fun a : (Int32 × sMem) => f_X12_driveOf_K34 v0 v2 v4 a.1 a.2) sFuel (v5, M)).bind (fun b => some b)
def f_X12_driveOf_B25 (v0 : Nat) (v1 : Int32) (v2 : Int32) (v3 : Int32) (v4 : Int32) (M : sMem) : Option (Int32 × sMem) :=
  (f_X12_reaches v0 v1 v3 M).bind fun M9 =>
  f_X12_driveOf_L34 v0 v2 v4 v3 M9
def f_X12_driveOf_K3 (v0 : Nat) (v1 : Int32) (v2 : Int32) (v3 : Int32) (v4 : Int32) (v5 : Int32) (M : sMem) : Option ((Int32 × sMem) ⊕ ((sMem))) :=
  if (1400 : Int32) ≤ v5 then
    some (.inr M)
  else
    (gR 12 127 69 M v0).bind fun x10 =>
    (stZ M x10 v5 ((0 : Int32))).bind fun M11 =>
    some (.inl ((((v5 + (1 : Int32))), M11)))
def f_X12_driveOf_L3 (v0 : Nat) (v1 : Int32) (v2 : Int32) (v3 : Int32) (v4 : Int32) (v5 : Int32) (M : sMem) : Option (Int32 × sMem) :=
  (sItr (fun a : (Int32 × sMem) => f_X12_driveOf_K3 v0 v1 v2 v3 v4 a.1 a.2) sFuel (v5, M)).bind (fun b => f_X12_driveOf_B25 v0 v1 v2 v3 v4 b)
def f_X12_driveOf (v0 : Nat) (v1 : Int32) (v2 : Int32) (v3 : Int32) (v4 : Int32) (M0 : sMem) : Option (Int32 × sMem) :=
  sRc 12 127 M0 v0 (
    f_X12_driveOf_L3 v0 v1 v2 v3 v4 ((0 : Int32)) M0)
set_option maxRecDepth 100000 in
set_option maxHeartbeats 4000000 in
theorem m_X12_driveOf (G : sG) (l : Launch) (v0 : Nat) (v1 : Int32) (v2 : Int32) (v3 : Int32) (v4 : Int32) (M0 : sMem) : sC G l 3 yX12_driveOf cX12_driveOf 8 (some .int) [.ref v0, .int v1, .int v2, .int v3, .int v4] M0 rvI (f_X12_driveOf v0 v1 v2 v3 v4 M0) := by
  refine sC_m (ls := [some (.ref v0), some (.int v1), some (.int v2), some (.int v3), some (.int v4), none, none, none]) (by decide +kernel) rfl (Nat.le_of_ble_eq_true rfl) (fun r M' K hr => ?_)
  unfold f_X12_driveOf
  have xL34 : ∀ (v0 : Nat) (v2 : Int32) (v4 : Int32) (v5 : Int32) (M : sMem), sX G l 3 yX12_driveOf cX12_driveOf 8 (some .int) M0 r M' 34 [some (.ref v0), none, some (.int v2), none, some (.int v4), some (.int v5), none, none] [] M (f_X12_driveOf_L34 v0 v2 v4 v5 M) K := by
    intro v0 v2 v4 v5 M
    unfold f_X12_driveOf_L34
    refine sX_bind ?_
    refine sX_loop (LS := fun a : (Int32 × sMem) => [some (.ref v0), none, some (.int v2), none, some (.int v4), some (.int a.1), none, none]) (MM := fun a => a.2) (fun K1 hb1 he1 => ?_) sFuel ((v5, M))
    have xB137 : ∀ (v5 : Int32) (M : sMem), sX G l 3 yX12_driveOf cX12_driveOf 8 (some .int) M0 r M' 137 [some (.ref v0), none, some (.int v2), none, some (.int v4), some (.int v5), none, none] [] M (f_X12_driveOf_B137 v0 v2 v4 v5 M) K1 := by
      intro v5 M
      unfold f_X12_driveOf_B137
      refine sX_iinc (i := 5) (n := 1) (v := v5 + (1 : Int32)) (ls2 := [some (.ref v0), none, some (.int v2), none, some (.int v4), some (.int (v5 + (1 : Int32))), none, none]) (by decide +kernel) rfl rfl (by decide) rfl ?_
      refine sX_goto (o := -106) (t := 34) (by decide +kernel) (by decide) ?_
      exact sX_back (a := (((v5 + (1 : Int32))), M)) hb1 rfl (sLe_s (sLe_n (sLe_s (sLe_n (sLe_s (sLe_s (sLe_n (sLe_n sLe_e))))))))
    have xL63 : ∀ (v5 : Int32) (v6 : Int32) (M : sMem), sX G l 3 yX12_driveOf cX12_driveOf 8 (some .int) M0 r M' 63 [some (.ref v0), none, some (.int v2), none, some (.int v4), some (.int v5), some (.int v6), none] [] M (f_X12_driveOf_L63 v0 v2 v4 v5 v6 M) K1 := by
      intro v5 v6 M
      unfold f_X12_driveOf_L63
      refine sX_bind ?_
      refine sX_loop (LS := fun a : (Int32 × sMem) => [some (.ref v0), none, some (.int v2), none, some (.int v4), some (.int v5), some (.int a.1), none]) (MM := fun a => a.2) (fun K2 hb2 he2 => ?_) sFuel ((v6, M))
      have xB131 : ∀ (v6 : Int32) (M : sMem), sX G l 3 yX12_driveOf cX12_driveOf 8 (some .int) M0 r M' 131 [some (.ref v0), none, some (.int v2), none, some (.int v4), some (.int v5), some (.int v6), none] [] M (f_X12_driveOf_B131 v0 v2 v4 v5 v6 M) K2 := by
        intro v6 M
        unfold f_X12_driveOf_B131
        refine sX_iinc (i := 6) (n := 1) (v := v6 + (1 : Int32)) (ls2 := [some (.ref v0), none, some (.int v2), none, some (.int v4), some (.int v5), some (.int (v6 + (1 : Int32))), none]) (by decide +kernel) rfl rfl (by decide) rfl ?_
        refine sX_goto (o := -71) (t := 63) (by decide +kernel) (by decide) ?_
        exact sX_back (a := (((v6 + (1 : Int32))), M)) hb2 rfl (sLe_s (sLe_n (sLe_s (sLe_n (sLe_s (sLe_s (sLe_s (sLe_n sLe_e))))))))
      have xL104 : ∀ (v6 : Int32) (v7 : Int32) (M : sMem), sX G l 3 yX12_driveOf cX12_driveOf 8 (some .int) M0 r M' 104 [some (.ref v0), none, some (.int v2), none, some (.int v4), some (.int v5), some (.int v6), some (.int v7)] [] M (f_X12_driveOf_L104 v0 v2 v4 v5 v6 v7 M) K2 := by
        intro v6 v7 M
        unfold f_X12_driveOf_L104
        refine sX_bind ?_
        refine sX_loop (LS := fun a : (Int32 × sMem) => [some (.ref v0), none, some (.int v2), none, some (.int v4), some (.int v5), some (.int v6), some (.int a.1)]) (MM := fun a => a.2) (fun K3 hb3 he3 => ?_) sFuel ((v7, M))
        have xK104 : ∀ (v7 : Int32) (M : sMem), sX G l 3 yX12_driveOf cX12_driveOf 8 (some .int) M0 r M' 104 [some (.ref v0), none, some (.int v2), none, some (.int v4), some (.int v5), some (.int v6), some (.int v7)] [] M (f_X12_driveOf_K104 v0 v2 v4 v5 v6 v7 M) K3 := by
          intro v7 M
          unfold f_X12_driveOf_K104
          refine sX_iload (i := 7) (by decide +kernel) rfl ?_
          refine sX_aload_n (i := 0) (by decide +kernel) rfl ?_
          refine sX_callVp (As := []) (by decide +kernel) lm_X12_528 mf_X12_roadMany mi_X12_roadMany mc_12 (m_X12_roadMany G l v0 M) (fun _ h => sRc_some h) (by decide) rfl rfl (Nat.le_of_ble_eq_true rfl) (fun x1 => ?_)
          refine sX_icge (o := 21) (t := 131) (by decide +kernel) (by decide) (fun _ => ?_) (fun _ => ?_)
          · refine sX_exit he3 ?_
            exact sX.le (xB131 v6 M) (sLe_s (sLe_n (sLe_s (sLe_n (sLe_s (sLe_s (sLe_s (sLe_n sLe_e))))))))
          · refine sX_aload_n (i := 0) (by decide +kernel) rfl ?_
            refine sX_iload (i := 7) (by decide +kernel) rfl ?_
            refine sX_iload (i := 6) (by decide +kernel) rfl ?_
            refine sX_iload (i := 5) (by decide +kernel) rfl ?_
            refine sX_iload (i := 4) (by decide +kernel) rfl ?_
            refine sX_callVv (As := [.int v7, .int v6, .int v5, .int v4]) (by decide +kernel) lm_X12_531 mf_X12_goesAlong mi_X12_goesAlong mc_12 (m_X12_goesAlong G l v0 v7 v6 v5 v4 M) (fun _ h => sRc_some h) (by decide) rfl rfl (Nat.le_of_ble_eq_true rfl) (fun M2 => ?_)
            refine sX_iinc (i := 7) (n := 1) (v := v7 + (1 : Int32)) (ls2 := [some (.ref v0), none, some (.int v2), none, some (.int v4), some (.int v5), some (.int v6), some (.int (v7 + (1 : Int32)))]) (by decide +kernel) rfl rfl (by decide) rfl ?_
            refine sX_goto (o := -24) (t := 104) (by decide +kernel) (by decide) ?_
            exact sX_back (a := (((v7 + (1 : Int32))), M2)) hb3 rfl (sLe_s (sLe_n (sLe_s (sLe_n (sLe_s (sLe_s (sLe_s (sLe_s sLe_e))))))))
        exact fun a => xK104 a.1 a.2
      have xK63 : ∀ (v6 : Int32) (M : sMem), sX G l 3 yX12_driveOf cX12_driveOf 8 (some .int) M0 r M' 63 [some (.ref v0), none, some (.int v2), none, some (.int v4), some (.int v5), some (.int v6), none] [] M (f_X12_driveOf_K63 v0 v2 v4 v5 v6 M) K2 := by
        intro v6 M
        unfold f_X12_driveOf_K63
        refine sX_iload (i := 6) (by decide +kernel) rfl ?_
        refine sX_aload_n (i := 0) (by decide +kernel) rfl ?_
        refine sX_callVp (As := []) (by decide +kernel) lm_X12_463 mf_X12_placeMany mi_X12_placeMany mc_12 (m_X12_placeMany G l v0 M) (fun _ h => sRc_some h) (by decide) rfl rfl (Nat.le_of_ble_eq_true rfl) (fun x3 => ?_)
        refine sX_icge (o := 68) (t := 137) (by decide +kernel) (by decide) (fun _ => ?_) (fun _ => ?_)
        · refine sX_exit he2 ?_
          exact sX.le (xB137 v5 M) (sLe_s (sLe_n (sLe_s (sLe_n (sLe_s (sLe_s (sLe_n (sLe_n sLe_e))))))))
        · refine sX_aload_n (i := 0) (by decide +kernel) rfl ?_
          refine sX_getR lf_X12_167 tk_12_69 (by decide +kernel) (fun x4 => ?_)
          refine sX_bipush (n := 7) (v := (7 : Int32)) (by decide +kernel) (by decide) ?_
          refine sX_iload (i := 5) (by decide +kernel) rfl ?_
          refine sX_imul (by decide +kernel) ?_
          refine sX_iload (i := 6) (by decide +kernel) rfl ?_
          refine sX_iadd (by decide +kernel) ?_
          refine sX_baload (by decide +kernel) (fun x5 => ?_)
          refine sX_ifne (o := 6) (t := 91) (by decide +kernel) (by decide) (fun _ => ?_) (fun _ => ?_)
          · refine sX_goto (o := 43) (t := 131) (by decide +kernel) (by decide) ?_
            exact sX.le (xB131 v6 M) (sLe_s (sLe_n (sLe_s (sLe_n (sLe_s (sLe_s (sLe_s (sLe_n sLe_e))))))))
          · refine sX_aload_n (i := 0) (by decide +kernel) rfl ?_
            refine sX_iload (i := 6) (by decide +kernel) rfl ?_
            refine sX_iload (i := 5) (by decide +kernel) rfl ?_
            refine sX_iconst (n := 1) (v := (1 : Int32)) (by decide +kernel) (by decide) ?_
            refine sX_iadd (by decide +kernel) ?_
            refine sX_callVv (As := [.int v6, .int (v5 + (1 : Int32))]) (by decide +kernel) lm_X12_525 mf_X12_reaches mi_X12_reaches mc_12 (m_X12_reaches G l v0 v6 ((v5 + (1 : Int32))) M) (fun _ h => sRc_some h) (by decide) rfl rfl (Nat.le_of_ble_eq_true rfl) (fun M6 => ?_)
            refine sX_iconst (n := 0) (v := (0 : Int32)) (by decide +kernel) (by decide) ?_
            refine sX_istore (i := 7) (ls2 := [some (.ref v0), none, some (.int v2), none, some (.int v4), some (.int v5), some (.int v6), some (.int (0 : Int32))]) (by decide +kernel) (by decide) rfl ?_
            exact sX.le (xL104 v6 ((0 : Int32)) M6) (sLe_s (sLe_n (sLe_s (sLe_n (sLe_s (sLe_s (sLe_s (sLe_s sLe_e))))))))
      exact fun a => xK63 a.1 a.2
    have xK34 : ∀ (v5 : Int32) (M : sMem), sX G l 3 yX12_driveOf cX12_driveOf 8 (some .int) M0 r M' 34 [some (.ref v0), none, some (.int v2), none, some (.int v4), some (.int v5), none, none] [] M (f_X12_driveOf_K34 v0 v2 v4 v5 M) K1 := by
      intro v5 M
      unfold f_X12_driveOf_K34
      refine sX_iload (i := 5) (by decide +kernel) rfl ?_
      refine sX_sipush (n := 200) (v := (200 : Int32)) (by decide +kernel) (by decide) ?_
      refine sX_icge (o := 104) (t := 143) (by decide +kernel) (by decide) (fun _ => ?_) (fun _ => ?_)
      · refine sX_iconst (n := -1) (v := (-1 : Int32)) (by decide +kernel) (by decide) ?_
        refine sX_exit he1 ?_
        exact sX_some (fun h _ => sW_iret (by decide +kernel) rfl (hr _ h).1.symm (hr _ h).2.symm)
      · refine sX_aload_n (i := 0) (by decide +kernel) rfl ?_
        refine sX_getR lf_X12_167 tk_12_69 (by decide +kernel) (fun x7 => ?_)
        refine sX_bipush (n := 7) (v := (7 : Int32)) (by decide +kernel) (by decide) ?_
        refine sX_iload (i := 5) (by decide +kernel) rfl ?_
        refine sX_imul (by decide +kernel) ?_
        refine sX_iload_n (i := 2) (by decide +kernel) rfl ?_
        refine sX_iadd (by decide +kernel) ?_
        refine sX_baload (by decide +kernel) (fun x8 => ?_)
        refine sX_ifeq (o := 6) (t := 60) (by decide +kernel) (by decide) (fun _ => ?_) (fun _ => ?_)
        · refine sX_iconst (n := 0) (v := (0 : Int32)) (by decide +kernel) (by decide) ?_
          refine sX_istore (i := 6) (ls2 := [some (.ref v0), none, some (.int v2), none, some (.int v4), some (.int v5), some (.int (0 : Int32)), none]) (by decide +kernel) (by decide) rfl ?_
          exact sX.le (xL63 v5 ((0 : Int32)) M) (sLe_s (sLe_n (sLe_s (sLe_n (sLe_s (sLe_s (sLe_s (sLe_n sLe_e))))))))
        · refine sX_iload (i := 5) (by decide +kernel) rfl ?_
          refine sX_exit he1 ?_
          exact sX_some (fun h _ => sW_iret (by decide +kernel) rfl (hr _ h).1.symm (hr _ h).2.symm)
    exact fun a => xK34 a.1 a.2
  have xB25 : ∀ (v0 : Nat) (v1 : Int32) (v2 : Int32) (v3 : Int32) (v4 : Int32) (M : sMem), sX G l 3 yX12_driveOf cX12_driveOf 8 (some .int) M0 r M' 25 [some (.ref v0), some (.int v1), some (.int v2), some (.int v3), some (.int v4), none, none, none] [] M (f_X12_driveOf_B25 v0 v1 v2 v3 v4 M) K := by
    intro v0 v1 v2 v3 v4 M
    unfold f_X12_driveOf_B25
    refine sX_aload_n (i := 0) (by decide +kernel) rfl ?_
    refine sX_iload_n (i := 1) (by decide +kernel) rfl ?_
    refine sX_iload_n (i := 3) (by decide +kernel) rfl ?_
    refine sX_callVv (As := [.int v1, .int v3]) (by decide +kernel) lm_X12_525 mf_X12_reaches mi_X12_reaches mc_12 (m_X12_reaches G l v0 v1 v3 M) (fun _ h => sRc_some h) (by decide) rfl rfl (Nat.le_of_ble_eq_true rfl) (fun M9 => ?_)
    refine sX_iload_n (i := 3) (by decide +kernel) rfl ?_
    refine sX_istore (i := 5) (ls2 := [some (.ref v0), some (.int v1), some (.int v2), some (.int v3), some (.int v4), some (.int v3), none, none]) (by decide +kernel) (by decide) rfl ?_
    exact sX.le (xL34 v0 v2 v4 v3 M9) (sLe_s (sLe_n (sLe_s (sLe_n (sLe_s (sLe_s (sLe_n (sLe_n sLe_e))))))))
  have xL3 : ∀ (v0 : Nat) (v1 : Int32) (v2 : Int32) (v3 : Int32) (v4 : Int32) (v5 : Int32) (M : sMem), sX G l 3 yX12_driveOf cX12_driveOf 8 (some .int) M0 r M' 3 [some (.ref v0), some (.int v1), some (.int v2), some (.int v3), some (.int v4), some (.int v5), none, none] [] M (f_X12_driveOf_L3 v0 v1 v2 v3 v4 v5 M) K := by
    intro v0 v1 v2 v3 v4 v5 M
    unfold f_X12_driveOf_L3
    refine sX_bind ?_
    refine sX_loop (LS := fun a : (Int32 × sMem) => [some (.ref v0), some (.int v1), some (.int v2), some (.int v3), some (.int v4), some (.int a.1), none, none]) (MM := fun a => a.2) (fun K1 hb1 he1 => ?_) sFuel ((v5, M))
    have xK3 : ∀ (v5 : Int32) (M : sMem), sX G l 3 yX12_driveOf cX12_driveOf 8 (some .int) M0 r M' 3 [some (.ref v0), some (.int v1), some (.int v2), some (.int v3), some (.int v4), some (.int v5), none, none] [] M (f_X12_driveOf_K3 v0 v1 v2 v3 v4 v5 M) K1 := by
      intro v5 M
      unfold f_X12_driveOf_K3
      refine sX_iload (i := 5) (by decide +kernel) rfl ?_
      refine sX_sipush (n := 1400) (v := (1400 : Int32)) (by decide +kernel) (by decide) ?_
      refine sX_icge (o := 17) (t := 25) (by decide +kernel) (by decide) (fun _ => ?_) (fun _ => ?_)
      · refine sX_exit he1 ?_
        exact sX.le (xB25 v0 v1 v2 v3 v4 M) (sLe_s (sLe_s (sLe_s (sLe_s (sLe_s (sLe_n (sLe_n (sLe_n sLe_e))))))))
      · refine sX_aload_n (i := 0) (by decide +kernel) rfl ?_
        refine sX_getR lf_X12_167 tk_12_69 (by decide +kernel) (fun x10 => ?_)
        refine sX_iload (i := 5) (by decide +kernel) rfl ?_
        refine sX_iconst (n := 0) (v := (0 : Int32)) (by decide +kernel) (by decide) ?_
        refine sX_bastore (by decide +kernel) (by decide) (fun M11 => ?_)
        refine sX_iinc (i := 5) (n := 1) (v := v5 + (1 : Int32)) (ls2 := [some (.ref v0), some (.int v1), some (.int v2), some (.int v3), some (.int v4), some (.int (v5 + (1 : Int32))), none, none]) (by decide +kernel) rfl rfl (by decide) rfl ?_
        refine sX_goto (o := -19) (t := 3) (by decide +kernel) (by decide) ?_
        exact sX_back (a := (((v5 + (1 : Int32))), M11)) hb1 rfl (sLe_s (sLe_s (sLe_s (sLe_s (sLe_s (sLe_s (sLe_n (sLe_n sLe_e))))))))
    exact fun a => xK3 a.1 a.2
  refine sX_rc ?_
  refine sX_iconst (n := 0) (v := (0 : Int32)) (by decide +kernel) (by decide) ?_
  refine sX_istore (i := 5) (ls2 := [some (.ref v0), some (.int v1), some (.int v2), some (.int v3), some (.int v4), some (.int (0 : Int32)), none, none]) (by decide +kernel) (by decide) rfl ?_
  exact sX.le (xL3 v0 v1 v2 v3 v4 ((0 : Int32)) M0) (sLe_s (sLe_s (sLe_s (sLe_s (sLe_s (sLe_s (sLe_n (sLe_n sLe_e))))))))
def f_X12_waitOf (v0 : Nat) (v1 : Int32) (M0 : sMem) : Option (Int32 × sMem) :=
  sRc 12 127 M0 v0 (
    (f_X12_placeOf v0 v1 M0).bind fun x1 =>
    (f_X12_goalOf v0 v1 M0).bind fun x2 =>
    (f_X12_minuteOf v0 v1 M0).bind fun x3 =>
    (f_X12_upSet v0 M0).bind fun x4 =>
    (f_X12_driveOf v0 x1 x2 x3 x4 M0).bind fun (x5, M6) =>
    if x5 = (-1 : Int32) then
      some (((-1 : Int32), M6))
    else
      (f_X12_placeOf v0 v1 M6).bind fun x7 =>
      (f_X12_goalOf v0 v1 M6).bind fun x8 =>
      (f_X12_minuteOf v0 v1 M6).bind fun x9 =>
      (f_X12_driveOf v0 x7 x8 x9 ((63 : Int32)) M6).bind fun (x10, M11) =>
      some (((x5 - x10), M11)))
set_option maxRecDepth 100000 in
set_option maxHeartbeats 4000000 in
theorem m_X12_waitOf (G : sG) (l : Launch) (v0 : Nat) (v1 : Int32) (M0 : sMem) : sC G l 4 yX12_waitOf cX12_waitOf 3 (some .int) [.ref v0, .int v1] M0 rvI (f_X12_waitOf v0 v1 M0) := by
  refine sC_m (ls := [some (.ref v0), some (.int v1), none]) (by decide +kernel) rfl (Nat.le_of_ble_eq_true rfl) (fun r M' K hr => ?_)
  unfold f_X12_waitOf
  refine sX_rc ?_
  refine sX_aload_n (i := 0) (by decide +kernel) rfl ?_
  refine sX_aload_n (i := 0) (by decide +kernel) rfl ?_
  refine sX_iload_n (i := 1) (by decide +kernel) rfl ?_
  refine sX_callVp (As := [.int v1]) (by decide +kernel) lm_X12_535 mf_X12_placeOf mi_X12_placeOf mc_12 (m_X12_placeOf G l v0 v1 M0) (fun _ h => sRc_some h) (by decide) rfl rfl (Nat.le_of_ble_eq_true rfl) (fun x1 => ?_)
  refine sX_aload_n (i := 0) (by decide +kernel) rfl ?_
  refine sX_iload_n (i := 1) (by decide +kernel) rfl ?_
  refine sX_callVp (As := [.int v1]) (by decide +kernel) lm_X12_538 mf_X12_goalOf mi_X12_goalOf mc_12 (m_X12_goalOf G l v0 v1 M0) (fun _ h => sRc_some h) (by decide) rfl rfl (Nat.le_of_ble_eq_true rfl) (fun x2 => ?_)
  refine sX_aload_n (i := 0) (by decide +kernel) rfl ?_
  refine sX_iload_n (i := 1) (by decide +kernel) rfl ?_
  refine sX_callVp (As := [.int v1]) (by decide +kernel) lm_X12_541 mf_X12_minuteOf mi_X12_minuteOf mc_12 (m_X12_minuteOf G l v0 v1 M0) (fun _ h => sRc_some h) (by decide) rfl rfl (Nat.le_of_ble_eq_true rfl) (fun x3 => ?_)
  refine sX_aload_n (i := 0) (by decide +kernel) rfl ?_
  refine sX_callVp (As := []) (by decide +kernel) lm_X12_544 mf_X12_upSet mi_X12_upSet mc_12 (m_X12_upSet G l v0 M0) (fun _ h => sRc_some h) (by decide) rfl rfl (Nat.le_of_ble_eq_true rfl) (fun x4 => ?_)
  refine sX_callV (As := [.int x1, .int x2, .int x3, .int x4]) (by decide +kernel) lm_X12_547 mf_X12_driveOf mi_X12_driveOf mc_12 (m_X12_driveOf G l v0 x1 x2 x3 x4 M0) (fun _ h => sRc_some h) (by decide) rfl rfl (Nat.le_of_ble_eq_true rfl) (fun x5 M6 _ => ?_)
  refine sX_istore_n (i := 2) (ls2 := [some (.ref v0), some (.int v1), some (.int x5)]) (by decide +kernel) (by decide) rfl ?_
  refine sX_iload_n (i := 2) (by decide +kernel) rfl ?_
  refine sX_iconst (n := -1) (v := (-1 : Int32)) (by decide +kernel) (by decide) ?_
  refine sX_icne (o := 7) (t := 33) (by decide +kernel) (by decide) (fun _ => ?_) (fun _ => ?_)
  · refine sX_iconst (n := -1) (v := (-1 : Int32)) (by decide +kernel) (by decide) ?_
    refine sX_goto (o := 26) (t := 56) (by decide +kernel) (by decide) ?_
    exact sX_some (fun h _ => sW_iret (by decide +kernel) rfl (hr _ h).1.symm (hr _ h).2.symm)
  · refine sX_iload_n (i := 2) (by decide +kernel) rfl ?_
    refine sX_aload_n (i := 0) (by decide +kernel) rfl ?_
    refine sX_aload_n (i := 0) (by decide +kernel) rfl ?_
    refine sX_iload_n (i := 1) (by decide +kernel) rfl ?_
    refine sX_callVp (As := [.int v1]) (by decide +kernel) lm_X12_535 mf_X12_placeOf mi_X12_placeOf mc_12 (m_X12_placeOf G l v0 v1 M6) (fun _ h => sRc_some h) (by decide) rfl rfl (Nat.le_of_ble_eq_true rfl) (fun x7 => ?_)
    refine sX_aload_n (i := 0) (by decide +kernel) rfl ?_
    refine sX_iload_n (i := 1) (by decide +kernel) rfl ?_
    refine sX_callVp (As := [.int v1]) (by decide +kernel) lm_X12_538 mf_X12_goalOf mi_X12_goalOf mc_12 (m_X12_goalOf G l v0 v1 M6) (fun _ h => sRc_some h) (by decide) rfl rfl (Nat.le_of_ble_eq_true rfl) (fun x8 => ?_)
    refine sX_aload_n (i := 0) (by decide +kernel) rfl ?_
    refine sX_iload_n (i := 1) (by decide +kernel) rfl ?_
    refine sX_callVp (As := [.int v1]) (by decide +kernel) lm_X12_541 mf_X12_minuteOf mi_X12_minuteOf mc_12 (m_X12_minuteOf G l v0 v1 M6) (fun _ h => sRc_some h) (by decide) rfl rfl (Nat.le_of_ble_eq_true rfl) (fun x9 => ?_)
    refine sX_bipush (n := 63) (v := (63 : Int32)) (by decide +kernel) (by decide) ?_
    refine sX_callV (As := [.int x7, .int x8, .int x9, .int (63 : Int32)]) (by decide +kernel) lm_X12_547 mf_X12_driveOf mi_X12_driveOf mc_12 (m_X12_driveOf G l v0 x7 x8 x9 ((63 : Int32)) M6) (fun _ h => sRc_some h) (by decide) rfl rfl (Nat.le_of_ble_eq_true rfl) (fun x10 M11 _ => ?_)
    refine sX_isub (by decide +kernel) ?_
    exact sX_some (fun h _ => sW_iret (by decide +kernel) rfl (hr _ h).1.symm (hr _ h).2.symm)
def f_X12_isKept_B64 (v0 : Nat) (v1 : Int32) (v2 : Int32) (M : sMem) : Option sMem :=
  (gR 12 127 59 M v0).bind fun x1 =>
  (ldI 14 M x1 ((27 : Int32))).bind fun x2 =>
  (gR 12 127 59 M v0).bind fun x3 =>
  (gR 12 127 59 M v0).bind fun x4 =>
  (ldI 14 M x4 ((0 : Int32))).bind fun x5 =>
  (stI M x3 ((((28 : Int32) + ((3 : Int32) * x2)) - (3 : Int32))) x5).bind fun M6 =>
  (gR 12 127 59 M6 v0).bind fun x7 =>
  (stI M6 x7 (((((28 : Int32) + ((3 : Int32) * x2)) - (3 : Int32)) + (1 : Int32))) v1).bind fun M8 =>
  (gR 12 127 59 M8 v0).bind fun x9 =>
  (stI M8 x9 (((((28 : Int32) + ((3 : Int32) * x2)) - (3 : Int32)) + (2 : Int32))) v2).bind fun M10 =>
  some M10
def f_X12_isKept_B50 (v0 : Nat) (v1 : Int32) (v2 : Int32) (M : sMem) : Option sMem :=
  f_X12_isKept_B64 v0 v1 v2 M
def f_X12_isKept_K23 (v0 : Nat) (v1 : Int32) (v2 : Int32) (v3 : Int32) (M : sMem) : Option ((Int32 × sMem) ⊕ ((sMem))) :=
  if (145 : Int32) ≤ v3 then
    some (.inr M)
  else
    (gR 12 127 59 M v0).bind fun x11 =>
    (gR 12 127 59 M v0).bind fun x12 =>
    (ldI 14 M x12 ((v3 + (3 : Int32)))).bind fun x13 =>
    (stI M x11 v3 x13).bind fun M14 =>
    some (.inl ((((v3 + (1 : Int32))), M14)))
def f_X12_isKept_L23 (v0 : Nat) (v1 : Int32) (v2 : Int32) (v3 : Int32) (M : sMem) : Option sMem :=
  (sItr (fun a : (Int32 × sMem) => f_X12_isKept_K23 v0 v1 v2 a.1 a.2) sFuel (v3, M)).bind (fun b => f_X12_isKept_B50 v0 v1 v2 b)
def f_X12_isKept (v0 : Nat) (v1 : Int32) (v2 : Int32) (M0 : sMem) : Option sMem :=
  sRc 12 127 M0 v0 (
    (gI 12 127 70 M0 v0).bind fun x15 =>
    if x15 = 0 then
      (gR 12 127 59 M0 v0).bind fun x16 =>
      (ldI 14 M0 x16 ((27 : Int32))).bind fun x17 =>
      if x17 = (40 : Int32) then
        f_X12_isKept_L23 v0 v1 v2 ((28 : Int32)) M0
      else
        (gR 12 127 59 M0 v0).bind fun x18 =>
        (ldI 14 M0 x18 ((27 : Int32))).bind fun x19 =>
        (stI M0 x18 ((27 : Int32)) ((x19 + (1 : Int32)))).bind fun M20 =>
        f_X12_isKept_B64 v0 v1 v2 M20
    else
      some M0)
set_option maxRecDepth 100000 in
set_option maxHeartbeats 4000000 in
theorem m_X12_isKept (G : sG) (l : Launch) (v0 : Nat) (v1 : Int32) (v2 : Int32) (M0 : sMem) : sCv G l 1 yX12_isKept cX12_isKept 4 none [.ref v0, .int v1, .int v2] M0 (f_X12_isKept v0 v1 v2 M0) := by
  refine sC_v (ls := [some (.ref v0), some (.int v1), some (.int v2), none]) (by decide +kernel) rfl (Nat.le_of_ble_eq_true rfl) (fun r M' K hr => ?_)
  unfold f_X12_isKept
  have xB64 : ∀ (v0 : Nat) (v1 : Int32) (v2 : Int32) (M : sMem), sX G l 1 yX12_isKept cX12_isKept 4 none M0 r M' 64 [some (.ref v0), some (.int v1), some (.int v2), none] [] M (f_X12_isKept_B64 v0 v1 v2 M) K := by
    intro v0 v1 v2 M
    unfold f_X12_isKept_B64
    refine sX_bipush (n := 28) (v := (28 : Int32)) (by decide +kernel) (by decide) ?_
    refine sX_iconst (n := 3) (v := (3 : Int32)) (by decide +kernel) (by decide) ?_
    refine sX_aload_n (i := 0) (by decide +kernel) rfl ?_
    refine sX_getR lf_X12_151 tk_12_59 (by decide +kernel) (fun x1 => ?_)
    refine sX_bipush (n := 27) (v := (27 : Int32)) (by decide +kernel) (by decide) ?_
    refine sX_iaload (by decide +kernel) (fun x2 => ?_)
    refine sX_imul (by decide +kernel) ?_
    refine sX_iadd (by decide +kernel) ?_
    refine sX_iconst (n := 3) (v := (3 : Int32)) (by decide +kernel) (by decide) ?_
    refine sX_isub (by decide +kernel) ?_
    refine sX_istore_n (i := 3) (ls2 := [some (.ref v0), some (.int v1), some (.int v2), some (.int (((28 : Int32) + ((3 : Int32) * x2)) - (3 : Int32)))]) (by decide +kernel) (by decide) rfl ?_
    refine sX_aload_n (i := 0) (by decide +kernel) rfl ?_
    refine sX_getR lf_X12_151 tk_12_59 (by decide +kernel) (fun x3 => ?_)
    refine sX_iload_n (i := 3) (by decide +kernel) rfl ?_
    refine sX_aload_n (i := 0) (by decide +kernel) rfl ?_
    refine sX_getR lf_X12_151 tk_12_59 (by decide +kernel) (fun x4 => ?_)
    refine sX_iconst (n := 0) (v := (0 : Int32)) (by decide +kernel) (by decide) ?_
    refine sX_iaload (by decide +kernel) (fun x5 => ?_)
    refine sX_iastore (by decide +kernel) (by decide) (fun M6 => ?_)
    refine sX_aload_n (i := 0) (by decide +kernel) rfl ?_
    refine sX_getR lf_X12_151 tk_12_59 (by decide +kernel) (fun x7 => ?_)
    refine sX_iload_n (i := 3) (by decide +kernel) rfl ?_
    refine sX_iconst (n := 1) (v := (1 : Int32)) (by decide +kernel) (by decide) ?_
    refine sX_iadd (by decide +kernel) ?_
    refine sX_iload_n (i := 1) (by decide +kernel) rfl ?_
    refine sX_iastore (by decide +kernel) (by decide) (fun M8 => ?_)
    refine sX_aload_n (i := 0) (by decide +kernel) rfl ?_
    refine sX_getR lf_X12_151 tk_12_59 (by decide +kernel) (fun x9 => ?_)
    refine sX_iload_n (i := 3) (by decide +kernel) rfl ?_
    refine sX_iconst (n := 2) (v := (2 : Int32)) (by decide +kernel) (by decide) ?_
    refine sX_iadd (by decide +kernel) ?_
    refine sX_iload_n (i := 2) (by decide +kernel) rfl ?_
    refine sX_iastore (by decide +kernel) (by decide) (fun M10 => ?_)
    exact sX_some (fun h _ => sW_vret (by decide +kernel) rfl (hr _ h).1.symm (hr _ h).2.symm)
  have xB50 : ∀ (v0 : Nat) (v1 : Int32) (v2 : Int32) (M : sMem), sX G l 1 yX12_isKept cX12_isKept 4 none M0 r M' 50 [some (.ref v0), some (.int v1), some (.int v2), none] [] M (f_X12_isKept_B50 v0 v1 v2 M) K := by
    intro v0 v1 v2 M
    unfold f_X12_isKept_B50
    refine sX_goto (o := 14) (t := 64) (by decide +kernel) (by decide) ?_
    exact sX.le (xB64 v0 v1 v2 M) (sLe_s (sLe_s (sLe_s (sLe_n sLe_e))))
  have xL23 : ∀ (v0 : Nat) (v1 : Int32) (v2 : Int32) (v3 : Int32) (M : sMem), sX G l 1 yX12_isKept cX12_isKept 4 none M0 r M' 23 [some (.ref v0), some (.int v1), some (.int v2), some (.int v3)] [] M (f_X12_isKept_L23 v0 v1 v2 v3 M) K := by
    intro v0 v1 v2 v3 M
    unfold f_X12_isKept_L23
    refine sX_bind ?_
    refine sX_loop (LS := fun a : (Int32 × sMem) => [some (.ref v0), some (.int v1), some (.int v2), some (.int a.1)]) (MM := fun a => a.2) (fun K1 hb1 he1 => ?_) sFuel ((v3, M))
    have xK23 : ∀ (v3 : Int32) (M : sMem), sX G l 1 yX12_isKept cX12_isKept 4 none M0 r M' 23 [some (.ref v0), some (.int v1), some (.int v2), some (.int v3)] [] M (f_X12_isKept_K23 v0 v1 v2 v3 M) K1 := by
      intro v3 M
      unfold f_X12_isKept_K23
      refine sX_iload_n (i := 3) (by decide +kernel) rfl ?_
      refine sX_sipush (n := 145) (v := (145 : Int32)) (by decide +kernel) (by decide) ?_
      refine sX_icge (o := 23) (t := 50) (by decide +kernel) (by decide) (fun _ => ?_) (fun _ => ?_)
      · refine sX_exit he1 ?_
        exact sX.le (xB50 v0 v1 v2 M) (sLe_s (sLe_s (sLe_s (sLe_n sLe_e))))
      · refine sX_aload_n (i := 0) (by decide +kernel) rfl ?_
        refine sX_getR lf_X12_151 tk_12_59 (by decide +kernel) (fun x11 => ?_)
        refine sX_iload_n (i := 3) (by decide +kernel) rfl ?_
        refine sX_aload_n (i := 0) (by decide +kernel) rfl ?_
        refine sX_getR lf_X12_151 tk_12_59 (by decide +kernel) (fun x12 => ?_)
        refine sX_iload_n (i := 3) (by decide +kernel) rfl ?_
        refine sX_iconst (n := 3) (v := (3 : Int32)) (by decide +kernel) (by decide) ?_
        refine sX_iadd (by decide +kernel) ?_
        refine sX_iaload (by decide +kernel) (fun x13 => ?_)
        refine sX_iastore (by decide +kernel) (by decide) (fun M14 => ?_)
        refine sX_iinc (i := 3) (n := 1) (v := v3 + (1 : Int32)) (ls2 := [some (.ref v0), some (.int v1), some (.int v2), some (.int (v3 + (1 : Int32)))]) (by decide +kernel) rfl rfl (by decide) rfl ?_
        refine sX_goto (o := -24) (t := 23) (by decide +kernel) (by decide) ?_
        exact sX_back (a := (((v3 + (1 : Int32))), M14)) hb1 rfl (sLe_s (sLe_s (sLe_s (sLe_s sLe_e))))
    exact fun a => xK23 a.1 a.2
  refine sX_rc ?_
  refine sX_aload_n (i := 0) (by decide +kernel) rfl ?_
  refine sX_getI lf_X12_551 tk_12_70 (by decide +kernel) (fun x15 => ?_)
  refine sX_ifeq (o := 4) (t := 8) (by decide +kernel) (by decide) (fun _ => ?_) (fun _ => ?_)
  · refine sX_aload_n (i := 0) (by decide +kernel) rfl ?_
    refine sX_getR lf_X12_151 tk_12_59 (by decide +kernel) (fun x16 => ?_)
    refine sX_bipush (n := 27) (v := (27 : Int32)) (by decide +kernel) (by decide) ?_
    refine sX_iaload (by decide +kernel) (fun x17 => ?_)
    refine sX_bipush (n := 40) (v := (40 : Int32)) (by decide +kernel) (by decide) ?_
    refine sX_icne (o := 36) (t := 53) (by decide +kernel) (by decide) (fun _ => ?_) (fun _ => ?_)
    · refine sX_bipush (n := 28) (v := (28 : Int32)) (by decide +kernel) (by decide) ?_
      refine sX_istore_n (i := 3) (ls2 := [some (.ref v0), some (.int v1), some (.int v2), some (.int (28 : Int32))]) (by decide +kernel) (by decide) rfl ?_
      exact sX.le (xL23 v0 v1 v2 ((28 : Int32)) M0) (sLe_s (sLe_s (sLe_s (sLe_s sLe_e))))
    · refine sX_aload_n (i := 0) (by decide +kernel) rfl ?_
      refine sX_getR lf_X12_151 tk_12_59 (by decide +kernel) (fun x18 => ?_)
      refine sX_bipush (n := 27) (v := (27 : Int32)) (by decide +kernel) (by decide) ?_
      refine sX_dup2 (by decide +kernel) rfl rfl ?_
      refine sX_iaload (by decide +kernel) (fun x19 => ?_)
      refine sX_iconst (n := 1) (v := (1 : Int32)) (by decide +kernel) (by decide) ?_
      refine sX_iadd (by decide +kernel) ?_
      refine sX_iastore (by decide +kernel) (by decide) (fun M20 => ?_)
      exact sX.le (xB64 v0 v1 v2 M20) (sLe_s (sLe_s (sLe_s (sLe_n sLe_e))))
  · exact sX_some (fun h _ => sW_vret (by decide +kernel) rfl (hr _ h).1.symm (hr _ h).2.symm)
def f_X12_arrives_B25 (v0 : Nat) (v1 : Int32) (s0 : Int64) (M : sMem) : Option sMem :=
  (gR 12 127 59 M v0).bind fun x1 =>
  (f_X12_knowsOf v0 v1 M).bind fun x2 =>
  (f_X12_cut ((x2.toInt64 + s0)) ((999 : Int32)) M).bind fun x3 =>
  (stI M x1 (((14 : Int32) + ((3 : Int32) * v1))) x3).bind fun M4 =>
  (f_X12_placeOf v0 v1 M4).bind fun x5 =>
  (gR 12 127 59 M4 v0).bind fun x6 =>
  (f_X12_goalOf v0 v1 M4).bind fun x7 =>
  (stI M4 x6 (((12 : Int32) + ((3 : Int32) * v1))) x7).bind fun M8 =>
  (gR 12 127 59 M8 v0).bind fun x9 =>
  (stI M8 x9 (((13 : Int32) + ((3 : Int32) * v1))) x5).bind fun M10 =>
  some M10
def f_X12_arrives (v0 : Nat) (v1 : Int32) (v2 : Int32) (M0 : sMem) : Option sMem :=
  sRc 12 127 M0 v0 (
    (pJ 12 127 65 M0 v0 v2.toInt64).bind fun M11 =>
    (f_X12_isTold v0 ((2 : Int32)) M11).bind fun x12 =>
    if x12 = 0 then
      f_X12_arrives_B25 v0 v1 v2.toInt64 M11
    else
      (f_X12_codesTell v0 ((2 : Int32)) v1 M11).bind fun (x13, M14) =>
      f_X12_arrives_B25 v0 v1 x13 M14)
set_option maxRecDepth 100000 in
set_option maxHeartbeats 4000000 in
theorem m_X12_arrives (G : sG) (l : Launch) (v0 : Nat) (v1 : Int32) (v2 : Int32) (M0 : sMem) : sCv G l 4 yX12_arrives cX12_arrives 6 none [.ref v0, .int v1, .int v2] M0 (f_X12_arrives v0 v1 v2 M0) := by
  refine sC_v (ls := [some (.ref v0), some (.int v1), some (.int v2), none, none, none]) (by decide +kernel) rfl (Nat.le_of_ble_eq_true rfl) (fun r M' K hr => ?_)
  unfold f_X12_arrives
  have xB25 : ∀ (v0 : Nat) (v1 : Int32) (s0 : Int64) (M : sMem), sX G l 4 yX12_arrives cX12_arrives 6 none M0 r M' 25 [some (.ref v0), some (.int v1), none, none, none, none] [.long s0] M (f_X12_arrives_B25 v0 v1 s0 M) K := by
    intro v0 v1 s0 M
    unfold f_X12_arrives_B25
    refine sX_lstore_n (i := 3) (ls2 := [some (.ref v0), some (.int v1), none, some (.long s0), none, none]) (by decide +kernel) (by decide) rfl ?_
    refine sX_aload_n (i := 0) (by decide +kernel) rfl ?_
    refine sX_getR lf_X12_151 tk_12_59 (by decide +kernel) (fun x1 => ?_)
    refine sX_bipush (n := 14) (v := (14 : Int32)) (by decide +kernel) (by decide) ?_
    refine sX_iconst (n := 3) (v := (3 : Int32)) (by decide +kernel) (by decide) ?_
    refine sX_iload_n (i := 1) (by decide +kernel) rfl ?_
    refine sX_imul (by decide +kernel) ?_
    refine sX_iadd (by decide +kernel) ?_
    refine sX_aload_n (i := 0) (by decide +kernel) rfl ?_
    refine sX_iload_n (i := 1) (by decide +kernel) rfl ?_
    refine sX_callVp (As := [.int v1]) (by decide +kernel) lm_X12_557 mf_X12_knowsOf mi_X12_knowsOf mc_12 (m_X12_knowsOf G l v0 v1 M) (fun _ h => sRc_some h) (by decide) rfl rfl (Nat.le_of_ble_eq_true rfl) (fun x2 => ?_)
    refine sX_i2l (by decide +kernel) ?_
    refine sX_lload_n (i := 3) (by decide +kernel) rfl ?_
    refine sX_ladd (by decide +kernel) ?_
    refine sX_sipush (n := 999) (v := (999 : Int32)) (by decide +kernel) (by decide) ?_
    refine sX_callSp (As := [.long (x2.toInt64 + s0), .int (999 : Int32)]) (by decide +kernel) lm_X12_560 mf_X12_cut ms_X12_cut (m_X12_cut G l ((x2.toInt64 + s0)) ((999 : Int32)) M) (by decide) rfl rfl (Nat.le_of_ble_eq_true rfl) (fun x3 => ?_)
    refine sX_iastore (by decide +kernel) (by decide) (fun M4 => ?_)
    refine sX_aload_n (i := 0) (by decide +kernel) rfl ?_
    refine sX_iload_n (i := 1) (by decide +kernel) rfl ?_
    refine sX_callVp (As := [.int v1]) (by decide +kernel) lm_X12_535 mf_X12_placeOf mi_X12_placeOf mc_12 (m_X12_placeOf G l v0 v1 M4) (fun _ h => sRc_some h) (by decide) rfl rfl (Nat.le_of_ble_eq_true rfl) (fun x5 => ?_)
    refine sX_istore (i := 5) (ls2 := [some (.ref v0), some (.int v1), none, some (.long s0), none, some (.int x5)]) (by decide +kernel) (by decide) rfl ?_
    refine sX_aload_n (i := 0) (by decide +kernel) rfl ?_
    refine sX_getR lf_X12_151 tk_12_59 (by decide +kernel) (fun x6 => ?_)
    refine sX_bipush (n := 12) (v := (12 : Int32)) (by decide +kernel) (by decide) ?_
    refine sX_iconst (n := 3) (v := (3 : Int32)) (by decide +kernel) (by decide) ?_
    refine sX_iload_n (i := 1) (by decide +kernel) rfl ?_
    refine sX_imul (by decide +kernel) ?_
    refine sX_iadd (by decide +kernel) ?_
    refine sX_aload_n (i := 0) (by decide +kernel) rfl ?_
    refine sX_iload_n (i := 1) (by decide +kernel) rfl ?_
    refine sX_callVp (As := [.int v1]) (by decide +kernel) lm_X12_538 mf_X12_goalOf mi_X12_goalOf mc_12 (m_X12_goalOf G l v0 v1 M4) (fun _ h => sRc_some h) (by decide) rfl rfl (Nat.le_of_ble_eq_true rfl) (fun x7 => ?_)
    refine sX_iastore (by decide +kernel) (by decide) (fun M8 => ?_)
    refine sX_aload_n (i := 0) (by decide +kernel) rfl ?_
    refine sX_getR lf_X12_151 tk_12_59 (by decide +kernel) (fun x9 => ?_)
    refine sX_bipush (n := 13) (v := (13 : Int32)) (by decide +kernel) (by decide) ?_
    refine sX_iconst (n := 3) (v := (3 : Int32)) (by decide +kernel) (by decide) ?_
    refine sX_iload_n (i := 1) (by decide +kernel) rfl ?_
    refine sX_imul (by decide +kernel) ?_
    refine sX_iadd (by decide +kernel) ?_
    refine sX_iload (i := 5) (by decide +kernel) rfl ?_
    refine sX_iastore (by decide +kernel) (by decide) (fun M10 => ?_)
    exact sX_some (fun h _ => sW_vret (by decide +kernel) rfl (hr _ h).1.symm (hr _ h).2.symm)
  refine sX_rc ?_
  refine sX_aload_n (i := 0) (by decide +kernel) rfl ?_
  refine sX_iload_n (i := 2) (by decide +kernel) rfl ?_
  refine sX_i2l (by decide +kernel) ?_
  refine sX_putJ lf_X12_554 tp_12_65 (by decide +kernel) (by decide) (fun M11 => ?_)
  refine sX_aload_n (i := 0) (by decide +kernel) rfl ?_
  refine sX_iconst (n := 2) (v := (2 : Int32)) (by decide +kernel) (by decide) ?_
  refine sX_callVp (As := [.int (2 : Int32)]) (by decide +kernel) lm_X12_503 mf_X12_isTold mi_X12_isTold mc_12 (m_X12_isTold G l v0 ((2 : Int32)) M11) (fun _ h => sRc_some h) (by decide) rfl rfl (Nat.le_of_ble_eq_true rfl) (fun x12 => ?_)
  refine sX_ifeq (o := 12) (t := 23) (by decide +kernel) (by decide) (fun _ => ?_) (fun _ => ?_)
  · refine sX_iload_n (i := 2) (by decide +kernel) rfl ?_
    refine sX_i2l (by decide +kernel) ?_
    exact sX.le (xB25 v0 v1 v2.toInt64 M11) (sLe_s (sLe_s (sLe_n (sLe_n (sLe_n (sLe_n sLe_e))))))
  · refine sX_aload_n (i := 0) (by decide +kernel) rfl ?_
    refine sX_iconst (n := 2) (v := (2 : Int32)) (by decide +kernel) (by decide) ?_
    refine sX_iload_n (i := 1) (by decide +kernel) rfl ?_
    refine sX_callV (As := [.int (2 : Int32), .int v1]) (by decide +kernel) lm_X12_512 mf_X12_codesTell mi_X12_codesTell mc_12 (m_X12_codesTell G l v0 ((2 : Int32)) v1 M11) (fun _ h => sRc_some h) (by decide) rfl rfl (Nat.le_of_ble_eq_true rfl) (fun x13 M14 _ => ?_)
    refine sX_goto (o := 5) (t := 25) (by decide +kernel) (by decide) ?_
    exact sX.le (xB25 v0 v1 x13 M14) (sLe_s (sLe_s (sLe_n (sLe_n (sLe_n (sLe_n sLe_e))))))
def f_X12_dayGoes_B110 (v0 : Nat) (v1 : Int32) (v2 : Int32) (M : sMem) : Option sMem :=
  (gI 12 127 71 M v0).bind fun x1 =>
  (pI 12 127 71 M v0 ((x1 + v1))).bind fun M2 =>
  (f_X12_isKept v0 v1 v2 M2).bind fun M3 =>
  (gR 12 127 59 M3 v0).bind fun x4 =>
  (ldI 14 M3 x4 ((0 : Int32))).bind fun x5 =>
  (stI M3 x4 ((0 : Int32)) ((x5 + (1 : Int32)))).bind fun M6 =>
  some M6
def f_X12_dayGoes_K63 (v0 : Nat) (v1 : Int32) (v2 : Int32) (v3 : Int32) (M : sMem) : Option ((Int32 × sMem) ⊕ ((sMem))) :=
  (f_X12_eraMany v0 M).bind fun x7 =>
  if x7 ≤ v3 then
    some (.inr M)
  else
    (f_X12_isTold v0 ((1 : Int32)) M).bind fun x8 =>
    if x8 = 0 then
      some (.inr M)
    else
      (pI 12 127 63 M v0 v3).bind fun M9 =>
      (gR 12 127 59 M9 v0).bind fun x10 =>
      (f_X12_codesTell v0 ((1 : Int32)) ((0 : Int32)) M9).bind fun (x11, M12) =>
      (f_X12_cut x11 ((99 : Int32)) M12).bind fun x13 =>
      (stI M12 x10 (((7 : Int32) + v3)) x13).bind fun M14 =>
      some (.inl ((((v3 + (1 : Int32))), M14)))
def f_X12_dayGoes_L63 (v0 : Nat) (v1 : Int32) (v2 : Int32) (v3 : Int32) (M : sMem) : Option sMem :=
  (sItr (fun a : (Int32 × sMem) => f_X12_dayGoes_K63 v0 v1 v2 a.1 a.2) sFuel (v3, M)).bind (fun b => f_X12_dayGoes_B110 v0 v1 v2 b)
def f_X12_dayGoes_B55 (v0 : Nat) (v1 : Int32) (v2 : Int32) (M : sMem) : Option sMem :=
  (pJ 12 127 65 M v0 v1.toInt64).bind fun M15 =>
  f_X12_dayGoes_L63 v0 v1 v2 ((0 : Int32)) M15
def f_X12_dayGoes_B49 (v0 : Nat) (v1 : Int32) (v2 : Int32) (v3 : Int32) (M : sMem) : Option ((Int32 × Int32 × Int32 × sMem) ⊕ ((Int32 × Int32 × sMem))) :=
  some (.inl ((v1, v2, ((v3 + (1 : Int32))), M)))
def f_X12_dayGoes_K10 (v0 : Nat) (v1 : Int32) (v2 : Int32) (v3 : Int32) (M : sMem) : Option ((Int32 × Int32 × Int32 × sMem) ⊕ ((Int32 × Int32 × sMem))) :=
  (f_X12_carMany v0 M).bind fun x16 =>
  if x16 ≤ v3 then
    some (.inr ((v1, v2, M)))
  else
    (f_X12_waitOf v0 v3 M).bind fun (x17, M18) =>
    if x17 = (-1 : Int32) then
      f_X12_dayGoes_B49 v0 v1 ((v2 + (1 : Int32))) v3 M18
    else
      (f_X12_arrives v0 v3 x17 M18).bind fun M19 =>
      f_X12_dayGoes_B49 v0 ((v1 + x17)) v2 v3 M19
def f_X12_dayGoes_L10 (v0 : Nat) (v1 : Int32) (v2 : Int32) (v3 : Int32) (M : sMem) : Option sMem :=
  (sItr (fun a : (Int32 × Int32 × Int32 × sMem) => f_X12_dayGoes_K10 v0 a.1 a.2.1 a.2.2.1 a.2.2.2) sFuel (v1, v2, v3, M)).bind (fun b => f_X12_dayGoes_B55 v0 b.1 b.2.1 b.2.2)
def f_X12_dayGoes (v0 : Nat) (M0 : sMem) : Option sMem :=
  sRc 12 127 M0 v0 (
    (f_X12_laysShut v0 M0).bind fun M20 =>
    f_X12_dayGoes_L10 v0 ((0 : Int32)) ((0 : Int32)) ((0 : Int32)) M20)
set_option maxRecDepth 100000 in
set_option maxHeartbeats 4000000 in
theorem m_X12_dayGoes (G : sG) (l : Launch) (v0 : Nat) (M0 : sMem) : sCv G l 7 yX12_dayGoes cX12_dayGoes 5 none [.ref v0] M0 (f_X12_dayGoes v0 M0) := by
  refine sC_v (ls := [some (.ref v0), none, none, none, none]) (by decide +kernel) rfl (Nat.le_of_ble_eq_true rfl) (fun r M' K hr => ?_)
  unfold f_X12_dayGoes
  have xB110 : ∀ (v0 : Nat) (v1 : Int32) (v2 : Int32) (M : sMem), sX G l 7 yX12_dayGoes cX12_dayGoes 5 none M0 r M' 110 [some (.ref v0), some (.int v1), some (.int v2), none, none] [] M (f_X12_dayGoes_B110 v0 v1 v2 M) K := by
    intro v0 v1 v2 M
    unfold f_X12_dayGoes_B110
    refine sX_aload_n (i := 0) (by decide +kernel) rfl ?_
    refine sX_dup (by decide +kernel) rfl ?_
    refine sX_getI lf_X12_573 tk_12_71 (by decide +kernel) (fun x1 => ?_)
    refine sX_iload_n (i := 1) (by decide +kernel) rfl ?_
    refine sX_iadd (by decide +kernel) ?_
    refine sX_putI lf_X12_573 tp_12_71 (by decide +kernel) (by decide) (fun M2 => ?_)
    refine sX_aload_n (i := 0) (by decide +kernel) rfl ?_
    refine sX_iload_n (i := 1) (by decide +kernel) rfl ?_
    refine sX_iload_n (i := 2) (by decide +kernel) rfl ?_
    refine sX_callVv (As := [.int v1, .int v2]) (by decide +kernel) lm_X12_576 mf_X12_isKept mi_X12_isKept mc_12 (m_X12_isKept G l v0 v1 v2 M2) (fun _ h => sRc_some h) (by decide) rfl rfl (Nat.le_of_ble_eq_true rfl) (fun M3 => ?_)
    refine sX_aload_n (i := 0) (by decide +kernel) rfl ?_
    refine sX_getR lf_X12_151 tk_12_59 (by decide +kernel) (fun x4 => ?_)
    refine sX_iconst (n := 0) (v := (0 : Int32)) (by decide +kernel) (by decide) ?_
    refine sX_dup2 (by decide +kernel) rfl rfl ?_
    refine sX_iaload (by decide +kernel) (fun x5 => ?_)
    refine sX_iconst (n := 1) (v := (1 : Int32)) (by decide +kernel) (by decide) ?_
    refine sX_iadd (by decide +kernel) ?_
    refine sX_iastore (by decide +kernel) (by decide) (fun M6 => ?_)
    exact sX_some (fun h _ => sW_vret (by decide +kernel) rfl (hr _ h).1.symm (hr _ h).2.symm)
  have xL63 : ∀ (v0 : Nat) (v1 : Int32) (v2 : Int32) (v3 : Int32) (M : sMem), sX G l 7 yX12_dayGoes cX12_dayGoes 5 none M0 r M' 63 [some (.ref v0), some (.int v1), some (.int v2), some (.int v3), none] [] M (f_X12_dayGoes_L63 v0 v1 v2 v3 M) K := by
    intro v0 v1 v2 v3 M
    unfold f_X12_dayGoes_L63
    refine sX_bind ?_
    refine sX_loop (LS := fun a : (Int32 × sMem) => [some (.ref v0), some (.int v1), some (.int v2), some (.int a.1), none]) (MM := fun a => a.2) (fun K1 hb1 he1 => ?_) sFuel ((v3, M))
    have xK63 : ∀ (v3 : Int32) (M : sMem), sX G l 7 yX12_dayGoes cX12_dayGoes 5 none M0 r M' 63 [some (.ref v0), some (.int v1), some (.int v2), some (.int v3), none] [] M (f_X12_dayGoes_K63 v0 v1 v2 v3 M) K1 := by
      intro v3 M
      unfold f_X12_dayGoes_K63
      refine sX_iload_n (i := 3) (by decide +kernel) rfl ?_
      refine sX_aload_n (i := 0) (by decide +kernel) rfl ?_
      refine sX_callVp (As := []) (by decide +kernel) lm_X12_466 mf_X12_eraMany mi_X12_eraMany mc_12 (m_X12_eraMany G l v0 M) (fun _ h => sRc_some h) (by decide) rfl rfl (Nat.le_of_ble_eq_true rfl) (fun x7 => ?_)
      refine sX_icge (o := 42) (t := 110) (by decide +kernel) (by decide) (fun _ => ?_) (fun _ => ?_)
      · refine sX_exit he1 ?_
        exact sX.le (xB110 v0 v1 v2 M) (sLe_s (sLe_s (sLe_s (sLe_n (sLe_n sLe_e)))))
      · refine sX_aload_n (i := 0) (by decide +kernel) rfl ?_
        refine sX_iconst (n := 1) (v := (1 : Int32)) (by decide +kernel) (by decide) ?_
        refine sX_callVp (As := [.int (1 : Int32)]) (by decide +kernel) lm_X12_503 mf_X12_isTold mi_X12_isTold mc_12 (m_X12_isTold G l v0 ((1 : Int32)) M) (fun _ h => sRc_some h) (by decide) rfl rfl (Nat.le_of_ble_eq_true rfl) (fun x8 => ?_)
        refine sX_ifeq (o := 34) (t := 110) (by decide +kernel) (by decide) (fun _ => ?_) (fun _ => ?_)
        · refine sX_exit he1 ?_
          exact sX.le (xB110 v0 v1 v2 M) (sLe_s (sLe_s (sLe_s (sLe_n (sLe_n sLe_e)))))
        · refine sX_aload_n (i := 0) (by decide +kernel) rfl ?_
          refine sX_iload_n (i := 3) (by decide +kernel) rfl ?_
          refine sX_putI lf_X12_506 tp_12_63 (by decide +kernel) (by decide) (fun M9 => ?_)
          refine sX_aload_n (i := 0) (by decide +kernel) rfl ?_
          refine sX_getR lf_X12_151 tk_12_59 (by decide +kernel) (fun x10 => ?_)
          refine sX_bipush (n := 7) (v := (7 : Int32)) (by decide +kernel) (by decide) ?_
          refine sX_iload_n (i := 3) (by decide +kernel) rfl ?_
          refine sX_iadd (by decide +kernel) ?_
          refine sX_aload_n (i := 0) (by decide +kernel) rfl ?_
          refine sX_iconst (n := 1) (v := (1 : Int32)) (by decide +kernel) (by decide) ?_
          refine sX_iconst (n := 0) (v := (0 : Int32)) (by decide +kernel) (by decide) ?_
          refine sX_callV (As := [.int (1 : Int32), .int (0 : Int32)]) (by decide +kernel) lm_X12_512 mf_X12_codesTell mi_X12_codesTell mc_12 (m_X12_codesTell G l v0 ((1 : Int32)) ((0 : Int32)) M9) (fun _ h => sRc_some h) (by decide) rfl rfl (Nat.le_of_ble_eq_true rfl) (fun x11 M12 _ => ?_)
          refine sX_bipush (n := 99) (v := (99 : Int32)) (by decide +kernel) (by decide) ?_
          refine sX_callSp (As := [.long x11, .int (99 : Int32)]) (by decide +kernel) lm_X12_560 mf_X12_cut ms_X12_cut (m_X12_cut G l x11 ((99 : Int32)) M12) (by decide) rfl rfl (Nat.le_of_ble_eq_true rfl) (fun x13 => ?_)
          refine sX_iastore (by decide +kernel) (by decide) (fun M14 => ?_)
          refine sX_iinc (i := 3) (n := 1) (v := v3 + (1 : Int32)) (ls2 := [some (.ref v0), some (.int v1), some (.int v2), some (.int (v3 + (1 : Int32))), none]) (by decide +kernel) rfl rfl (by decide) rfl ?_
          refine sX_goto (o := -44) (t := 63) (by decide +kernel) (by decide) ?_
          exact sX_back (a := (((v3 + (1 : Int32))), M14)) hb1 rfl (sLe_s (sLe_s (sLe_s (sLe_s (sLe_n sLe_e)))))
    exact fun a => xK63 a.1 a.2
  have xB55 : ∀ (v0 : Nat) (v1 : Int32) (v2 : Int32) (M : sMem), sX G l 7 yX12_dayGoes cX12_dayGoes 5 none M0 r M' 55 [some (.ref v0), some (.int v1), some (.int v2), none, none] [] M (f_X12_dayGoes_B55 v0 v1 v2 M) K := by
    intro v0 v1 v2 M
    unfold f_X12_dayGoes_B55
    refine sX_aload_n (i := 0) (by decide +kernel) rfl ?_
    refine sX_iload_n (i := 1) (by decide +kernel) rfl ?_
    refine sX_i2l (by decide +kernel) ?_
    refine sX_putJ lf_X12_554 tp_12_65 (by decide +kernel) (by decide) (fun M15 => ?_)
    refine sX_iconst (n := 0) (v := (0 : Int32)) (by decide +kernel) (by decide) ?_
    refine sX_istore_n (i := 3) (ls2 := [some (.ref v0), some (.int v1), some (.int v2), some (.int (0 : Int32)), none]) (by decide +kernel) (by decide) rfl ?_
    exact sX.le (xL63 v0 v1 v2 ((0 : Int32)) M15) (sLe_s (sLe_s (sLe_s (sLe_s (sLe_n sLe_e)))))
  have xL10 : ∀ (v0 : Nat) (v1 : Int32) (v2 : Int32) (v3 : Int32) (M : sMem), sX G l 7 yX12_dayGoes cX12_dayGoes 5 none M0 r M' 10 [some (.ref v0), some (.int v1), some (.int v2), some (.int v3), none] [] M (f_X12_dayGoes_L10 v0 v1 v2 v3 M) K := by
    intro v0 v1 v2 v3 M
    unfold f_X12_dayGoes_L10
    refine sX_bind ?_
    refine sX_loop (LS := fun a : (Int32 × Int32 × Int32 × sMem) => [some (.ref v0), some (.int a.1), some (.int a.2.1), some (.int a.2.2.1), none]) (MM := fun a => a.2.2.2) (fun K1 hb1 he1 => ?_) sFuel ((v1, v2, v3, M))
    have xB49 : ∀ (v1 : Int32) (v2 : Int32) (v3 : Int32) (M : sMem), sX G l 7 yX12_dayGoes cX12_dayGoes 5 none M0 r M' 49 [some (.ref v0), some (.int v1), some (.int v2), some (.int v3), none] [] M (f_X12_dayGoes_B49 v0 v1 v2 v3 M) K1 := by
      intro v1 v2 v3 M
      unfold f_X12_dayGoes_B49
      refine sX_iinc (i := 3) (n := 1) (v := v3 + (1 : Int32)) (ls2 := [some (.ref v0), some (.int v1), some (.int v2), some (.int (v3 + (1 : Int32))), none]) (by decide +kernel) rfl rfl (by decide) rfl ?_
      refine sX_goto (o := -42) (t := 10) (by decide +kernel) (by decide) ?_
      exact sX_back (a := (v1, v2, ((v3 + (1 : Int32))), M)) hb1 rfl (sLe_s (sLe_s (sLe_s (sLe_s (sLe_n sLe_e)))))
    have xK10 : ∀ (v1 : Int32) (v2 : Int32) (v3 : Int32) (M : sMem), sX G l 7 yX12_dayGoes cX12_dayGoes 5 none M0 r M' 10 [some (.ref v0), some (.int v1), some (.int v2), some (.int v3), none] [] M (f_X12_dayGoes_K10 v0 v1 v2 v3 M) K1 := by
      intro v1 v2 v3 M
      unfold f_X12_dayGoes_K10
      refine sX_iload_n (i := 3) (by decide +kernel) rfl ?_
      refine sX_aload_n (i := 0) (by decide +kernel) rfl ?_
      refine sX_callVp (As := []) (by decide +kernel) lm_X12_469 mf_X12_carMany mi_X12_carMany mc_12 (m_X12_carMany G l v0 M) (fun _ h => sRc_some h) (by decide) rfl rfl (Nat.le_of_ble_eq_true rfl) (fun x16 => ?_)
      refine sX_icge (o := 40) (t := 55) (by decide +kernel) (by decide) (fun _ => ?_) (fun _ => ?_)
      · refine sX_exit he1 ?_
        exact sX.le (xB55 v0 v1 v2 M) (sLe_s (sLe_s (sLe_s (sLe_n (sLe_n sLe_e)))))
      · refine sX_aload_n (i := 0) (by decide +kernel) rfl ?_
        refine sX_iload_n (i := 3) (by decide +kernel) rfl ?_
        refine sX_callV (As := [.int v3]) (by decide +kernel) lm_X12_567 mf_X12_waitOf mi_X12_waitOf mc_12 (m_X12_waitOf G l v0 v3 M) (fun _ h => sRc_some h) (by decide) rfl rfl (Nat.le_of_ble_eq_true rfl) (fun x17 M18 _ => ?_)
        refine sX_istore (i := 4) (ls2 := [some (.ref v0), some (.int v1), some (.int v2), some (.int v3), some (.int x17)]) (by decide +kernel) (by decide) rfl ?_
        refine sX_iload (i := 4) (by decide +kernel) rfl ?_
        refine sX_iconst (n := -1) (v := (-1 : Int32)) (by decide +kernel) (by decide) ?_
        refine sX_icne (o := 9) (t := 37) (by decide +kernel) (by decide) (fun _ => ?_) (fun _ => ?_)
        · refine sX_iinc (i := 2) (n := 1) (v := v2 + (1 : Int32)) (ls2 := [some (.ref v0), some (.int v1), some (.int (v2 + (1 : Int32))), some (.int v3), some (.int x17)]) (by decide +kernel) rfl rfl (by decide) rfl ?_
          refine sX_goto (o := 15) (t := 49) (by decide +kernel) (by decide) ?_
          exact sX.le (xB49 v1 ((v2 + (1 : Int32))) v3 M18) (sLe_s (sLe_s (sLe_s (sLe_s (sLe_n sLe_e)))))
        · refine sX_iload_n (i := 1) (by decide +kernel) rfl ?_
          refine sX_iload (i := 4) (by decide +kernel) rfl ?_
          refine sX_iadd (by decide +kernel) ?_
          refine sX_istore_n (i := 1) (ls2 := [some (.ref v0), some (.int (v1 + x17)), some (.int v2), some (.int v3), some (.int x17)]) (by decide +kernel) (by decide) rfl ?_
          refine sX_aload_n (i := 0) (by decide +kernel) rfl ?_
          refine sX_iload_n (i := 3) (by decide +kernel) rfl ?_
          refine sX_iload (i := 4) (by decide +kernel) rfl ?_
          refine sX_callVv (As := [.int v3, .int x17]) (by decide +kernel) lm_X12_570 mf_X12_arrives mi_X12_arrives mc_12 (m_X12_arrives G l v0 v3 x17 M18) (fun _ h => sRc_some h) (by decide) rfl rfl (Nat.le_of_ble_eq_true rfl) (fun M19 => ?_)
          exact sX.le (xB49 ((v1 + x17)) v2 v3 M19) (sLe_s (sLe_s (sLe_s (sLe_s (sLe_n sLe_e)))))
    exact fun a => xK10 a.1 a.2.1 a.2.2.1 a.2.2.2
  refine sX_rc ?_
  refine sX_iconst (n := 0) (v := (0 : Int32)) (by decide +kernel) (by decide) ?_
  refine sX_istore_n (i := 1) (ls2 := [some (.ref v0), some (.int (0 : Int32)), none, none, none]) (by decide +kernel) (by decide) rfl ?_
  refine sX_iconst (n := 0) (v := (0 : Int32)) (by decide +kernel) (by decide) ?_
  refine sX_istore_n (i := 2) (ls2 := [some (.ref v0), some (.int (0 : Int32)), some (.int (0 : Int32)), none, none]) (by decide +kernel) (by decide) rfl ?_
  refine sX_aload_n (i := 0) (by decide +kernel) rfl ?_
  refine sX_callVv (As := []) (by decide +kernel) lm_X12_564 mf_X12_laysShut mi_X12_laysShut mc_12 (m_X12_laysShut G l v0 M0) (fun _ h => sRc_some h) (by decide) rfl rfl (Nat.le_of_ble_eq_true rfl) (fun M20 => ?_)
  refine sX_iconst (n := 0) (v := (0 : Int32)) (by decide +kernel) (by decide) ?_
  refine sX_istore_n (i := 3) (ls2 := [some (.ref v0), some (.int (0 : Int32)), some (.int (0 : Int32)), some (.int (0 : Int32)), none]) (by decide +kernel) (by decide) rfl ?_
  exact sX.le (xL10 v0 ((0 : Int32)) ((0 : Int32)) ((0 : Int32)) M20) (sLe_s (sLe_s (sLe_s (sLe_s (sLe_n sLe_e)))))
def f_X12_daysGo_K2 (v0 : Nat) (v1 : Int32) (v2 : Int32) (M : sMem) : Option ((Int32 × sMem) ⊕ ((sMem))) :=
  if v1 ≤ v2 then
    some (.inr M)
  else
    (f_X12_dayGoes v0 M).bind fun M1 =>
    some (.inl ((((v2 + (1 : Int32))), M1)))
def f_X12_daysGo_L2 (v0 : Nat) (v1 : Int32) (v2 : Int32) (M : sMem) : Option sMem :=
  (sItr (fun a : (Int32 × sMem) => f_X12_daysGo_K2 v0 v1 a.1 a.2) sFuel (v2, M)).bind (fun b => some b)
def f_X12_daysGo (v0 : Nat) (v1 : Int32) (M0 : sMem) : Option sMem :=
  sRc 12 127 M0 v0 (
    f_X12_daysGo_L2 v0 v1 ((0 : Int32)) M0)
set_option maxRecDepth 100000 in
set_option maxHeartbeats 4000000 in
theorem m_X12_daysGo (G : sG) (l : Launch) (v0 : Nat) (v1 : Int32) (M0 : sMem) : sCv G l 8 yX12_daysGo cX12_daysGo 3 none [.ref v0, .int v1] M0 (f_X12_daysGo v0 v1 M0) := by
  refine sC_v (ls := [some (.ref v0), some (.int v1), none]) (by decide +kernel) rfl (Nat.le_of_ble_eq_true rfl) (fun r M' K hr => ?_)
  unfold f_X12_daysGo
  have xL2 : ∀ (v0 : Nat) (v1 : Int32) (v2 : Int32) (M : sMem), sX G l 8 yX12_daysGo cX12_daysGo 3 none M0 r M' 2 [some (.ref v0), some (.int v1), some (.int v2)] [] M (f_X12_daysGo_L2 v0 v1 v2 M) K := by
    intro v0 v1 v2 M
    unfold f_X12_daysGo_L2
    refine sX_bind ?_
    refine sX_loop (LS := fun a : (Int32 × sMem) => [some (.ref v0), some (.int v1), some (.int a.1)]) (MM := fun a => a.2) (fun K1 hb1 he1 => ?_) sFuel ((v2, M))
    have xK2 : ∀ (v2 : Int32) (M : sMem), sX G l 8 yX12_daysGo cX12_daysGo 3 none M0 r M' 2 [some (.ref v0), some (.int v1), some (.int v2)] [] M (f_X12_daysGo_K2 v0 v1 v2 M) K1 := by
      intro v2 M
      unfold f_X12_daysGo_K2
      refine sX_iload_n (i := 2) (by decide +kernel) rfl ?_
      refine sX_iload_n (i := 1) (by decide +kernel) rfl ?_
      refine sX_icge (o := 13) (t := 17) (by decide +kernel) (by decide) (fun _ => ?_) (fun _ => ?_)
      · refine sX_exit he1 ?_
        exact sX_some (fun h _ => sW_vret (by decide +kernel) rfl (hr _ h).1.symm (hr _ h).2.symm)
      · refine sX_aload_n (i := 0) (by decide +kernel) rfl ?_
        refine sX_callVv (As := []) (by decide +kernel) lm_X12_579 mf_X12_dayGoes mi_X12_dayGoes mc_12 (m_X12_dayGoes G l v0 M) (fun _ h => sRc_some h) (by decide) rfl rfl (Nat.le_of_ble_eq_true rfl) (fun M1 => ?_)
        refine sX_iinc (i := 2) (n := 1) (v := v2 + (1 : Int32)) (ls2 := [some (.ref v0), some (.int v1), some (.int (v2 + (1 : Int32)))]) (by decide +kernel) rfl rfl (by decide) rfl ?_
        refine sX_goto (o := -12) (t := 2) (by decide +kernel) (by decide) ?_
        exact sX_back (a := (((v2 + (1 : Int32))), M1)) hb1 rfl (sLe_s (sLe_s (sLe_s sLe_e)))
    exact fun a => xK2 a.1 a.2
  refine sX_rc ?_
  refine sX_iconst (n := 0) (v := (0 : Int32)) (by decide +kernel) (by decide) ?_
  refine sX_istore_n (i := 2) (ls2 := [some (.ref v0), some (.int v1), some (.int (0 : Int32))]) (by decide +kernel) (by decide) rfl ?_
  exact sX.le (xL2 v0 v1 ((0 : Int32)) M0) (sLe_s (sLe_s (sLe_s sLe_e)))
def f_X12_putsAside_K7 (v0 : Nat) (v1 : Int32) (M : sMem) : Option ((Int32 × sMem) ⊕ ((sMem))) :=
  if (27 : Int32) ≤ v1 then
    some (.inr M)
  else
    (gR 12 127 60 M v0).bind fun x1 =>
    (gR 12 127 59 M v0).bind fun x2 =>
    (ldI 14 M x2 v1).bind fun x3 =>
    (stI M x1 v1 x3).bind fun M4 =>
    some (.inl ((((v1 + (1 : Int32))), M4)))
def f_X12_putsAside_L7 (v0 : Nat) (v1 : Int32) (M : sMem) : Option sMem :=
  (sItr (fun a : (Int32 × sMem) => f_X12_putsAside_K7 v0 a.1 a.2) sFuel (v1, M)).bind (fun b => some b)
def f_X12_putsAside (v0 : Nat) (M0 : sMem) : Option sMem :=
  sRc 12 127 M0 v0 (
    (pZ 12 127 70 M0 v0 ((1 : Int32))).bind fun M5 =>
    f_X12_putsAside_L7 v0 ((0 : Int32)) M5)
set_option maxRecDepth 100000 in
set_option maxHeartbeats 4000000 in
theorem m_X12_putsAside (G : sG) (l : Launch) (v0 : Nat) (M0 : sMem) : sCv G l 1 yX12_putsAside cX12_putsAside 2 none [.ref v0] M0 (f_X12_putsAside v0 M0) := by
  refine sC_v (ls := [some (.ref v0), none]) (by decide +kernel) rfl (Nat.le_of_ble_eq_true rfl) (fun r M' K hr => ?_)
  unfold f_X12_putsAside
  have xL7 : ∀ (v0 : Nat) (v1 : Int32) (M : sMem), sX G l 1 yX12_putsAside cX12_putsAside 2 none M0 r M' 7 [some (.ref v0), some (.int v1)] [] M (f_X12_putsAside_L7 v0 v1 M) K := by
    intro v0 v1 M
    unfold f_X12_putsAside_L7
    refine sX_bind ?_
    refine sX_loop (LS := fun a : (Int32 × sMem) => [some (.ref v0), some (.int a.1)]) (MM := fun a => a.2) (fun K1 hb1 he1 => ?_) sFuel ((v1, M))
    have xK7 : ∀ (v1 : Int32) (M : sMem), sX G l 1 yX12_putsAside cX12_putsAside 2 none M0 r M' 7 [some (.ref v0), some (.int v1)] [] M (f_X12_putsAside_K7 v0 v1 M) K1 := by
      intro v1 M
      unfold f_X12_putsAside_K7
      refine sX_iload_n (i := 1) (by decide +kernel) rfl ?_
      refine sX_bipush (n := 27) (v := (27 : Int32)) (by decide +kernel) (by decide) ?_
      refine sX_icge (o := 21) (t := 31) (by decide +kernel) (by decide) (fun _ => ?_) (fun _ => ?_)
      · refine sX_exit he1 ?_
        exact sX_some (fun h _ => sW_vret (by decide +kernel) rfl (hr _ h).1.symm (hr _ h).2.symm)
      · refine sX_aload_n (i := 0) (by decide +kernel) rfl ?_
        refine sX_getR lf_X12_154 tk_12_60 (by decide +kernel) (fun x1 => ?_)
        refine sX_iload_n (i := 1) (by decide +kernel) rfl ?_
        refine sX_aload_n (i := 0) (by decide +kernel) rfl ?_
        refine sX_getR lf_X12_151 tk_12_59 (by decide +kernel) (fun x2 => ?_)
        refine sX_iload_n (i := 1) (by decide +kernel) rfl ?_
        refine sX_iaload (by decide +kernel) (fun x3 => ?_)
        refine sX_iastore (by decide +kernel) (by decide) (fun M4 => ?_)
        refine sX_iinc (i := 1) (n := 1) (v := v1 + (1 : Int32)) (ls2 := [some (.ref v0), some (.int (v1 + (1 : Int32)))]) (by decide +kernel) rfl rfl (by decide) rfl ?_
        refine sX_goto (o := -21) (t := 7) (by decide +kernel) (by decide) ?_
        exact sX_back (a := (((v1 + (1 : Int32))), M4)) hb1 rfl (sLe_s (sLe_s sLe_e))
    exact fun a => xK7 a.1 a.2
  refine sX_rc ?_
  refine sX_aload_n (i := 0) (by decide +kernel) rfl ?_
  refine sX_iconst (n := 1) (v := (1 : Int32)) (by decide +kernel) (by decide) ?_
  refine sX_putZ lf_X12_551 tp_12_70 (by decide +kernel) (by decide) (fun M5 => ?_)
  refine sX_iconst (n := 0) (v := (0 : Int32)) (by decide +kernel) (by decide) ?_
  refine sX_istore_n (i := 1) (ls2 := [some (.ref v0), some (.int (0 : Int32))]) (by decide +kernel) (by decide) rfl ?_
  exact sX.le (xL7 v0 ((0 : Int32)) M5) (sLe_s (sLe_s sLe_e))
def f_X12_takesBack_B26 (v0 : Nat) (M : sMem) : Option sMem :=
  (pZ 12 127 70 M v0 ((0 : Int32))).bind fun M1 =>
  some M1
def f_X12_takesBack_K2 (v0 : Nat) (v1 : Int32) (M : sMem) : Option ((Int32 × sMem) ⊕ ((sMem))) :=
  if (27 : Int32) ≤ v1 then
    some (.inr M)
  else
    (gR 12 127 59 M v0).bind fun x2 =>
    (gR 12 127 60 M v0).bind fun x3 =>
    (ldI 14 M x3 v1).bind fun x4 =>
    (stI M x2 v1 x4).bind fun M5 =>
    some (.inl ((((v1 + (1 : Int32))), M5)))
def f_X12_takesBack_L2 (v0 : Nat) (v1 : Int32) (M : sMem) : Option sMem :=
  (sItr (fun a : (Int32 × sMem) => f_X12_takesBack_K2 v0 a.1 a.2) sFuel (v1, M)).bind (fun b => f_X12_takesBack_B26 v0 b)
def f_X12_takesBack (v0 : Nat) (M0 : sMem) : Option sMem :=
  sRc 12 127 M0 v0 (
    f_X12_takesBack_L2 v0 ((0 : Int32)) M0)
set_option maxRecDepth 100000 in
set_option maxHeartbeats 4000000 in
theorem m_X12_takesBack (G : sG) (l : Launch) (v0 : Nat) (M0 : sMem) : sCv G l 1 yX12_takesBack cX12_takesBack 2 none [.ref v0] M0 (f_X12_takesBack v0 M0) := by
  refine sC_v (ls := [some (.ref v0), none]) (by decide +kernel) rfl (Nat.le_of_ble_eq_true rfl) (fun r M' K hr => ?_)
  unfold f_X12_takesBack
  have xB26 : ∀ (v0 : Nat) (M : sMem), sX G l 1 yX12_takesBack cX12_takesBack 2 none M0 r M' 26 [some (.ref v0), none] [] M (f_X12_takesBack_B26 v0 M) K := by
    intro v0 M
    unfold f_X12_takesBack_B26
    refine sX_aload_n (i := 0) (by decide +kernel) rfl ?_
    refine sX_iconst (n := 0) (v := (0 : Int32)) (by decide +kernel) (by decide) ?_
    refine sX_putZ lf_X12_551 tp_12_70 (by decide +kernel) (by decide) (fun M1 => ?_)
    exact sX_some (fun h _ => sW_vret (by decide +kernel) rfl (hr _ h).1.symm (hr _ h).2.symm)
  have xL2 : ∀ (v0 : Nat) (v1 : Int32) (M : sMem), sX G l 1 yX12_takesBack cX12_takesBack 2 none M0 r M' 2 [some (.ref v0), some (.int v1)] [] M (f_X12_takesBack_L2 v0 v1 M) K := by
    intro v0 v1 M
    unfold f_X12_takesBack_L2
    refine sX_bind ?_
    refine sX_loop (LS := fun a : (Int32 × sMem) => [some (.ref v0), some (.int a.1)]) (MM := fun a => a.2) (fun K1 hb1 he1 => ?_) sFuel ((v1, M))
    have xK2 : ∀ (v1 : Int32) (M : sMem), sX G l 1 yX12_takesBack cX12_takesBack 2 none M0 r M' 2 [some (.ref v0), some (.int v1)] [] M (f_X12_takesBack_K2 v0 v1 M) K1 := by
      intro v1 M
      unfold f_X12_takesBack_K2
      refine sX_iload_n (i := 1) (by decide +kernel) rfl ?_
      refine sX_bipush (n := 27) (v := (27 : Int32)) (by decide +kernel) (by decide) ?_
      refine sX_icge (o := 21) (t := 26) (by decide +kernel) (by decide) (fun _ => ?_) (fun _ => ?_)
      · refine sX_exit he1 ?_
        exact sX.le (xB26 v0 M) (sLe_s (sLe_n sLe_e))
      · refine sX_aload_n (i := 0) (by decide +kernel) rfl ?_
        refine sX_getR lf_X12_151 tk_12_59 (by decide +kernel) (fun x2 => ?_)
        refine sX_iload_n (i := 1) (by decide +kernel) rfl ?_
        refine sX_aload_n (i := 0) (by decide +kernel) rfl ?_
        refine sX_getR lf_X12_154 tk_12_60 (by decide +kernel) (fun x3 => ?_)
        refine sX_iload_n (i := 1) (by decide +kernel) rfl ?_
        refine sX_iaload (by decide +kernel) (fun x4 => ?_)
        refine sX_iastore (by decide +kernel) (by decide) (fun M5 => ?_)
        refine sX_iinc (i := 1) (n := 1) (v := v1 + (1 : Int32)) (ls2 := [some (.ref v0), some (.int (v1 + (1 : Int32)))]) (by decide +kernel) rfl rfl (by decide) rfl ?_
        refine sX_goto (o := -21) (t := 2) (by decide +kernel) (by decide) ?_
        exact sX_back (a := (((v1 + (1 : Int32))), M5)) hb1 rfl (sLe_s (sLe_s sLe_e))
    exact fun a => xK2 a.1 a.2
  refine sX_rc ?_
  refine sX_iconst (n := 0) (v := (0 : Int32)) (by decide +kernel) (by decide) ?_
  refine sX_istore_n (i := 1) (ls2 := [some (.ref v0), some (.int (0 : Int32))]) (by decide +kernel) (by decide) rfl ?_
  exact sX.le (xL2 v0 ((0 : Int32)) M0) (sLe_s (sLe_s sLe_e))
def f_X12_isAhead (v0 : Nat) (v1 : Int32) (v2 : Int32) (v3 : Int32) (M0 : sMem) : Option Int32 :=
  sRc 12 127 M0 v0 (
    (gI 12 127 57 M0 v0).bind fun x1 =>
    if x1 = 0 then
      some ((0 : Int32))
    else
      (f_X12_isIn v1.toInt64 v2.toInt64 v3.toInt64 M0).bind fun x2 =>
      if x2 = 0 then
        some ((0 : Int32))
      else
        (gR 12 127 59 M0 v0).bind fun x3 =>
        (ldI 14 M0 x3 ((0 : Int32))).bind fun x4 =>
        if (999 : Int32) < (x4 + v1) then
          some ((0 : Int32))
        else
          some ((1 : Int32)))
set_option maxRecDepth 100000 in
set_option maxHeartbeats 4000000 in
theorem m_X12_isAhead (G : sG) (l : Launch) (v0 : Nat) (v1 : Int32) (v2 : Int32) (v3 : Int32) (M0 : sMem) : sCp G l 2 yX12_isAhead cX12_isAhead 4 (some .boolean) [.ref v0, .int v1, .int v2, .int v3] M0 rvI (f_X12_isAhead v0 v1 v2 v3 M0) := by
  refine sC_p (ls := [some (.ref v0), some (.int v1), some (.int v2), some (.int v3)]) (by decide +kernel) rfl (Nat.le_of_ble_eq_true rfl) (fun r M' K hr => ?_)
  unfold f_X12_isAhead
  refine sX_rc ?_
  refine sX_aload_n (i := 0) (by decide +kernel) rfl ?_
  refine sX_getI lf_X12_450 tk_12_57 (by decide +kernel) (fun x1 => ?_)
  refine sX_ifeq (o := 33) (t := 37) (by decide +kernel) (by decide) (fun _ => ?_) (fun _ => ?_)
  · refine sX_iconst (n := 0) (v := (0 : Int32)) (by decide +kernel) (by decide) ?_
    exact sX_some (fun h _ => sW_zret (by decide +kernel) rfl (by decide) (hr _ h).1.symm (hr _ h).2.symm)
  · refine sX_iload_n (i := 1) (by decide +kernel) rfl ?_
    refine sX_i2l (by decide +kernel) ?_
    refine sX_iload_n (i := 2) (by decide +kernel) rfl ?_
    refine sX_i2l (by decide +kernel) ?_
    refine sX_iload_n (i := 3) (by decide +kernel) rfl ?_
    refine sX_i2l (by decide +kernel) ?_
    refine sX_callSp (As := [.long v1.toInt64, .long v2.toInt64, .long v3.toInt64]) (by decide +kernel) lm_X12_343 mf_X12_isIn ms_X12_isIn (m_X12_isIn G l v1.toInt64 v2.toInt64 v3.toInt64 M0) (by decide) rfl rfl (Nat.le_of_ble_eq_true rfl) (fun x2 => ?_)
    refine sX_ifeq (o := 21) (t := 37) (by decide +kernel) (by decide) (fun _ => ?_) (fun _ => ?_)
    · refine sX_iconst (n := 0) (v := (0 : Int32)) (by decide +kernel) (by decide) ?_
      exact sX_some (fun h _ => sW_zret (by decide +kernel) rfl (by decide) (hr _ h).1.symm (hr _ h).2.symm)
    · refine sX_aload_n (i := 0) (by decide +kernel) rfl ?_
      refine sX_getR lf_X12_151 tk_12_59 (by decide +kernel) (fun x3 => ?_)
      refine sX_iconst (n := 0) (v := (0 : Int32)) (by decide +kernel) (by decide) ?_
      refine sX_iaload (by decide +kernel) (fun x4 => ?_)
      refine sX_iload_n (i := 1) (by decide +kernel) rfl ?_
      refine sX_iadd (by decide +kernel) ?_
      refine sX_sipush (n := 999) (v := (999 : Int32)) (by decide +kernel) (by decide) ?_
      refine sX_icgt (o := 7) (t := 37) (by decide +kernel) (by decide) (fun _ => ?_) (fun _ => ?_)
      · refine sX_iconst (n := 0) (v := (0 : Int32)) (by decide +kernel) (by decide) ?_
        exact sX_some (fun h _ => sW_zret (by decide +kernel) rfl (by decide) (hr _ h).1.symm (hr _ h).2.symm)
      · refine sX_iconst (n := 1) (v := (1 : Int32)) (by decide +kernel) (by decide) ?_
        refine sX_goto (o := 4) (t := 38) (by decide +kernel) (by decide) ?_
        exact sX_some (fun h _ => sW_zret (by decide +kernel) rfl (by decide) (hr _ h).1.symm (hr _ h).2.symm)
def f_X12_bits_K4 (v1 : Int32) (v2 : Int32) (M0 : sMem) : Option ((Int32 × Int32) ⊕ ((Int32))) :=
  if v2 = 0 then
    some (.inr v1)
  else
    some (.inl ((((v1 + (1 : Int32))), ((v2 &&& (v2 - (1 : Int32)))))))
def f_X12_bits_L4 (v1 : Int32) (v2 : Int32) (M0 : sMem) : Option Int32 :=
  (sItr (fun a : (Int32 × Int32) => f_X12_bits_K4 a.1 a.2 M0) sFuel (v1, v2)).bind (fun b => some b)
def f_X12_bits (v0 : Int32) (M0 : sMem) : Option Int32 :=
  f_X12_bits_L4 ((0 : Int32)) v0 M0
set_option maxRecDepth 100000 in
set_option maxHeartbeats 4000000 in
theorem m_X12_bits (G : sG) (l : Launch) (v0 : Int32) (M0 : sMem) : sCp G l 1 yX12_bits cX12_bits 3 (some .int) [.int v0] M0 rvI (f_X12_bits v0 M0) := by
  refine sC_p (ls := [some (.int v0), none, none]) (by decide +kernel) rfl (Nat.le_of_ble_eq_true rfl) (fun r M' K hr => ?_)
  unfold f_X12_bits
  have xL4 : ∀ (v1 : Int32) (v2 : Int32), sX G l 1 yX12_bits cX12_bits 3 (some .int) M0 r M' 4 [none, some (.int v1), some (.int v2)] [] M0 (f_X12_bits_L4 v1 v2 M0) K := by
    intro v1 v2
    unfold f_X12_bits_L4
    refine sX_bind ?_
    refine sX_loop (LS := fun a : (Int32 × Int32) => [none, some (.int a.1), some (.int a.2)]) (MM := fun a => M0) (fun K1 hb1 he1 => ?_) sFuel ((v1, v2))
    have xK4 : ∀ (v1 : Int32) (v2 : Int32), sX G l 1 yX12_bits cX12_bits 3 (some .int) M0 r M' 4 [none, some (.int v1), some (.int v2)] [] M0 (f_X12_bits_K4 v1 v2 M0) K1 := by
      intro v1 v2
      unfold f_X12_bits_K4
      refine sX_iload_n (i := 2) (by decide +kernel) rfl ?_
      refine sX_ifeq (o := 15) (t := 20) (by decide +kernel) (by decide) (fun _ => ?_) (fun _ => ?_)
      · refine sX_iload_n (i := 1) (by decide +kernel) rfl ?_
        refine sX_exit he1 ?_
        exact sX_some (fun h _ => sW_iret (by decide +kernel) rfl (hr _ h).1.symm (hr _ h).2.symm)
      · refine sX_iinc (i := 1) (n := 1) (v := v1 + (1 : Int32)) (ls2 := [none, some (.int (v1 + (1 : Int32))), some (.int v2)]) (by decide +kernel) rfl rfl (by decide) rfl ?_
        refine sX_iload_n (i := 2) (by decide +kernel) rfl ?_
        refine sX_iload_n (i := 2) (by decide +kernel) rfl ?_
        refine sX_iconst (n := 1) (v := (1 : Int32)) (by decide +kernel) (by decide) ?_
        refine sX_isub (by decide +kernel) ?_
        refine sX_iand (by decide +kernel) ?_
        refine sX_istore_n (i := 2) (ls2 := [none, some (.int (v1 + (1 : Int32))), some (.int (v2 &&& (v2 - (1 : Int32))))]) (by decide +kernel) (by decide) rfl ?_
        refine sX_goto (o := -13) (t := 4) (by decide +kernel) (by decide) ?_
        exact sX_back (a := (((v1 + (1 : Int32))), ((v2 &&& (v2 - (1 : Int32)))))) hb1 rfl (sLe_n (sLe_s (sLe_s sLe_e)))
    exact fun a => xK4 a.1 a.2
  refine sX_iconst (n := 0) (v := (0 : Int32)) (by decide +kernel) (by decide) ?_
  refine sX_istore_n (i := 1) (ls2 := [some (.int v0), some (.int (0 : Int32)), none]) (by decide +kernel) (by decide) rfl ?_
  refine sX_iload_n (i := 0) (by decide +kernel) rfl ?_
  refine sX_istore_n (i := 2) (ls2 := [some (.int v0), some (.int (0 : Int32)), some (.int v0)]) (by decide +kernel) (by decide) rfl ?_
  exact sX.le (xL4 ((0 : Int32)) v0) (sLe_n (sLe_s (sLe_s sLe_e)))
def f_X12_has (v0 : Nat) (v1 : Int32) (M0 : sMem) : Option Int32 :=
  sRc 12 127 M0 v0 (
    if v1 = (0 : Int32) then
      (gR 12 127 45 M0 v0).bind fun x14 =>
      (ldI 14 M0 x14 ((2 : Int32))).bind fun x15 =>
      some x15
    else
    if v1 = (1 : Int32) then
      (f_X12_gateMany v0 M0).bind fun x13 =>
      some x13
    else
    if v1 = (2 : Int32) then
      (f_X12_placeMany v0 M0).bind fun x12 =>
      some x12
    else
    if v1 = (3 : Int32) then
      (f_X12_roadMany v0 M0).bind fun x11 =>
      some x11
    else
    if v1 = (4 : Int32) then
      (f_X12_eraMany v0 M0).bind fun x10 =>
      some x10
    else
    if v1 = (5 : Int32) then
      (f_X12_carMany v0 M0).bind fun x9 =>
      some x9
    else
    if v1 = (6 : Int32) then
      (gR 12 127 59 M0 v0).bind fun x7 =>
      (ldI 14 M0 x7 ((0 : Int32))).bind fun x8 =>
      some x8
    else
    if v1 = (7 : Int32) then
      (f_X12_upSet v0 M0).bind fun x5 =>
      (f_X12_bits x5 M0).bind fun x6 =>
      some x6
    else
    if v1 = (8 : Int32) then
      (gR 12 127 59 M0 v0).bind fun x3 =>
      (ldI 14 M0 x3 ((27 : Int32))).bind fun x4 =>
      some x4
    else
    if v1 = (9 : Int32) then
      (gI 12 127 80 M0 v0).bind fun x2 =>
      some x2
    else
    if v1 = (10 : Int32) then
      (gI 12 127 85 M0 v0).bind fun x1 =>
      some x1
    else
    some ((-1 : Int32)))
set_option maxRecDepth 100000 in
set_option maxHeartbeats 4000000 in
theorem m_X12_has (G : sG) (l : Launch) (v0 : Nat) (v1 : Int32) (M0 : sMem) : sCp G l 3 yX12_has cX12_has 2 (some .int) [.ref v0, .int v1] M0 rvI (f_X12_has v0 v1 M0) := by
  refine sC_p (ls := [some (.ref v0), some (.int v1)]) (by decide +kernel) rfl (Nat.le_of_ble_eq_true rfl) (fun r M' K hr => ?_)
  unfold f_X12_has
  refine sX_rc ?_
  refine sX_iload_n (i := 1) (by decide +kernel) rfl ?_
  refine sX_if (fun hx => ?_) (fun n0 => ?_)
  · refine sX_tin (n := (0 : Int32)) (t := 60) (off := 59) (dflt := 124) (lo := 0) (hi := 10) (offs := #[59, 66, 71, 76, 81, 86, 91, 98, 106, 114, 119]) (len := 59) (by decide +kernel) hx (by decide) (by decide) (by decide) (by decide) ?_
    refine sX_aload_n (i := 0) (by decide +kernel) rfl ?_
    refine sX_getR lf_X12_120 tk_12_45 (by decide +kernel) (fun x14 => ?_)
    refine sX_iconst (n := 2) (v := (2 : Int32)) (by decide +kernel) (by decide) ?_
    refine sX_iaload (by decide +kernel) (fun x15 => ?_)
    exact sX_some (fun h _ => sW_iret (by decide +kernel) rfl (hr _ h).1.symm (hr _ h).2.symm)
  · refine sX_if (fun hx => ?_) (fun n1 => ?_)
    · refine sX_tin (n := (1 : Int32)) (t := 67) (off := 66) (dflt := 124) (lo := 0) (hi := 10) (offs := #[59, 66, 71, 76, 81, 86, 91, 98, 106, 114, 119]) (len := 59) (by decide +kernel) hx (by decide) (by decide) (by decide) (by decide) ?_
      refine sX_aload_n (i := 0) (by decide +kernel) rfl ?_
      refine sX_callVp (As := []) (by decide +kernel) lm_X12_460 mf_X12_gateMany mi_X12_gateMany mc_12 (m_X12_gateMany G l v0 M0) (fun _ h => sRc_some h) (by decide) rfl rfl (Nat.le_of_ble_eq_true rfl) (fun x13 => ?_)
      exact sX_some (fun h _ => sW_iret (by decide +kernel) rfl (hr _ h).1.symm (hr _ h).2.symm)
    · refine sX_if (fun hx => ?_) (fun n2 => ?_)
      · refine sX_tin (n := (2 : Int32)) (t := 72) (off := 71) (dflt := 124) (lo := 0) (hi := 10) (offs := #[59, 66, 71, 76, 81, 86, 91, 98, 106, 114, 119]) (len := 59) (by decide +kernel) hx (by decide) (by decide) (by decide) (by decide) ?_
        refine sX_aload_n (i := 0) (by decide +kernel) rfl ?_
        refine sX_callVp (As := []) (by decide +kernel) lm_X12_463 mf_X12_placeMany mi_X12_placeMany mc_12 (m_X12_placeMany G l v0 M0) (fun _ h => sRc_some h) (by decide) rfl rfl (Nat.le_of_ble_eq_true rfl) (fun x12 => ?_)
        exact sX_some (fun h _ => sW_iret (by decide +kernel) rfl (hr _ h).1.symm (hr _ h).2.symm)
      · refine sX_if (fun hx => ?_) (fun n3 => ?_)
        · refine sX_tin (n := (3 : Int32)) (t := 77) (off := 76) (dflt := 124) (lo := 0) (hi := 10) (offs := #[59, 66, 71, 76, 81, 86, 91, 98, 106, 114, 119]) (len := 59) (by decide +kernel) hx (by decide) (by decide) (by decide) (by decide) ?_
          refine sX_aload_n (i := 0) (by decide +kernel) rfl ?_
          refine sX_callVp (As := []) (by decide +kernel) lm_X12_528 mf_X12_roadMany mi_X12_roadMany mc_12 (m_X12_roadMany G l v0 M0) (fun _ h => sRc_some h) (by decide) rfl rfl (Nat.le_of_ble_eq_true rfl) (fun x11 => ?_)
          exact sX_some (fun h _ => sW_iret (by decide +kernel) rfl (hr _ h).1.symm (hr _ h).2.symm)
        · refine sX_if (fun hx => ?_) (fun n4 => ?_)
          · refine sX_tin (n := (4 : Int32)) (t := 82) (off := 81) (dflt := 124) (lo := 0) (hi := 10) (offs := #[59, 66, 71, 76, 81, 86, 91, 98, 106, 114, 119]) (len := 59) (by decide +kernel) hx (by decide) (by decide) (by decide) (by decide) ?_
            refine sX_aload_n (i := 0) (by decide +kernel) rfl ?_
            refine sX_callVp (As := []) (by decide +kernel) lm_X12_466 mf_X12_eraMany mi_X12_eraMany mc_12 (m_X12_eraMany G l v0 M0) (fun _ h => sRc_some h) (by decide) rfl rfl (Nat.le_of_ble_eq_true rfl) (fun x10 => ?_)
            exact sX_some (fun h _ => sW_iret (by decide +kernel) rfl (hr _ h).1.symm (hr _ h).2.symm)
          · refine sX_if (fun hx => ?_) (fun n5 => ?_)
            · refine sX_tin (n := (5 : Int32)) (t := 87) (off := 86) (dflt := 124) (lo := 0) (hi := 10) (offs := #[59, 66, 71, 76, 81, 86, 91, 98, 106, 114, 119]) (len := 59) (by decide +kernel) hx (by decide) (by decide) (by decide) (by decide) ?_
              refine sX_aload_n (i := 0) (by decide +kernel) rfl ?_
              refine sX_callVp (As := []) (by decide +kernel) lm_X12_469 mf_X12_carMany mi_X12_carMany mc_12 (m_X12_carMany G l v0 M0) (fun _ h => sRc_some h) (by decide) rfl rfl (Nat.le_of_ble_eq_true rfl) (fun x9 => ?_)
              exact sX_some (fun h _ => sW_iret (by decide +kernel) rfl (hr _ h).1.symm (hr _ h).2.symm)
            · refine sX_if (fun hx => ?_) (fun n6 => ?_)
              · refine sX_tin (n := (6 : Int32)) (t := 92) (off := 91) (dflt := 124) (lo := 0) (hi := 10) (offs := #[59, 66, 71, 76, 81, 86, 91, 98, 106, 114, 119]) (len := 59) (by decide +kernel) hx (by decide) (by decide) (by decide) (by decide) ?_
                refine sX_aload_n (i := 0) (by decide +kernel) rfl ?_
                refine sX_getR lf_X12_151 tk_12_59 (by decide +kernel) (fun x7 => ?_)
                refine sX_iconst (n := 0) (v := (0 : Int32)) (by decide +kernel) (by decide) ?_
                refine sX_iaload (by decide +kernel) (fun x8 => ?_)
                exact sX_some (fun h _ => sW_iret (by decide +kernel) rfl (hr _ h).1.symm (hr _ h).2.symm)
              · refine sX_if (fun hx => ?_) (fun n7 => ?_)
                · refine sX_tin (n := (7 : Int32)) (t := 99) (off := 98) (dflt := 124) (lo := 0) (hi := 10) (offs := #[59, 66, 71, 76, 81, 86, 91, 98, 106, 114, 119]) (len := 59) (by decide +kernel) hx (by decide) (by decide) (by decide) (by decide) ?_
                  refine sX_aload_n (i := 0) (by decide +kernel) rfl ?_
                  refine sX_callVp (As := []) (by decide +kernel) lm_X12_544 mf_X12_upSet mi_X12_upSet mc_12 (m_X12_upSet G l v0 M0) (fun _ h => sRc_some h) (by decide) rfl rfl (Nat.le_of_ble_eq_true rfl) (fun x5 => ?_)
                  refine sX_callSp (As := [.int x5]) (by decide +kernel) lm_X12_582 mf_X12_bits ms_X12_bits (m_X12_bits G l x5 M0) (by decide) rfl rfl (Nat.le_of_ble_eq_true rfl) (fun x6 => ?_)
                  exact sX_some (fun h _ => sW_iret (by decide +kernel) rfl (hr _ h).1.symm (hr _ h).2.symm)
                · refine sX_if (fun hx => ?_) (fun n8 => ?_)
                  · refine sX_tin (n := (8 : Int32)) (t := 107) (off := 106) (dflt := 124) (lo := 0) (hi := 10) (offs := #[59, 66, 71, 76, 81, 86, 91, 98, 106, 114, 119]) (len := 59) (by decide +kernel) hx (by decide) (by decide) (by decide) (by decide) ?_
                    refine sX_aload_n (i := 0) (by decide +kernel) rfl ?_
                    refine sX_getR lf_X12_151 tk_12_59 (by decide +kernel) (fun x3 => ?_)
                    refine sX_bipush (n := 27) (v := (27 : Int32)) (by decide +kernel) (by decide) ?_
                    refine sX_iaload (by decide +kernel) (fun x4 => ?_)
                    exact sX_some (fun h _ => sW_iret (by decide +kernel) rfl (hr _ h).1.symm (hr _ h).2.symm)
                  · refine sX_if (fun hx => ?_) (fun n9 => ?_)
                    · refine sX_tin (n := (9 : Int32)) (t := 115) (off := 114) (dflt := 124) (lo := 0) (hi := 10) (offs := #[59, 66, 71, 76, 81, 86, 91, 98, 106, 114, 119]) (len := 59) (by decide +kernel) hx (by decide) (by decide) (by decide) (by decide) ?_
                      refine sX_aload_n (i := 0) (by decide +kernel) rfl ?_
                      refine sX_getI lf_X12_457 tk_12_80 (by decide +kernel) (fun x2 => ?_)
                      exact sX_some (fun h _ => sW_iret (by decide +kernel) rfl (hr _ h).1.symm (hr _ h).2.symm)
                    · refine sX_if (fun hx => ?_) (fun n10 => ?_)
                      · refine sX_tin (n := (10 : Int32)) (t := 120) (off := 119) (dflt := 124) (lo := 0) (hi := 10) (offs := #[59, 66, 71, 76, 81, 86, 91, 98, 106, 114, 119]) (len := 59) (by decide +kernel) hx (by decide) (by decide) (by decide) (by decide) ?_
                        refine sX_aload_n (i := 0) (by decide +kernel) rfl ?_
                        refine sX_getI lf_X12_454 tk_12_85 (by decide +kernel) (fun x1 => ?_)
                        exact sX_some (fun h _ => sW_iret (by decide +kernel) rfl (hr _ h).1.symm (hr _ h).2.symm)
                      · refine sX_tout (t := 125) (dflt := 124) (lo := 0) (hi := 10) (offs := #[59, 66, 71, 76, 81, 86, 91, 98, 106, 114, 119]) (len := 59) (by decide +kernel) (by have e0 := sNe n0 (z := 0) (by decide); have e1 := sNe n1 (z := 1) (by decide); have e2 := sNe n2 (z := 2) (by decide); have e3 := sNe n3 (z := 3) (by decide); have e4 := sNe n4 (z := 4) (by decide); have e5 := sNe n5 (z := 5) (by decide); have e6 := sNe n6 (z := 6) (by decide); have e7 := sNe n7 (z := 7) (by decide); have e8 := sNe n8 (z := 8) (by decide); have e9 := sNe n9 (z := 9) (by decide); have e10 := sNe n10 (z := 10) (by decide); omega) (by decide) ?_
                        refine sX_iconst (n := -1) (v := (-1 : Int32)) (by decide +kernel) (by decide) ?_
                        exact sX_some (fun h _ => sW_iret (by decide +kernel) rfl (hr _ h).1.symm (hr _ h).2.symm)
def f_X12_letter_B124 (v4 : Int64) (M0 : sMem) : Option Int32 :=
  some (((v4 - v4 / (27 : Int64) * (27 : Int64))).toInt32)
def f_X12_letter_K104 (v3 : Int32) (v4 : Int64) (v7 : Int32) (M0 : sMem) : Option ((Int64 × Int32) ⊕ ((Int64))) :=
  if v7 ≤ v3 then
    some (.inr v4)
  else
    some (.inl ((((v4 / (27 : Int64))), ((v7 + (-1 : Int32))))))
def f_X12_letter_L104 (v3 : Int32) (v4 : Int64) (v7 : Int32) (M0 : sMem) : Option Int32 :=
  (sItr (fun a : (Int64 × Int32) => f_X12_letter_K104 v3 a.1 a.2 M0) sFuel (v4, v7)).bind (fun b => f_X12_letter_B124 b M0)
def f_X12_letter_B90 (v3 : Int32) (v4 : Int64) (v6 : Int32) (M0 : sMem) : Option Int32 :=
  if v3 < v6 then
    f_X12_letter_L104 v3 v4 ((v6 - (1 : Int32))) M0
  else
    some ((0 : Int32))
def f_X12_letter_K69 (v3 : Int32) (v4 : Int64) (v6 : Int32) (v7 : Int64) (M0 : sMem) : Option ((Int32 × Int64) ⊕ ((Int32))) :=
  if v7 ≤ (0 : Int64) then
    some (.inr v6)
  else
    some (.inl ((((v6 + (1 : Int32))), ((v7 / (27 : Int64))))))
def f_X12_letter_L69 (v3 : Int32) (v4 : Int64) (v6 : Int32) (v7 : Int64) (M0 : sMem) : Option Int32 :=
  (sItr (fun a : (Int32 × Int64) => f_X12_letter_K69 v3 v4 a.1 a.2 M0) sFuel (v6, v7)).bind (fun b => f_X12_letter_B90 v3 v4 b M0)
def f_X12_letter (v0 : Nat) (v1 : Int32) (v2 : Int32) (v3 : Int32) (M0 : sMem) : Option Int32 :=
  sRc 12 127 M0 v0 (
    (f_X12_isIn v1.toInt64 ((0 : Int64)) ((3 : Int64)) M0).bind fun x1 =>
    if x1 = 0 then
      some ((-1 : Int32))
    else
      (gR 12 127 46 M0 v0).bind fun x2 =>
      (ldI 14 M0 x2 (((5 : Int32) + v1))).bind fun x3 =>
      (f_X12_isIn v2.toInt64 ((0 : Int64)) (((x3 - (1 : Int32))).toInt64) M0).bind fun x4 =>
      if x4 = 0 then
        some ((-1 : Int32))
      else
        (f_X12_isIn v3.toInt64 ((0 : Int64)) ((5 : Int64)) M0).bind fun x5 =>
        if x5 = 0 then
          some ((-1 : Int32))
        else
          (gR 12 127 47 M0 v0).bind fun x6 =>
          (ldJ M0 x6 ((((32 : Int32) + ((8 : Int32) * v1)) + v2))).bind fun x7 =>
          f_X12_letter_L69 v3 x7 ((0 : Int32)) x7 M0)
set_option maxRecDepth 100000 in
set_option maxHeartbeats 4000000 in
theorem m_X12_letter (G : sG) (l : Launch) (v0 : Nat) (v1 : Int32) (v2 : Int32) (v3 : Int32) (M0 : sMem) : sCp G l 2 yX12_letter cX12_letter 9 (some .int) [.ref v0, .int v1, .int v2, .int v3] M0 rvI (f_X12_letter v0 v1 v2 v3 M0) := by
  refine sC_p (ls := [some (.ref v0), some (.int v1), some (.int v2), some (.int v3), none, none, none, none, none]) (by decide +kernel) rfl (Nat.le_of_ble_eq_true rfl) (fun r M' K hr => ?_)
  unfold f_X12_letter
  have xB124 : ∀ (v4 : Int64), sX G l 2 yX12_letter cX12_letter 9 (some .int) M0 r M' 124 [none, none, none, none, some (.long v4), none, none, none, none] [] M0 (f_X12_letter_B124 v4 M0) K := by
    intro v4
    unfold f_X12_letter_B124
    refine sX_lload (i := 4) (by decide +kernel) rfl ?_
    refine sX_ldc2 (v := (27 : Int64)) (by decide +kernel) kl_X12_354 ?_
    refine sX_lrem (by decide +kernel) (by decide) ?_
    refine sX_l2i (by decide +kernel) ?_
    exact sX_some (fun h _ => sW_iret (by decide +kernel) rfl (hr _ h).1.symm (hr _ h).2.symm)
  have xL104 : ∀ (v3 : Int32) (v4 : Int64) (v7 : Int32), sX G l 2 yX12_letter cX12_letter 9 (some .int) M0 r M' 104 [none, none, none, some (.int v3), some (.long v4), none, none, some (.int v7), none] [] M0 (f_X12_letter_L104 v3 v4 v7 M0) K := by
    intro v3 v4 v7
    unfold f_X12_letter_L104
    refine sX_bind ?_
    refine sX_loop (LS := fun a : (Int64 × Int32) => [none, none, none, some (.int v3), some (.long a.1), none, none, some (.int a.2), none]) (MM := fun a => M0) (fun K1 hb1 he1 => ?_) sFuel ((v4, v7))
    have xK104 : ∀ (v4 : Int64) (v7 : Int32), sX G l 2 yX12_letter cX12_letter 9 (some .int) M0 r M' 104 [none, none, none, some (.int v3), some (.long v4), none, none, some (.int v7), none] [] M0 (f_X12_letter_K104 v3 v4 v7 M0) K1 := by
      intro v4 v7
      unfold f_X12_letter_K104
      refine sX_iload (i := 7) (by decide +kernel) rfl ?_
      refine sX_iload_n (i := 3) (by decide +kernel) rfl ?_
      refine sX_icle (o := 17) (t := 124) (by decide +kernel) (by decide) (fun _ => ?_) (fun _ => ?_)
      · refine sX_exit he1 ?_
        exact sX.le (xB124 v4) (sLe_n (sLe_n (sLe_n (sLe_n (sLe_s (sLe_n (sLe_n (sLe_n (sLe_n sLe_e)))))))))
      · refine sX_lload (i := 4) (by decide +kernel) rfl ?_
        refine sX_ldc2 (v := (27 : Int64)) (by decide +kernel) kl_X12_354 ?_
        refine sX_ldiv (by decide +kernel) (by decide) ?_
        refine sX_lstore (i := 4) (ls2 := [none, none, none, some (.int v3), some (.long (v4 / (27 : Int64))), none, none, some (.int v7), none]) (by decide +kernel) (by decide) rfl ?_
        refine sX_iinc (i := 7) (n := -1) (v := v7 + (-1 : Int32)) (ls2 := [none, none, none, some (.int v3), some (.long (v4 / (27 : Int64))), none, none, some (.int (v7 + (-1 : Int32))), none]) (by decide +kernel) rfl rfl (by decide) rfl ?_
        refine sX_goto (o := -17) (t := 104) (by decide +kernel) (by decide) ?_
        exact sX_back (a := (((v4 / (27 : Int64))), ((v7 + (-1 : Int32))))) hb1 rfl (sLe_n (sLe_n (sLe_n (sLe_s (sLe_s (sLe_n (sLe_n (sLe_s (sLe_n sLe_e)))))))))
    exact fun a => xK104 a.1 a.2
  have xB90 : ∀ (v3 : Int32) (v4 : Int64) (v6 : Int32), sX G l 2 yX12_letter cX12_letter 9 (some .int) M0 r M' 90 [none, none, none, some (.int v3), some (.long v4), none, some (.int v6), none, none] [] M0 (f_X12_letter_B90 v3 v4 v6 M0) K := by
    intro v3 v4 v6
    unfold f_X12_letter_B90
    refine sX_iload_n (i := 3) (by decide +kernel) rfl ?_
    refine sX_iload (i := 6) (by decide +kernel) rfl ?_
    refine sX_iclt (o := 5) (t := 98) (by decide +kernel) (by decide) (fun _ => ?_) (fun _ => ?_)
    · refine sX_iload (i := 6) (by decide +kernel) rfl ?_
      refine sX_iconst (n := 1) (v := (1 : Int32)) (by decide +kernel) (by decide) ?_
      refine sX_isub (by decide +kernel) ?_
      refine sX_istore (i := 7) (ls2 := [none, none, none, some (.int v3), some (.long v4), none, some (.int v6), some (.int (v6 - (1 : Int32))), none]) (by decide +kernel) (by decide) rfl ?_
      exact sX.le (xL104 v3 v4 ((v6 - (1 : Int32)))) (sLe_n (sLe_n (sLe_n (sLe_s (sLe_s (sLe_n (sLe_n (sLe_s (sLe_n sLe_e)))))))))
    · refine sX_iconst (n := 0) (v := (0 : Int32)) (by decide +kernel) (by decide) ?_
      exact sX_some (fun h _ => sW_iret (by decide +kernel) rfl (hr _ h).1.symm (hr _ h).2.symm)
  have xL69 : ∀ (v3 : Int32) (v4 : Int64) (v6 : Int32) (v7 : Int64), sX G l 2 yX12_letter cX12_letter 9 (some .int) M0 r M' 69 [none, none, none, some (.int v3), some (.long v4), none, some (.int v6), some (.long v7), none] [] M0 (f_X12_letter_L69 v3 v4 v6 v7 M0) K := by
    intro v3 v4 v6 v7
    unfold f_X12_letter_L69
    refine sX_bind ?_
    refine sX_loop (LS := fun a : (Int32 × Int64) => [none, none, none, some (.int v3), some (.long v4), none, some (.int a.1), some (.long a.2), none]) (MM := fun a => M0) (fun K1 hb1 he1 => ?_) sFuel ((v6, v7))
    have xK69 : ∀ (v6 : Int32) (v7 : Int64), sX G l 2 yX12_letter cX12_letter 9 (some .int) M0 r M' 69 [none, none, none, some (.int v3), some (.long v4), none, some (.int v6), some (.long v7), none] [] M0 (f_X12_letter_K69 v3 v4 v6 v7 M0) K1 := by
      intro v6 v7
      unfold f_X12_letter_K69
      refine sX_lload (i := 7) (by decide +kernel) rfl ?_
      refine sX_lconst (n := 0) (v := (0 : Int64)) (by decide +kernel) (by decide) ?_
      refine sX_lcle (o := 17) (t := 90) (by decide +kernel) (by decide +kernel) (by decide) (fun _ => ?_) (fun _ => ?_)
      · refine sX_exit he1 ?_
        exact sX.le (xB90 v3 v4 v6) (sLe_n (sLe_n (sLe_n (sLe_s (sLe_s (sLe_n (sLe_s (sLe_n (sLe_n sLe_e)))))))))
      · refine sX_iinc (i := 6) (n := 1) (v := v6 + (1 : Int32)) (ls2 := [none, none, none, some (.int v3), some (.long v4), none, some (.int (v6 + (1 : Int32))), some (.long v7), none]) (by decide +kernel) rfl rfl (by decide) rfl ?_
        refine sX_lload (i := 7) (by decide +kernel) rfl ?_
        refine sX_ldc2 (v := (27 : Int64)) (by decide +kernel) kl_X12_354 ?_
        refine sX_ldiv (by decide +kernel) (by decide) ?_
        refine sX_lstore (i := 7) (ls2 := [none, none, none, some (.int v3), some (.long v4), none, some (.int (v6 + (1 : Int32))), some (.long (v7 / (27 : Int64))), none]) (by decide +kernel) (by decide) rfl ?_
        refine sX_goto (o := -18) (t := 69) (by decide +kernel) (by decide) ?_
        exact sX_back (a := (((v6 + (1 : Int32))), ((v7 / (27 : Int64))))) hb1 rfl (sLe_n (sLe_n (sLe_n (sLe_s (sLe_s (sLe_n (sLe_s (sLe_s (sLe_n sLe_e)))))))))
    exact fun a => xK69 a.1 a.2
  refine sX_rc ?_
  refine sX_iload_n (i := 1) (by decide +kernel) rfl ?_
  refine sX_i2l (by decide +kernel) ?_
  refine sX_lconst (n := 0) (v := (0 : Int64)) (by decide +kernel) (by decide) ?_
  refine sX_ldc2 (v := (3 : Int64)) (by decide +kernel) kl_X12_585 ?_
  refine sX_callSp (As := [.long v1.toInt64, .long (0 : Int64), .long (3 : Int64)]) (by decide +kernel) lm_X12_343 mf_X12_isIn ms_X12_isIn (m_X12_isIn G l v1.toInt64 ((0 : Int64)) ((3 : Int64)) M0) (by decide) rfl rfl (Nat.le_of_ble_eq_true rfl) (fun x1 => ?_)
  refine sX_ifeq (o := 35) (t := 44) (by decide +kernel) (by decide) (fun _ => ?_) (fun _ => ?_)
  · refine sX_iconst (n := -1) (v := (-1 : Int32)) (by decide +kernel) (by decide) ?_
    exact sX_some (fun h _ => sW_iret (by decide +kernel) rfl (hr _ h).1.symm (hr _ h).2.symm)
  · refine sX_iload_n (i := 2) (by decide +kernel) rfl ?_
    refine sX_i2l (by decide +kernel) ?_
    refine sX_lconst (n := 0) (v := (0 : Int64)) (by decide +kernel) (by decide) ?_
    refine sX_aload_n (i := 0) (by decide +kernel) rfl ?_
    refine sX_getR lf_X12_123 tk_12_46 (by decide +kernel) (fun x2 => ?_)
    refine sX_iconst (n := 5) (v := (5 : Int32)) (by decide +kernel) (by decide) ?_
    refine sX_iload_n (i := 1) (by decide +kernel) rfl ?_
    refine sX_iadd (by decide +kernel) ?_
    refine sX_iaload (by decide +kernel) (fun x3 => ?_)
    refine sX_iconst (n := 1) (v := (1 : Int32)) (by decide +kernel) (by decide) ?_
    refine sX_isub (by decide +kernel) ?_
    refine sX_i2l (by decide +kernel) ?_
    refine sX_callSp (As := [.long v2.toInt64, .long (0 : Int64), .long ((x3 - (1 : Int32))).toInt64]) (by decide +kernel) lm_X12_343 mf_X12_isIn ms_X12_isIn (m_X12_isIn G l v2.toInt64 ((0 : Int64)) (((x3 - (1 : Int32))).toInt64) M0) (by decide) rfl rfl (Nat.le_of_ble_eq_true rfl) (fun x4 => ?_)
    refine sX_ifeq (o := 15) (t := 44) (by decide +kernel) (by decide) (fun _ => ?_) (fun _ => ?_)
    · refine sX_iconst (n := -1) (v := (-1 : Int32)) (by decide +kernel) (by decide) ?_
      exact sX_some (fun h _ => sW_iret (by decide +kernel) rfl (hr _ h).1.symm (hr _ h).2.symm)
    · refine sX_iload_n (i := 3) (by decide +kernel) rfl ?_
      refine sX_i2l (by decide +kernel) ?_
      refine sX_lconst (n := 0) (v := (0 : Int64)) (by decide +kernel) (by decide) ?_
      refine sX_ldc2 (v := (5 : Int64)) (by decide +kernel) kl_X12_361 ?_
      refine sX_callSp (As := [.long v3.toInt64, .long (0 : Int64), .long (5 : Int64)]) (by decide +kernel) lm_X12_343 mf_X12_isIn ms_X12_isIn (m_X12_isIn G l v3.toInt64 ((0 : Int64)) ((5 : Int64)) M0) (by decide) rfl rfl (Nat.le_of_ble_eq_true rfl) (fun x5 => ?_)
      refine sX_ifne (o := 5) (t := 46) (by decide +kernel) (by decide) (fun _ => ?_) (fun _ => ?_)
      · refine sX_iconst (n := -1) (v := (-1 : Int32)) (by decide +kernel) (by decide) ?_
        exact sX_some (fun h _ => sW_iret (by decide +kernel) rfl (hr _ h).1.symm (hr _ h).2.symm)
      · refine sX_aload_n (i := 0) (by decide +kernel) rfl ?_
        refine sX_getR lf_X12_126 tk_12_47 (by decide +kernel) (fun x6 => ?_)
        refine sX_bipush (n := 32) (v := (32 : Int32)) (by decide +kernel) (by decide) ?_
        refine sX_bipush (n := 8) (v := (8 : Int32)) (by decide +kernel) (by decide) ?_
        refine sX_iload_n (i := 1) (by decide +kernel) rfl ?_
        refine sX_imul (by decide +kernel) ?_
        refine sX_iadd (by decide +kernel) ?_
        refine sX_iload_n (i := 2) (by decide +kernel) rfl ?_
        refine sX_iadd (by decide +kernel) ?_
        refine sX_laload (by decide +kernel) (fun x7 => ?_)
        refine sX_lstore (i := 4) (ls2 := [some (.ref v0), some (.int v1), some (.int v2), some (.int v3), some (.long x7), none, none, none, none]) (by decide +kernel) (by decide) rfl ?_
        refine sX_iconst (n := 0) (v := (0 : Int32)) (by decide +kernel) (by decide) ?_
        refine sX_istore (i := 6) (ls2 := [some (.ref v0), some (.int v1), some (.int v2), some (.int v3), some (.long x7), none, some (.int (0 : Int32)), none, none]) (by decide +kernel) (by decide) rfl ?_
        refine sX_lload (i := 4) (by decide +kernel) rfl ?_
        refine sX_lstore (i := 7) (ls2 := [some (.ref v0), some (.int v1), some (.int v2), some (.int v3), some (.long x7), none, some (.int (0 : Int32)), some (.long x7), none]) (by decide +kernel) (by decide) rfl ?_
        exact sX.le (xL69 v3 x7 ((0 : Int32)) x7) (sLe_n (sLe_n (sLe_n (sLe_s (sLe_s (sLe_n (sLe_s (sLe_s (sLe_n sLe_e)))))))))
def f_X12_gate (v0 : Nat) (v1 : Int32) (v2 : Int32) (M0 : sMem) : Option Int32 :=
  sRc 12 127 M0 v0 (
    (f_X12_isGate v0 v1.toInt64 M0).bind fun x1 =>
    if x1 = 0 then
      some ((-1 : Int32))
    else
      if v2 = 0 then
        (f_X12_mileOf v0 v1 M0).bind fun x2 =>
        some x2
      else
        if v2 = (1 : Int32) then
          (gR 12 127 59 M0 v0).bind fun x3 =>
          (ldI 14 M0 x3 (((1 : Int32) + v1))).bind fun x4 =>
          some x4
        else
          some ((-1 : Int32)))
set_option maxRecDepth 100000 in
set_option maxHeartbeats 4000000 in
theorem m_X12_gate (G : sG) (l : Launch) (v0 : Nat) (v1 : Int32) (v2 : Int32) (M0 : sMem) : sCp G l 3 yX12_gate cX12_gate 3 (some .int) [.ref v0, .int v1, .int v2] M0 rvI (f_X12_gate v0 v1 v2 M0) := by
  refine sC_p (ls := [some (.ref v0), some (.int v1), some (.int v2)]) (by decide +kernel) rfl (Nat.le_of_ble_eq_true rfl) (fun r M' K hr => ?_)
  unfold f_X12_gate
  refine sX_rc ?_
  refine sX_aload_n (i := 0) (by decide +kernel) rfl ?_
  refine sX_iload_n (i := 1) (by decide +kernel) rfl ?_
  refine sX_i2l (by decide +kernel) ?_
  refine sX_callVp (As := [.long v1.toInt64]) (by decide +kernel) lm_X12_587 mf_X12_isGate mi_X12_isGate mc_12 (m_X12_isGate G l v0 v1.toInt64 M0) (fun _ h => sRc_some h) (by decide) rfl rfl (Nat.le_of_ble_eq_true rfl) (fun x1 => ?_)
  refine sX_ifne (o := 5) (t := 11) (by decide +kernel) (by decide) (fun _ => ?_) (fun _ => ?_)
  · refine sX_iconst (n := -1) (v := (-1 : Int32)) (by decide +kernel) (by decide) ?_
    exact sX_some (fun h _ => sW_iret (by decide +kernel) rfl (hr _ h).1.symm (hr _ h).2.symm)
  · refine sX_iload_n (i := 2) (by decide +kernel) rfl ?_
    refine sX_ifne (o := 11) (t := 23) (by decide +kernel) (by decide) (fun _ => ?_) (fun _ => ?_)
    · refine sX_aload_n (i := 0) (by decide +kernel) rfl ?_
      refine sX_iload_n (i := 1) (by decide +kernel) rfl ?_
      refine sX_callVp (As := [.int v1]) (by decide +kernel) lm_X12_493 mf_X12_mileOf mi_X12_mileOf mc_12 (m_X12_mileOf G l v0 v1 M0) (fun _ h => sRc_some h) (by decide) rfl rfl (Nat.le_of_ble_eq_true rfl) (fun x2 => ?_)
      refine sX_goto (o := 20) (t := 40) (by decide +kernel) (by decide) ?_
      exact sX_some (fun h _ => sW_iret (by decide +kernel) rfl (hr _ h).1.symm (hr _ h).2.symm)
    · refine sX_iload_n (i := 2) (by decide +kernel) rfl ?_
      refine sX_iconst (n := 1) (v := (1 : Int32)) (by decide +kernel) (by decide) ?_
      refine sX_icne (o := 14) (t := 39) (by decide +kernel) (by decide) (fun _ => ?_) (fun _ => ?_)
      · refine sX_aload_n (i := 0) (by decide +kernel) rfl ?_
        refine sX_getR lf_X12_151 tk_12_59 (by decide +kernel) (fun x3 => ?_)
        refine sX_iconst (n := 1) (v := (1 : Int32)) (by decide +kernel) (by decide) ?_
        refine sX_iload_n (i := 1) (by decide +kernel) rfl ?_
        refine sX_iadd (by decide +kernel) ?_
        refine sX_iaload (by decide +kernel) (fun x4 => ?_)
        refine sX_goto (o := 4) (t := 40) (by decide +kernel) (by decide) ?_
        exact sX_some (fun h _ => sW_iret (by decide +kernel) rfl (hr _ h).1.symm (hr _ h).2.symm)
      · refine sX_iconst (n := -1) (v := (-1 : Int32)) (by decide +kernel) (by decide) ?_
        exact sX_some (fun h _ => sW_iret (by decide +kernel) rfl (hr _ h).1.symm (hr _ h).2.symm)
def f_X12_era (v0 : Nat) (v1 : Int32) (v2 : Int32) (M0 : sMem) : Option Int32 :=
  sRc 12 127 M0 v0 (
    (f_X12_isEra v0 v1 M0).bind fun x1 =>
    if x1 = 0 then
      some ((-1 : Int32))
    else
      (f_X12_isIn v2.toInt64 ((0 : Int64)) ((3 : Int64)) M0).bind fun x2 =>
      if x2 = 0 then
        some ((-1 : Int32))
      else
        if v2 = (3 : Int32) then
          (f_X12_lateOf v0 v1 M0).bind fun x3 =>
          some x3
        else
          (gR 12 127 50 M0 v0).bind fun x4 =>
          (ldI 14 M0 x4 ((((15 : Int32) + ((3 : Int32) * v1)) + v2))).bind fun x5 =>
          some x5)
set_option maxRecDepth 100000 in
set_option maxHeartbeats 4000000 in
theorem m_X12_era (G : sG) (l : Launch) (v0 : Nat) (v1 : Int32) (v2 : Int32) (M0 : sMem) : sCp G l 3 yX12_era cX12_era 3 (some .int) [.ref v0, .int v1, .int v2] M0 rvI (f_X12_era v0 v1 v2 M0) := by
  refine sC_p (ls := [some (.ref v0), some (.int v1), some (.int v2)]) (by decide +kernel) rfl (Nat.le_of_ble_eq_true rfl) (fun r M' K hr => ?_)
  unfold f_X12_era
  refine sX_rc ?_
  refine sX_aload_n (i := 0) (by decide +kernel) rfl ?_
  refine sX_iload_n (i := 1) (by decide +kernel) rfl ?_
  refine sX_callVp (As := [.int v1]) (by decide +kernel) lm_X12_591 mf_X12_isEra mi_X12_isEra mc_12 (m_X12_isEra G l v0 v1 M0) (fun _ h => sRc_some h) (by decide) rfl rfl (Nat.le_of_ble_eq_true rfl) (fun x1 => ?_)
  refine sX_ifeq (o := 15) (t := 20) (by decide +kernel) (by decide) (fun _ => ?_) (fun _ => ?_)
  · refine sX_iconst (n := -1) (v := (-1 : Int32)) (by decide +kernel) (by decide) ?_
    exact sX_some (fun h _ => sW_iret (by decide +kernel) rfl (hr _ h).1.symm (hr _ h).2.symm)
  · refine sX_iload_n (i := 2) (by decide +kernel) rfl ?_
    refine sX_i2l (by decide +kernel) ?_
    refine sX_lconst (n := 0) (v := (0 : Int64)) (by decide +kernel) (by decide) ?_
    refine sX_ldc2 (v := (3 : Int64)) (by decide +kernel) kl_X12_585 ?_
    refine sX_callSp (As := [.long v2.toInt64, .long (0 : Int64), .long (3 : Int64)]) (by decide +kernel) lm_X12_343 mf_X12_isIn ms_X12_isIn (m_X12_isIn G l v2.toInt64 ((0 : Int64)) ((3 : Int64)) M0) (by decide) rfl rfl (Nat.le_of_ble_eq_true rfl) (fun x2 => ?_)
    refine sX_ifne (o := 5) (t := 22) (by decide +kernel) (by decide) (fun _ => ?_) (fun _ => ?_)
    · refine sX_iconst (n := -1) (v := (-1 : Int32)) (by decide +kernel) (by decide) ?_
      exact sX_some (fun h _ => sW_iret (by decide +kernel) rfl (hr _ h).1.symm (hr _ h).2.symm)
    · refine sX_iload_n (i := 2) (by decide +kernel) rfl ?_
      refine sX_iconst (n := 3) (v := (3 : Int32)) (by decide +kernel) (by decide) ?_
      refine sX_icne (o := 11) (t := 35) (by decide +kernel) (by decide) (fun _ => ?_) (fun _ => ?_)
      · refine sX_aload_n (i := 0) (by decide +kernel) rfl ?_
        refine sX_iload_n (i := 1) (by decide +kernel) rfl ?_
        refine sX_callVp (As := [.int v1]) (by decide +kernel) lm_X12_515 mf_X12_lateOf mi_X12_lateOf mc_12 (m_X12_lateOf G l v0 v1 M0) (fun _ h => sRc_some h) (by decide) rfl rfl (Nat.le_of_ble_eq_true rfl) (fun x3 => ?_)
        refine sX_goto (o := 16) (t := 48) (by decide +kernel) (by decide) ?_
        exact sX_some (fun h _ => sW_iret (by decide +kernel) rfl (hr _ h).1.symm (hr _ h).2.symm)
      · refine sX_aload_n (i := 0) (by decide +kernel) rfl ?_
        refine sX_getR lf_X12_136 tk_12_50 (by decide +kernel) (fun x4 => ?_)
        refine sX_bipush (n := 15) (v := (15 : Int32)) (by decide +kernel) (by decide) ?_
        refine sX_iconst (n := 3) (v := (3 : Int32)) (by decide +kernel) (by decide) ?_
        refine sX_iload_n (i := 1) (by decide +kernel) rfl ?_
        refine sX_imul (by decide +kernel) ?_
        refine sX_iadd (by decide +kernel) ?_
        refine sX_iload_n (i := 2) (by decide +kernel) rfl ?_
        refine sX_iadd (by decide +kernel) ?_
        refine sX_iaload (by decide +kernel) (fun x5 => ?_)
        exact sX_some (fun h _ => sW_iret (by decide +kernel) rfl (hr _ h).1.symm (hr _ h).2.symm)
