def f_X12_isAllowed_B67 (M0 : sMem) : Option Int32 :=
  some ((1 : Int32))
def f_X12_isAllowed (v0 : Nat) (v1 : Int32) (M0 : sMem) : Option Int32 :=
  sRc 12 127 M0 v0 (
    (gI 12 127 58 M0 v0).bind fun x1 =>
    if x1 = (0 : Int32) then
      if (5 : Int32) ≤ v1 then
        some ((0 : Int32))
      else
        some ((1 : Int32))
    else
    if x1 = (1 : Int32) then
      if v1 = (2 : Int32) then
        f_X12_isAllowed_B67 M0
      else
        if v1 = (3 : Int32) then
          f_X12_isAllowed_B67 M0
        else
          (f_X12_isIn v1.toInt64 ((5 : Int64)) ((7 : Int64)) M0).bind fun x3 =>
          if x3 = 0 then
            some ((0 : Int32))
          else
            f_X12_isAllowed_B67 M0
    else
    if x1 = (2 : Int32) then
      (f_X12_isIn v1.toInt64 ((6 : Int64)) ((8 : Int64)) M0).bind fun x2 =>
      if x2 = 0 ∨ x2 = 1 then some x2 else none
    else
    if v1 ≤ (5 : Int32) then
      some ((0 : Int32))
    else
      some ((1 : Int32)))
set_option maxRecDepth 100000 in
set_option maxHeartbeats 4000000 in
theorem m_X12_isAllowed (G : sG) (l : Launch) (v0 : Nat) (v1 : Int32) (M0 : sMem) : sCp G l 2 yX12_isAllowed cX12_isAllowed 2 (some .boolean) [.ref v0, .int v1] M0 rvI (f_X12_isAllowed v0 v1 M0) := by
  refine sC_p (ls := [some (.ref v0), some (.int v1)]) (by decide +kernel) rfl (Nat.le_of_ble_eq_true rfl) (fun r M' K hr => ?_)
  unfold f_X12_isAllowed
  have xB67 : sX G l 2 yX12_isAllowed cX12_isAllowed 2 (some .boolean) M0 r M' 67 [none, none] [] M0 (f_X12_isAllowed_B67 M0) K := by
    unfold f_X12_isAllowed_B67
    refine sX_iconst (n := 1) (v := (1 : Int32)) (by decide +kernel) (by decide) ?_
    refine sX_goto (o := 4) (t := 72) (by decide +kernel) (by decide) ?_
    exact sX_some (fun h _ => sW_zret (by decide +kernel) rfl (by decide) (hr _ h).1.symm (hr _ h).2.symm)
  refine sX_rc ?_
  refine sX_aload_n (i := 0) (by decide +kernel) rfl ?_
  refine sX_getI lf_X12_358 tk_12_58 (by decide +kernel) (fun x1 => ?_)
  refine sX_if (fun hx => ?_) (fun n0 => ?_)
  · refine sX_tin (n := (0 : Int32)) (t := 32) (off := 28) (dflt := 81) (lo := 0) (hi := 2) (offs := #[28, 39, 69]) (len := 28) (by decide +kernel) hx (by decide) (by decide) (by decide) (by decide) ?_
    refine sX_iload_n (i := 1) (by decide +kernel) rfl ?_
    refine sX_iconst (n := 5) (v := (5 : Int32)) (by decide +kernel) (by decide) ?_
    refine sX_icge (o := 7) (t := 41) (by decide +kernel) (by decide) (fun _ => ?_) (fun _ => ?_)
    · refine sX_iconst (n := 0) (v := (0 : Int32)) (by decide +kernel) (by decide) ?_
      exact sX_some (fun h _ => sW_zret (by decide +kernel) rfl (by decide) (hr _ h).1.symm (hr _ h).2.symm)
    · refine sX_iconst (n := 1) (v := (1 : Int32)) (by decide +kernel) (by decide) ?_
      refine sX_goto (o := 4) (t := 42) (by decide +kernel) (by decide) ?_
      exact sX_some (fun h _ => sW_zret (by decide +kernel) rfl (by decide) (hr _ h).1.symm (hr _ h).2.symm)
  · refine sX_if (fun hx => ?_) (fun n1 => ?_)
    · refine sX_tin (n := (1 : Int32)) (t := 43) (off := 39) (dflt := 81) (lo := 0) (hi := 2) (offs := #[28, 39, 69]) (len := 28) (by decide +kernel) hx (by decide) (by decide) (by decide) (by decide) ?_
      refine sX_iload_n (i := 1) (by decide +kernel) rfl ?_
      refine sX_iconst (n := 2) (v := (2 : Int32)) (by decide +kernel) (by decide) ?_
      refine sX_iceq (o := 22) (t := 67) (by decide +kernel) (by decide) (fun _ => ?_) (fun _ => ?_)
      · exact sX.le xB67 (sLe_n (sLe_n sLe_e))
      · refine sX_iload_n (i := 1) (by decide +kernel) rfl ?_
        refine sX_iconst (n := 3) (v := (3 : Int32)) (by decide +kernel) (by decide) ?_
        refine sX_iceq (o := 17) (t := 67) (by decide +kernel) (by decide) (fun _ => ?_) (fun _ => ?_)
        · exact sX.le xB67 (sLe_n (sLe_n sLe_e))
        · refine sX_iload_n (i := 1) (by decide +kernel) rfl ?_
          refine sX_i2l (by decide +kernel) ?_
          refine sX_ldc2 (v := (5 : Int64)) (by decide +kernel) kl_X12_361 ?_
          refine sX_ldc2 (v := (7 : Int64)) (by decide +kernel) kl_X12_363 ?_
          refine sX_callSp (As := [.long v1.toInt64, .long (5 : Int64), .long (7 : Int64)]) (by decide +kernel) lm_X12_343 mf_X12_isIn ms_X12_isIn (m_X12_isIn G l v1.toInt64 ((5 : Int64)) ((7 : Int64)) M0) (by decide) rfl rfl (Nat.le_of_ble_eq_true rfl) (fun x3 => ?_)
          refine sX_ifeq (o := 7) (t := 71) (by decide +kernel) (by decide) (fun _ => ?_) (fun _ => ?_)
          · refine sX_iconst (n := 0) (v := (0 : Int32)) (by decide +kernel) (by decide) ?_
            exact sX_some (fun h _ => sW_zret (by decide +kernel) rfl (by decide) (hr _ h).1.symm (hr _ h).2.symm)
          · exact sX.le xB67 (sLe_n (sLe_n sLe_e))
    · refine sX_if (fun hx => ?_) (fun n2 => ?_)
      · refine sX_tin (n := (2 : Int32)) (t := 73) (off := 69) (dflt := 81) (lo := 0) (hi := 2) (offs := #[28, 39, 69]) (len := 28) (by decide +kernel) hx (by decide) (by decide) (by decide) (by decide) ?_
        refine sX_iload_n (i := 1) (by decide +kernel) rfl ?_
        refine sX_i2l (by decide +kernel) ?_
        refine sX_ldc2 (v := (6 : Int64)) (by decide +kernel) kl_X12_365 ?_
        refine sX_ldc2 (v := (8 : Int64)) (by decide +kernel) kl_X12_367 ?_
        refine sX_callSp (As := [.long v1.toInt64, .long (6 : Int64), .long (8 : Int64)]) (by decide +kernel) lm_X12_343 mf_X12_isIn ms_X12_isIn (m_X12_isIn G l v1.toInt64 ((6 : Int64)) ((8 : Int64)) M0) (by decide) rfl rfl (Nat.le_of_ble_eq_true rfl) (fun x2 => ?_)
        refine sX_g (fun hz => ?_)
        exact sX_some (fun h _ => sW_zret (by decide +kernel) rfl (nar_bool hz).1 (hr _ h).1.symm (hr _ h).2.symm)
      · refine sX_tout (t := 85) (dflt := 81) (lo := 0) (hi := 2) (offs := #[28, 39, 69]) (len := 28) (by decide +kernel) (by have e0 := sNe n0 (z := 0) (by decide); have e1 := sNe n1 (z := 1) (by decide); have e2 := sNe n2 (z := 2) (by decide); omega) (by decide) ?_
        refine sX_iload_n (i := 1) (by decide +kernel) rfl ?_
        refine sX_iconst (n := 5) (v := (5 : Int32)) (by decide +kernel) (by decide) ?_
        refine sX_icle (o := 7) (t := 94) (by decide +kernel) (by decide) (fun _ => ?_) (fun _ => ?_)
        · refine sX_iconst (n := 0) (v := (0 : Int32)) (by decide +kernel) (by decide) ?_
          exact sX_some (fun h _ => sW_zret (by decide +kernel) rfl (by decide) (hr _ h).1.symm (hr _ h).2.symm)
        · refine sX_iconst (n := 1) (v := (1 : Int32)) (by decide +kernel) (by decide) ?_
          refine sX_goto (o := 4) (t := 95) (by decide +kernel) (by decide) ?_
          exact sX_some (fun h _ => sW_zret (by decide +kernel) rfl (by decide) (hr _ h).1.symm (hr _ h).2.symm)
def f_X12_isFull_B23 (v0 : Nat) (M : sMem) : Option (Int32 × sMem) :=
  (gI 12 127 5 M v0).bind fun x1 =>
  if x1 = 0 then
    some (((0 : Int32), M))
  else
    some (((1 : Int32), M))
def f_X12_isFull (v0 : Nat) (v1 : Int32) (v2 : Int32) (v3 : Int32) (M0 : sMem) : Option (Int32 × sMem) :=
  sRc 12 127 M0 v0 (
    (gI 12 127 5 M0 v0).bind fun x2 =>
    if x2 = 0 then
      (gR 12 127 46 M0 v0).bind fun x3 =>
      (ldI 14 M0 x3 v1).bind fun x4 =>
      if x4 = v2 then
        (f_X12_fail v0 ((5 : Int32)) v3 M0).bind fun M5 =>
        f_X12_isFull_B23 v0 M5
      else
        f_X12_isFull_B23 v0 M0
    else
      f_X12_isFull_B23 v0 M0)
set_option maxRecDepth 100000 in
set_option maxHeartbeats 4000000 in
theorem m_X12_isFull (G : sG) (l : Launch) (v0 : Nat) (v1 : Int32) (v2 : Int32) (v3 : Int32) (M0 : sMem) : sC G l 2 yX12_isFull cX12_isFull 4 (some .boolean) [.ref v0, .int v1, .int v2, .int v3] M0 rvI (f_X12_isFull v0 v1 v2 v3 M0) := by
  refine sC_m (ls := [some (.ref v0), some (.int v1), some (.int v2), some (.int v3)]) (by decide +kernel) rfl (Nat.le_of_ble_eq_true rfl) (fun r M' K hr => ?_)
  unfold f_X12_isFull
  have xB23 : ∀ (v0 : Nat) (M : sMem), sX G l 2 yX12_isFull cX12_isFull 4 (some .boolean) M0 r M' 23 [some (.ref v0), none, none, none] [] M (f_X12_isFull_B23 v0 M) K := by
    intro v0 M
    unfold f_X12_isFull_B23
    refine sX_aload_n (i := 0) (by decide +kernel) rfl ?_
    refine sX_getI lf_X12_300 tk_12_5 (by decide +kernel) (fun x1 => ?_)
    refine sX_ifeq (o := 7) (t := 34) (by decide +kernel) (by decide) (fun _ => ?_) (fun _ => ?_)
    · refine sX_iconst (n := 0) (v := (0 : Int32)) (by decide +kernel) (by decide) ?_
      exact sX_some (fun h _ => sW_zret (by decide +kernel) rfl (by decide) (hr _ h).1.symm (hr _ h).2.symm)
    · refine sX_iconst (n := 1) (v := (1 : Int32)) (by decide +kernel) (by decide) ?_
      refine sX_goto (o := 4) (t := 35) (by decide +kernel) (by decide) ?_
      exact sX_some (fun h _ => sW_zret (by decide +kernel) rfl (by decide) (hr _ h).1.symm (hr _ h).2.symm)
  refine sX_rc ?_
  refine sX_aload_n (i := 0) (by decide +kernel) rfl ?_
  refine sX_getI lf_X12_300 tk_12_5 (by decide +kernel) (fun x2 => ?_)
  refine sX_ifne (o := 19) (t := 23) (by decide +kernel) (by decide) (fun _ => ?_) (fun _ => ?_)
  · refine sX_aload_n (i := 0) (by decide +kernel) rfl ?_
    refine sX_getR lf_X12_123 tk_12_46 (by decide +kernel) (fun x3 => ?_)
    refine sX_iload_n (i := 1) (by decide +kernel) rfl ?_
    refine sX_iaload (by decide +kernel) (fun x4 => ?_)
    refine sX_iload_n (i := 2) (by decide +kernel) rfl ?_
    refine sX_icne (o := 9) (t := 23) (by decide +kernel) (by decide) (fun _ => ?_) (fun _ => ?_)
    · refine sX_aload_n (i := 0) (by decide +kernel) rfl ?_
      refine sX_iconst (n := 5) (v := (5 : Int32)) (by decide +kernel) (by decide) ?_
      refine sX_iload_n (i := 3) (by decide +kernel) rfl ?_
      refine sX_callVv (As := [.int (5 : Int32), .int v3]) (by decide +kernel) lm_X12_330 mf_X12_fail mi_X12_fail mc_12 (m_X12_fail G l v0 ((5 : Int32)) v3 M0) (fun _ h => sRc_some h) (by decide) rfl rfl (Nat.le_of_ble_eq_true rfl) (fun M5 => ?_)
      exact sX.le (xB23 v0 M5) (sLe_s (sLe_n (sLe_n (sLe_n sLe_e))))
    · exact sX.le (xB23 v0 M0) (sLe_s (sLe_n (sLe_n (sLe_n sLe_e))))
  · exact sX.le (xB23 v0 M0) (sLe_s (sLe_n (sLe_n (sLe_n sLe_e))))
def f_X12_newName_B65 (v0 : Nat) (v1 : Int64) (v3 : Int32) (M : sMem) : Option ((Int32 × sMem) ⊕ (((Int64 × sMem)))) :=
  some (.inl ((((v3 + (1 : Int32))), M)))
def f_X12_newName_B59 (v0 : Nat) (v1 : Int64) (v3 : Int32) (v4 : Int32) (M : sMem) : Option ((Int32 × sMem) ⊕ ((sMem))) :=
  some (.inl ((((v4 + (1 : Int32))), M)))
def f_X12_newName_K15 (v0 : Nat) (v1 : Int64) (v3 : Int32) (v4 : Int32) (M : sMem) : Option ((Int32 × sMem) ⊕ ((sMem))) :=
  (gR 12 127 46 M v0).bind fun x1 =>
  (ldI 14 M x1 v3).bind fun x2 =>
  if x2 ≤ v4 then
    some (.inr M)
  else
    (gI 12 127 5 M v0).bind fun x3 =>
    if x3 = 0 then
      (gR 12 127 47 M v0).bind fun x4 =>
      (ldJ M x4 ((((8 : Int32) * v3) + v4))).bind fun x5 =>
      if x5 = v1 then
        (gI 12 127 44 M v0).bind fun x6 =>
        (f_X12_fail v0 ((3 : Int32)) x6 M).bind fun M7 =>
        f_X12_newName_B59 v0 v1 v3 v4 M7
      else
        f_X12_newName_B59 v0 v1 v3 v4 M
    else
      f_X12_newName_B59 v0 v1 v3 v4 M
def f_X12_newName_L15 (v0 : Nat) (v1 : Int64) (v3 : Int32) (v4 : Int32) (M : sMem) : Option ((Int32 × sMem) ⊕ (((Int64 × sMem)))) :=
  (sItr (fun a : (Int32 × sMem) => f_X12_newName_K15 v0 v1 v3 a.1 a.2) sFuel (v4, M)).bind (fun b => f_X12_newName_B65 v0 v1 v3 b)
def f_X12_newName_K7 (v0 : Nat) (v1 : Int64) (v3 : Int32) (M : sMem) : Option ((Int32 × sMem) ⊕ (((Int64 × sMem)))) :=
  if (4 : Int32) ≤ v3 then
    some (.inr ((v1, M)))
  else
    f_X12_newName_L15 v0 v1 v3 ((0 : Int32)) M
def f_X12_newName_L7 (v0 : Nat) (v1 : Int64) (v3 : Int32) (M : sMem) : Option (Int64 × sMem) :=
  (sItr (fun a : (Int32 × sMem) => f_X12_newName_K7 v0 v1 a.1 a.2) sFuel (v3, M)).bind (fun b => some b)
def f_X12_newName (v0 : Nat) (M0 : sMem) : Option (Int64 × sMem) :=
  sRc 12 127 M0 v0 (
    (f_X12_name v0 M0).bind fun (x8, M9) =>
    f_X12_newName_L7 v0 x8 ((0 : Int32)) M9)
set_option maxRecDepth 100000 in
set_option maxHeartbeats 4000000 in
theorem m_X12_newName (G : sG) (l : Launch) (v0 : Nat) (M0 : sMem) : sC G l 5 yX12_newName cX12_newName 5 (some .long) [.ref v0] M0 rvJ (f_X12_newName v0 M0) := by
  refine sC_m (ls := [some (.ref v0), none, none, none, none]) (by decide +kernel) rfl (Nat.le_of_ble_eq_true rfl) (fun r M' K hr => ?_)
  unfold f_X12_newName
  have xL7 : ∀ (v0 : Nat) (v1 : Int64) (v3 : Int32) (M : sMem), sX G l 5 yX12_newName cX12_newName 5 (some .long) M0 r M' 7 [some (.ref v0), some (.long v1), none, some (.int v3), none] [] M (f_X12_newName_L7 v0 v1 v3 M) K := by
    intro v0 v1 v3 M
    unfold f_X12_newName_L7
    refine sX_bind ?_
    refine sX_loop (LS := fun a : (Int32 × sMem) => [some (.ref v0), some (.long v1), none, some (.int a.1), none]) (MM := fun a => a.2) (fun K1 hb1 he1 => ?_) sFuel ((v3, M))
    have xB65 : ∀ (v3 : Int32) (M : sMem), sX G l 5 yX12_newName cX12_newName 5 (some .long) M0 r M' 65 [some (.ref v0), some (.long v1), none, some (.int v3), none] [] M (f_X12_newName_B65 v0 v1 v3 M) K1 := by
      intro v3 M
      unfold f_X12_newName_B65
      refine sX_iinc (i := 3) (n := 1) (v := v3 + (1 : Int32)) (ls2 := [some (.ref v0), some (.long v1), none, some (.int (v3 + (1 : Int32))), none]) (by decide +kernel) rfl rfl (by decide) rfl ?_
      refine sX_goto (o := -61) (t := 7) (by decide +kernel) (by decide) ?_
      exact sX_back (a := (((v3 + (1 : Int32))), M)) hb1 rfl (sLe_s (sLe_s (sLe_n (sLe_s (sLe_n sLe_e)))))
    have xL15 : ∀ (v3 : Int32) (v4 : Int32) (M : sMem), sX G l 5 yX12_newName cX12_newName 5 (some .long) M0 r M' 15 [some (.ref v0), some (.long v1), none, some (.int v3), some (.int v4)] [] M (f_X12_newName_L15 v0 v1 v3 v4 M) K1 := by
      intro v3 v4 M
      unfold f_X12_newName_L15
      refine sX_bind ?_
      refine sX_loop (LS := fun a : (Int32 × sMem) => [some (.ref v0), some (.long v1), none, some (.int v3), some (.int a.1)]) (MM := fun a => a.2) (fun K2 hb2 he2 => ?_) sFuel ((v4, M))
      have xB59 : ∀ (v4 : Int32) (M : sMem), sX G l 5 yX12_newName cX12_newName 5 (some .long) M0 r M' 59 [some (.ref v0), some (.long v1), none, some (.int v3), some (.int v4)] [] M (f_X12_newName_B59 v0 v1 v3 v4 M) K2 := by
        intro v4 M
        unfold f_X12_newName_B59
        refine sX_iinc (i := 4) (n := 1) (v := v4 + (1 : Int32)) (ls2 := [some (.ref v0), some (.long v1), none, some (.int v3), some (.int (v4 + (1 : Int32)))]) (by decide +kernel) rfl rfl (by decide) rfl ?_
        refine sX_goto (o := -47) (t := 15) (by decide +kernel) (by decide) ?_
        exact sX_back (a := (((v4 + (1 : Int32))), M)) hb2 rfl (sLe_s (sLe_s (sLe_n (sLe_s (sLe_s sLe_e)))))
      have xK15 : ∀ (v4 : Int32) (M : sMem), sX G l 5 yX12_newName cX12_newName 5 (some .long) M0 r M' 15 [some (.ref v0), some (.long v1), none, some (.int v3), some (.int v4)] [] M (f_X12_newName_K15 v0 v1 v3 v4 M) K2 := by
        intro v4 M
        unfold f_X12_newName_K15
        refine sX_iload (i := 4) (by decide +kernel) rfl ?_
        refine sX_aload_n (i := 0) (by decide +kernel) rfl ?_
        refine sX_getR lf_X12_123 tk_12_46 (by decide +kernel) (fun x1 => ?_)
        refine sX_iload_n (i := 3) (by decide +kernel) rfl ?_
        refine sX_iaload (by decide +kernel) (fun x2 => ?_)
        refine sX_icge (o := 42) (t := 65) (by decide +kernel) (by decide) (fun _ => ?_) (fun _ => ?_)
        · refine sX_exit he2 ?_
          exact sX.le (xB65 v3 M) (sLe_s (sLe_s (sLe_n (sLe_s (sLe_n sLe_e)))))
        · refine sX_aload_n (i := 0) (by decide +kernel) rfl ?_
          refine sX_getI lf_X12_300 tk_12_5 (by decide +kernel) (fun x3 => ?_)
          refine sX_ifne (o := 29) (t := 59) (by decide +kernel) (by decide) (fun _ => ?_) (fun _ => ?_)
          · refine sX_aload_n (i := 0) (by decide +kernel) rfl ?_
            refine sX_getR lf_X12_126 tk_12_47 (by decide +kernel) (fun x4 => ?_)
            refine sX_bipush (n := 8) (v := (8 : Int32)) (by decide +kernel) (by decide) ?_
            refine sX_iload_n (i := 3) (by decide +kernel) rfl ?_
            refine sX_imul (by decide +kernel) ?_
            refine sX_iload (i := 4) (by decide +kernel) rfl ?_
            refine sX_iadd (by decide +kernel) ?_
            refine sX_laload (by decide +kernel) (fun x5 => ?_)
            refine sX_lload_n (i := 1) (by decide +kernel) rfl ?_
            refine sX_lcne (o := 12) (t := 59) (by decide +kernel) (by decide +kernel) (by decide) (fun _ => ?_) (fun _ => ?_)
            · refine sX_aload_n (i := 0) (by decide +kernel) rfl ?_
              refine sX_iconst (n := 3) (v := (3 : Int32)) (by decide +kernel) (by decide) ?_
              refine sX_aload_n (i := 0) (by decide +kernel) rfl ?_
              refine sX_getI lf_X12_351 tk_12_44 (by decide +kernel) (fun x6 => ?_)
              refine sX_callVv (As := [.int (3 : Int32), .int x6]) (by decide +kernel) lm_X12_330 mf_X12_fail mi_X12_fail mc_12 (m_X12_fail G l v0 ((3 : Int32)) x6 M) (fun _ h => sRc_some h) (by decide) rfl rfl (Nat.le_of_ble_eq_true rfl) (fun M7 => ?_)
              exact sX.le (xB59 v4 M7) (sLe_s (sLe_s (sLe_n (sLe_s (sLe_s sLe_e)))))
            · exact sX.le (xB59 v4 M) (sLe_s (sLe_s (sLe_n (sLe_s (sLe_s sLe_e)))))
          · exact sX.le (xB59 v4 M) (sLe_s (sLe_s (sLe_n (sLe_s (sLe_s sLe_e)))))
      exact fun a => xK15 a.1 a.2
    have xK7 : ∀ (v3 : Int32) (M : sMem), sX G l 5 yX12_newName cX12_newName 5 (some .long) M0 r M' 7 [some (.ref v0), some (.long v1), none, some (.int v3), none] [] M (f_X12_newName_K7 v0 v1 v3 M) K1 := by
      intro v3 M
      unfold f_X12_newName_K7
      refine sX_iload_n (i := 3) (by decide +kernel) rfl ?_
      refine sX_iconst (n := 4) (v := (4 : Int32)) (by decide +kernel) (by decide) ?_
      refine sX_icge (o := 62) (t := 71) (by decide +kernel) (by decide) (fun _ => ?_) (fun _ => ?_)
      · refine sX_lload_n (i := 1) (by decide +kernel) rfl ?_
        refine sX_exit he1 ?_
        exact sX_some (fun h _ => sW_lret (by decide +kernel) rfl (hr _ h).1.symm (hr _ h).2.symm)
      · refine sX_iconst (n := 0) (v := (0 : Int32)) (by decide +kernel) (by decide) ?_
        refine sX_istore (i := 4) (ls2 := [some (.ref v0), some (.long v1), none, some (.int v3), some (.int (0 : Int32))]) (by decide +kernel) (by decide) rfl ?_
        exact sX.le (xL15 v3 ((0 : Int32)) M) (sLe_s (sLe_s (sLe_n (sLe_s (sLe_s sLe_e)))))
    exact fun a => xK7 a.1 a.2
  refine sX_rc ?_
  refine sX_aload_n (i := 0) (by decide +kernel) rfl ?_
  refine sX_callV (As := []) (by decide +kernel) lm_X12_369 mf_X12_name mi_X12_name mc_12 (m_X12_name G l v0 M0) (fun _ h => sRc_some h) (by decide) rfl rfl (Nat.le_of_ble_eq_true rfl) (fun x8 M9 _ => ?_)
  refine sX_lstore_n (i := 1) (ls2 := [some (.ref v0), some (.long x8), none, none, none]) (by decide +kernel) (by decide) rfl ?_
  refine sX_iconst (n := 0) (v := (0 : Int32)) (by decide +kernel) (by decide) ?_
  refine sX_istore_n (i := 3) (ls2 := [some (.ref v0), some (.long x8), none, some (.int (0 : Int32)), none]) (by decide +kernel) (by decide) rfl ?_
  exact sX.le (xL7 v0 x8 ((0 : Int32)) M9) (sLe_s (sLe_s (sLe_n (sLe_s (sLe_n sLe_e)))))
def f_X12_named_B51 (v0 : Nat) (M : sMem) : Option (Int32 × sMem) :=
  (gI 12 127 5 M v0).bind fun x1 =>
  if x1 = 0 then
    (gI 12 127 44 M v0).bind fun x2 =>
    (f_X12_fail v0 ((3 : Int32)) x2 M).bind fun M3 =>
    some (((0 : Int32), M3))
  else
    some (((0 : Int32), M))
def f_X12_named_B45 (v0 : Nat) (v1 : Int32) (v2 : Int32) (v3 : Int64) (v5 : Int32) (M : sMem) : Option ((Int32) ⊕ ((Unit) ⊕ (((Int32 × sMem))))) :=
  some (.inl (((v5 + (1 : Int32)))))
def f_X12_named_K8 (v0 : Nat) (v1 : Int32) (v2 : Int32) (v3 : Int64) (v5 : Int32) (M : sMem) : Option ((Int32) ⊕ ((Unit) ⊕ (((Int32 × sMem))))) :=
  (gR 12 127 46 M v0).bind fun x4 =>
  (ldI 14 M x4 v1).bind fun x5 =>
  if x5 ≤ v5 then
    some (.inr (.inl (())))
  else
    if v5 = v2 then
      f_X12_named_B45 v0 v1 v2 v3 v5 M
    else
      (gR 12 127 47 M v0).bind fun x6 =>
      (ldJ M x6 ((((8 : Int32) * v1) + v5))).bind fun x7 =>
      if x7 = v3 then
        some (.inr (.inr ((v5, M))))
      else
        f_X12_named_B45 v0 v1 v2 v3 v5 M
def f_X12_named_L8 (v0 : Nat) (v1 : Int32) (v2 : Int32) (v3 : Int64) (v5 : Int32) (M : sMem) : Option (Int32 × sMem) :=
  (sItr (fun a : (Int32) => f_X12_named_K8 v0 v1 v2 v3 a M) sFuel v5).bind (fun b => match b with
    | .inl (b) => f_X12_named_B51 v0 M
    | .inr (b) => some b)
def f_X12_named (v0 : Nat) (v1 : Int32) (v2 : Int32) (M0 : sMem) : Option (Int32 × sMem) :=
  sRc 12 127 M0 v0 (
    (f_X12_name v0 M0).bind fun (x8, M9) =>
    f_X12_named_L8 v0 v1 v2 x8 ((0 : Int32)) M9)
set_option maxRecDepth 100000 in
set_option maxHeartbeats 4000000 in
theorem m_X12_named (G : sG) (l : Launch) (v0 : Nat) (v1 : Int32) (v2 : Int32) (M0 : sMem) : sC G l 5 yX12_named cX12_named 6 (some .int) [.ref v0, .int v1, .int v2] M0 rvI (f_X12_named v0 v1 v2 M0) := by
  refine sC_m (ls := [some (.ref v0), some (.int v1), some (.int v2), none, none, none]) (by decide +kernel) rfl (Nat.le_of_ble_eq_true rfl) (fun r M' K hr => ?_)
  unfold f_X12_named
  have xB51 : ∀ (v0 : Nat) (M : sMem), sX G l 5 yX12_named cX12_named 6 (some .int) M0 r M' 51 [some (.ref v0), none, none, none, none, none] [] M (f_X12_named_B51 v0 M) K := by
    intro v0 M
    unfold f_X12_named_B51
    refine sX_aload_n (i := 0) (by decide +kernel) rfl ?_
    refine sX_getI lf_X12_300 tk_12_5 (by decide +kernel) (fun x1 => ?_)
    refine sX_ifne (o := 12) (t := 67) (by decide +kernel) (by decide) (fun _ => ?_) (fun _ => ?_)
    · refine sX_aload_n (i := 0) (by decide +kernel) rfl ?_
      refine sX_iconst (n := 3) (v := (3 : Int32)) (by decide +kernel) (by decide) ?_
      refine sX_aload_n (i := 0) (by decide +kernel) rfl ?_
      refine sX_getI lf_X12_351 tk_12_44 (by decide +kernel) (fun x2 => ?_)
      refine sX_callVv (As := [.int (3 : Int32), .int x2]) (by decide +kernel) lm_X12_330 mf_X12_fail mi_X12_fail mc_12 (m_X12_fail G l v0 ((3 : Int32)) x2 M) (fun _ h => sRc_some h) (by decide) rfl rfl (Nat.le_of_ble_eq_true rfl) (fun M3 => ?_)
      refine sX_iconst (n := 0) (v := (0 : Int32)) (by decide +kernel) (by decide) ?_
      exact sX_some (fun h _ => sW_iret (by decide +kernel) rfl (hr _ h).1.symm (hr _ h).2.symm)
    · refine sX_iconst (n := 0) (v := (0 : Int32)) (by decide +kernel) (by decide) ?_
      exact sX_some (fun h _ => sW_iret (by decide +kernel) rfl (hr _ h).1.symm (hr _ h).2.symm)
  have xL8 : ∀ (v0 : Nat) (v1 : Int32) (v2 : Int32) (v3 : Int64) (v5 : Int32) (M : sMem), sX G l 5 yX12_named cX12_named 6 (some .int) M0 r M' 8 [some (.ref v0), some (.int v1), some (.int v2), some (.long v3), none, some (.int v5)] [] M (f_X12_named_L8 v0 v1 v2 v3 v5 M) K := by
    intro v0 v1 v2 v3 v5 M
    unfold f_X12_named_L8
    refine sX_bind ?_
    refine sX_loop (LS := fun a : (Int32) => [some (.ref v0), some (.int v1), some (.int v2), some (.long v3), none, some (.int a)]) (MM := fun a => M) (fun K1 hb1 he1 => ?_) sFuel v5
    have xB45 : ∀ (v5 : Int32), sX G l 5 yX12_named cX12_named 6 (some .int) M0 r M' 45 [some (.ref v0), some (.int v1), some (.int v2), some (.long v3), none, some (.int v5)] [] M (f_X12_named_B45 v0 v1 v2 v3 v5 M) K1 := by
      intro v5
      unfold f_X12_named_B45
      refine sX_iinc (i := 5) (n := 1) (v := v5 + (1 : Int32)) (ls2 := [some (.ref v0), some (.int v1), some (.int v2), some (.long v3), none, some (.int (v5 + (1 : Int32)))]) (by decide +kernel) rfl rfl (by decide) rfl ?_
      refine sX_goto (o := -40) (t := 8) (by decide +kernel) (by decide) ?_
      exact sX_back (a := ((v5 + (1 : Int32)))) hb1 rfl (sLe_s (sLe_s (sLe_s (sLe_s (sLe_n (sLe_s sLe_e))))))
    have xK8 : ∀ (v5 : Int32), sX G l 5 yX12_named cX12_named 6 (some .int) M0 r M' 8 [some (.ref v0), some (.int v1), some (.int v2), some (.long v3), none, some (.int v5)] [] M (f_X12_named_K8 v0 v1 v2 v3 v5 M) K1 := by
      intro v5
      unfold f_X12_named_K8
      refine sX_iload (i := 5) (by decide +kernel) rfl ?_
      refine sX_aload_n (i := 0) (by decide +kernel) rfl ?_
      refine sX_getR lf_X12_123 tk_12_46 (by decide +kernel) (fun x4 => ?_)
      refine sX_iload_n (i := 1) (by decide +kernel) rfl ?_
      refine sX_iaload (by decide +kernel) (fun x5 => ?_)
      refine sX_icge (o := 35) (t := 51) (by decide +kernel) (by decide) (fun _ => ?_) (fun _ => ?_)
      · refine sX_exit he1 ?_
        exact sX.le (xB51 v0 M) (sLe_s (sLe_n (sLe_n (sLe_n (sLe_n (sLe_n sLe_e))))))
      · refine sX_iload (i := 5) (by decide +kernel) rfl ?_
        refine sX_iload_n (i := 2) (by decide +kernel) rfl ?_
        refine sX_iceq (o := 23) (t := 45) (by decide +kernel) (by decide) (fun _ => ?_) (fun _ => ?_)
        · exact sX.le (xB45 v5) (sLe_s (sLe_s (sLe_s (sLe_s (sLe_n (sLe_s sLe_e))))))
        · refine sX_aload_n (i := 0) (by decide +kernel) rfl ?_
          refine sX_getR lf_X12_126 tk_12_47 (by decide +kernel) (fun x6 => ?_)
          refine sX_bipush (n := 8) (v := (8 : Int32)) (by decide +kernel) (by decide) ?_
          refine sX_iload_n (i := 1) (by decide +kernel) rfl ?_
          refine sX_imul (by decide +kernel) ?_
          refine sX_iload (i := 5) (by decide +kernel) rfl ?_
          refine sX_iadd (by decide +kernel) ?_
          refine sX_laload (by decide +kernel) (fun x7 => ?_)
          refine sX_lload_n (i := 3) (by decide +kernel) rfl ?_
          refine sX_lcne (o := 6) (t := 45) (by decide +kernel) (by decide +kernel) (by decide) (fun _ => ?_) (fun _ => ?_)
          · refine sX_iload (i := 5) (by decide +kernel) rfl ?_
            refine sX_exit he1 ?_
            exact sX_some (fun h _ => sW_iret (by decide +kernel) rfl (hr _ h).1.symm (hr _ h).2.symm)
          · exact sX.le (xB45 v5) (sLe_s (sLe_s (sLe_s (sLe_s (sLe_n (sLe_s sLe_e))))))
    exact fun a => xK8 a
  refine sX_rc ?_
  refine sX_aload_n (i := 0) (by decide +kernel) rfl ?_
  refine sX_callV (As := []) (by decide +kernel) lm_X12_369 mf_X12_name mi_X12_name mc_12 (m_X12_name G l v0 M0) (fun _ h => sRc_some h) (by decide) rfl rfl (Nat.le_of_ble_eq_true rfl) (fun x8 M9 _ => ?_)
  refine sX_lstore_n (i := 3) (ls2 := [some (.ref v0), some (.int v1), some (.int v2), some (.long x8), none, none]) (by decide +kernel) (by decide) rfl ?_
  refine sX_iconst (n := 0) (v := (0 : Int32)) (by decide +kernel) (by decide) ?_
  refine sX_istore (i := 5) (ls2 := [some (.ref v0), some (.int v1), some (.int v2), some (.long x8), none, some (.int (0 : Int32))]) (by decide +kernel) (by decide) rfl ?_
  exact sX.le (xL8 v0 v1 v2 x8 ((0 : Int32)) M9) (sLe_s (sLe_s (sLe_s (sLe_s (sLe_n (sLe_s sLe_e))))))
def f_X12_districtTold (v0 : Nat) (M0 : sMem) : Option sMem :=
  sRc 12 127 M0 v0 (
    (gR 12 127 11 M0 v0).bind fun x1 =>
    (f_X12_asks v0 x1 M0).bind fun M2 =>
    (gR 12 127 45 M2 v0).bind fun x3 =>
    (f_X12_number v0 ((5 : Int32)) ((60 : Int32)) M2).bind fun (x4, M5) =>
    (stI M5 x3 ((0 : Int32)) x4).bind fun M6 =>
    (f_X12_asksSign v0 ((59 : Int32)) M6).bind fun M7 =>
    some M7)
set_option maxRecDepth 100000 in
set_option maxHeartbeats 4000000 in
theorem m_X12_districtTold (G : sG) (l : Launch) (v0 : Nat) (M0 : sMem) : sCv G l 5 yX12_districtTold cX12_districtTold 1 none [.ref v0] M0 (f_X12_districtTold v0 M0) := by
  refine sC_v (ls := [some (.ref v0)]) (by decide +kernel) rfl (Nat.le_of_ble_eq_true rfl) (fun r M' K hr => ?_)
  unfold f_X12_districtTold
  refine sX_rc ?_
  refine sX_aload_n (i := 0) (by decide +kernel) rfl ?_
  refine sX_aload_n (i := 0) (by decide +kernel) rfl ?_
  refine sX_getR lf_X12_20 tk_12_11 (by decide +kernel) (fun x1 => ?_)
  refine sX_callVv (As := [.ref x1]) (by decide +kernel) lm_X12_373 mf_X12_asks mi_X12_asks mc_12 (m_X12_asks G l v0 x1 M0) (fun _ h => sRc_some h) (by decide) rfl rfl (Nat.le_of_ble_eq_true rfl) (fun M2 => ?_)
  refine sX_aload_n (i := 0) (by decide +kernel) rfl ?_
  refine sX_getR lf_X12_120 tk_12_45 (by decide +kernel) (fun x3 => ?_)
  refine sX_iconst (n := 0) (v := (0 : Int32)) (by decide +kernel) (by decide) ?_
  refine sX_aload_n (i := 0) (by decide +kernel) rfl ?_
  refine sX_iconst (n := 5) (v := (5 : Int32)) (by decide +kernel) (by decide) ?_
  refine sX_bipush (n := 60) (v := (60 : Int32)) (by decide +kernel) (by decide) ?_
  refine sX_callV (As := [.int (5 : Int32), .int (60 : Int32)]) (by decide +kernel) lm_X12_377 mf_X12_number mi_X12_number mc_12 (m_X12_number G l v0 ((5 : Int32)) ((60 : Int32)) M2) (fun _ h => sRc_some h) (by decide) rfl rfl (Nat.le_of_ble_eq_true rfl) (fun x4 M5 _ => ?_)
  refine sX_iastore (by decide +kernel) (by decide) (fun M6 => ?_)
  refine sX_aload_n (i := 0) (by decide +kernel) rfl ?_
  refine sX_bipush (n := 59) (v := (59 : Int32)) (by decide +kernel) (by decide) ?_
  refine sX_callVv (As := [.int (59 : Int32)]) (by decide +kernel) lm_X12_381 mf_X12_asksSign mi_X12_asksSign mc_12 (m_X12_asksSign G l v0 ((59 : Int32)) M6) (fun _ h => sRc_some h) (by decide) rfl rfl (Nat.le_of_ble_eq_true rfl) (fun M7 => ?_)
  exact sX_some (fun h _ => sW_vret (by decide +kernel) rfl (hr _ h).1.symm (hr _ h).2.symm)
def f_X12_gateTold_B83 (M : sMem) : Option sMem :=
  some M
def f_X12_gateTold (v0 : Nat) (v1 : Int32) (M0 : sMem) : Option sMem :=
  sRc 12 127 M0 v0 (
    (f_X12_isFull v0 ((0 : Int32)) ((6 : Int32)) v1 M0).bind fun (x1, M2) =>
    if x1 = 0 then
      (f_X12_newName v0 M2).bind fun (x3, M4) =>
      (gR 12 127 13 M4 v0).bind fun x5 =>
      (f_X12_asks v0 x5 M4).bind fun M6 =>
      (gR 12 127 45 M6 v0).bind fun x7 =>
      (ldI 14 M6 x7 ((0 : Int32))).bind fun x8 =>
      (f_X12_number v0 ((0 : Int32)) x8 M6).bind fun (x9, M10) =>
      (gI 12 127 5 M10 v0).bind fun x11 =>
      if x11 = 0 then
        (gR 12 127 47 M10 v0).bind fun x12 =>
        (gR 12 127 46 M10 v0).bind fun x13 =>
        (ldI 14 M10 x13 ((0 : Int32))).bind fun x14 =>
        (stJ M10 x12 (((0 : Int32) + x14)) x3).bind fun M15 =>
        (gR 12 127 48 M15 v0).bind fun x16 =>
        (gR 12 127 46 M15 v0).bind fun x17 =>
        (ldI 14 M15 x17 ((0 : Int32))).bind fun x18 =>
        (stI M15 x16 x18 x9).bind fun M19 =>
        (gR 12 127 46 M19 v0).bind fun x20 =>
        (ldI 14 M19 x20 ((0 : Int32))).bind fun x21 =>
        (stI M19 x20 ((0 : Int32)) ((x21 + (1 : Int32)))).bind fun M22 =>
        f_X12_gateTold_B83 M22
      else
        some M10
    else
      some M2)
set_option maxRecDepth 100000 in
set_option maxHeartbeats 4000000 in
theorem m_X12_gateTold (G : sG) (l : Launch) (v0 : Nat) (v1 : Int32) (M0 : sMem) : sCv G l 6 yX12_gateTold cX12_gateTold 5 none [.ref v0, .int v1] M0 (f_X12_gateTold v0 v1 M0) := by
  refine sC_v (ls := [some (.ref v0), some (.int v1), none, none, none]) (by decide +kernel) rfl (Nat.le_of_ble_eq_true rfl) (fun r M' K hr => ?_)
  unfold f_X12_gateTold
  have xB83 : ∀ (M : sMem), sX G l 6 yX12_gateTold cX12_gateTold 5 none M0 r M' 83 [none, none, none, none, none] [] M (f_X12_gateTold_B83 M) K := by
    intro M
    unfold f_X12_gateTold_B83
    exact sX_some (fun h _ => sW_vret (by decide +kernel) rfl (hr _ h).1.symm (hr _ h).2.symm)
  refine sX_rc ?_
  refine sX_aload_n (i := 0) (by decide +kernel) rfl ?_
  refine sX_iconst (n := 0) (v := (0 : Int32)) (by decide +kernel) (by decide) ?_
  refine sX_bipush (n := 6) (v := (6 : Int32)) (by decide +kernel) (by decide) ?_
  refine sX_iload_n (i := 1) (by decide +kernel) rfl ?_
  refine sX_callV (As := [.int (0 : Int32), .int (6 : Int32), .int v1]) (by decide +kernel) lm_X12_385 mf_X12_isFull mi_X12_isFull mc_12 (m_X12_isFull G l v0 ((0 : Int32)) ((6 : Int32)) v1 M0) (fun _ h => sRc_some h) (by decide) rfl rfl (Nat.le_of_ble_eq_true rfl) (fun x1 M2 _ => ?_)
  refine sX_ifeq (o := 4) (t := 12) (by decide +kernel) (by decide) (fun _ => ?_) (fun _ => ?_)
  · refine sX_aload_n (i := 0) (by decide +kernel) rfl ?_
    refine sX_callV (As := []) (by decide +kernel) lm_X12_389 mf_X12_newName mi_X12_newName mc_12 (m_X12_newName G l v0 M2) (fun _ h => sRc_some h) (by decide) rfl rfl (Nat.le_of_ble_eq_true rfl) (fun x3 M4 _ => ?_)
    refine sX_lstore_n (i := 2) (ls2 := [some (.ref v0), some (.int v1), some (.long x3), none, none]) (by decide +kernel) (by decide) rfl ?_
    refine sX_aload_n (i := 0) (by decide +kernel) rfl ?_
    refine sX_aload_n (i := 0) (by decide +kernel) rfl ?_
    refine sX_getR lf_X12_27 tk_12_13 (by decide +kernel) (fun x5 => ?_)
    refine sX_callVv (As := [.ref x5]) (by decide +kernel) lm_X12_373 mf_X12_asks mi_X12_asks mc_12 (m_X12_asks G l v0 x5 M4) (fun _ h => sRc_some h) (by decide) rfl rfl (Nat.le_of_ble_eq_true rfl) (fun M6 => ?_)
    refine sX_aload_n (i := 0) (by decide +kernel) rfl ?_
    refine sX_iconst (n := 0) (v := (0 : Int32)) (by decide +kernel) (by decide) ?_
    refine sX_aload_n (i := 0) (by decide +kernel) rfl ?_
    refine sX_getR lf_X12_120 tk_12_45 (by decide +kernel) (fun x7 => ?_)
    refine sX_iconst (n := 0) (v := (0 : Int32)) (by decide +kernel) (by decide) ?_
    refine sX_iaload (by decide +kernel) (fun x8 => ?_)
    refine sX_callV (As := [.int (0 : Int32), .int x8]) (by decide +kernel) lm_X12_377 mf_X12_number mi_X12_number mc_12 (m_X12_number G l v0 ((0 : Int32)) x8 M6) (fun _ h => sRc_some h) (by decide) rfl rfl (Nat.le_of_ble_eq_true rfl) (fun x9 M10 _ => ?_)
    refine sX_istore (i := 4) (ls2 := [some (.ref v0), some (.int v1), some (.long x3), none, some (.int x9)]) (by decide +kernel) (by decide) rfl ?_
    refine sX_aload_n (i := 0) (by decide +kernel) rfl ?_
    refine sX_getI lf_X12_300 tk_12_5 (by decide +kernel) (fun x11 => ?_)
    refine sX_ifeq (o := 4) (t := 46) (by decide +kernel) (by decide) (fun _ => ?_) (fun _ => ?_)
    · refine sX_aload_n (i := 0) (by decide +kernel) rfl ?_
      refine sX_getR lf_X12_126 tk_12_47 (by decide +kernel) (fun x12 => ?_)
      refine sX_iconst (n := 0) (v := (0 : Int32)) (by decide +kernel) (by decide) ?_
      refine sX_aload_n (i := 0) (by decide +kernel) rfl ?_
      refine sX_getR lf_X12_123 tk_12_46 (by decide +kernel) (fun x13 => ?_)
      refine sX_iconst (n := 0) (v := (0 : Int32)) (by decide +kernel) (by decide) ?_
      refine sX_iaload (by decide +kernel) (fun x14 => ?_)
      refine sX_iadd (by decide +kernel) ?_
      refine sX_lload_n (i := 2) (by decide +kernel) rfl ?_
      refine sX_lastore (by decide +kernel) (by decide) (fun M15 => ?_)
      refine sX_aload_n (i := 0) (by decide +kernel) rfl ?_
      refine sX_getR lf_X12_130 tk_12_48 (by decide +kernel) (fun x16 => ?_)
      refine sX_aload_n (i := 0) (by decide +kernel) rfl ?_
      refine sX_getR lf_X12_123 tk_12_46 (by decide +kernel) (fun x17 => ?_)
      refine sX_iconst (n := 0) (v := (0 : Int32)) (by decide +kernel) (by decide) ?_
      refine sX_iaload (by decide +kernel) (fun x18 => ?_)
      refine sX_iload (i := 4) (by decide +kernel) rfl ?_
      refine sX_iastore (by decide +kernel) (by decide) (fun M19 => ?_)
      refine sX_aload_n (i := 0) (by decide +kernel) rfl ?_
      refine sX_getR lf_X12_123 tk_12_46 (by decide +kernel) (fun x20 => ?_)
      refine sX_iconst (n := 0) (v := (0 : Int32)) (by decide +kernel) (by decide) ?_
      refine sX_dup2 (by decide +kernel) rfl rfl ?_
      refine sX_iaload (by decide +kernel) (fun x21 => ?_)
      refine sX_iconst (n := 1) (v := (1 : Int32)) (by decide +kernel) (by decide) ?_
      refine sX_iadd (by decide +kernel) ?_
      refine sX_iastore (by decide +kernel) (by decide) (fun M22 => ?_)
      exact sX.le (xB83 M22) (sLe_n (sLe_n (sLe_n (sLe_n (sLe_n sLe_e)))))
    · exact sX_some (fun h _ => sW_vret (by decide +kernel) rfl (hr _ h).1.symm (hr _ h).2.symm)
  · exact sX_some (fun h _ => sW_vret (by decide +kernel) rfl (hr _ h).1.symm (hr _ h).2.symm)
def f_X12_placeTold (v0 : Nat) (v1 : Int32) (M0 : sMem) : Option sMem :=
  sRc 12 127 M0 v0 (
    (f_X12_isFull v0 ((1 : Int32)) ((7 : Int32)) v1 M0).bind fun (x1, M2) =>
    if x1 = 0 then
      (f_X12_newName v0 M2).bind fun (x3, M4) =>
      (gI 12 127 5 M4 v0).bind fun x5 =>
      if x5 = 0 then
        (gR 12 127 47 M4 v0).bind fun x6 =>
        (gR 12 127 46 M4 v0).bind fun x7 =>
        (ldI 14 M4 x7 ((1 : Int32))).bind fun x8 =>
        (stJ M4 x6 (((8 : Int32) + x8)) x3).bind fun M9 =>
        (gR 12 127 46 M9 v0).bind fun x10 =>
        (ldI 14 M9 x10 ((1 : Int32))).bind fun x11 =>
        (stI M9 x10 ((1 : Int32)) ((x11 + (1 : Int32)))).bind fun M12 =>
        some M12
      else
        some M4
    else
      some M2)
set_option maxRecDepth 100000 in
set_option maxHeartbeats 4000000 in
theorem m_X12_placeTold (G : sG) (l : Launch) (v0 : Nat) (v1 : Int32) (M0 : sMem) : sCv G l 6 yX12_placeTold cX12_placeTold 4 none [.ref v0, .int v1] M0 (f_X12_placeTold v0 v1 M0) := by
  refine sC_v (ls := [some (.ref v0), some (.int v1), none, none]) (by decide +kernel) rfl (Nat.le_of_ble_eq_true rfl) (fun r M' K hr => ?_)
  unfold f_X12_placeTold
  refine sX_rc ?_
  refine sX_aload_n (i := 0) (by decide +kernel) rfl ?_
  refine sX_iconst (n := 1) (v := (1 : Int32)) (by decide +kernel) (by decide) ?_
  refine sX_bipush (n := 7) (v := (7 : Int32)) (by decide +kernel) (by decide) ?_
  refine sX_iload_n (i := 1) (by decide +kernel) rfl ?_
  refine sX_callV (As := [.int (1 : Int32), .int (7 : Int32), .int v1]) (by decide +kernel) lm_X12_385 mf_X12_isFull mi_X12_isFull mc_12 (m_X12_isFull G l v0 ((1 : Int32)) ((7 : Int32)) v1 M0) (fun _ h => sRc_some h) (by decide) rfl rfl (Nat.le_of_ble_eq_true rfl) (fun x1 M2 _ => ?_)
  refine sX_ifeq (o := 4) (t := 12) (by decide +kernel) (by decide) (fun _ => ?_) (fun _ => ?_)
  · refine sX_aload_n (i := 0) (by decide +kernel) rfl ?_
    refine sX_callV (As := []) (by decide +kernel) lm_X12_389 mf_X12_newName mi_X12_newName mc_12 (m_X12_newName G l v0 M2) (fun _ h => sRc_some h) (by decide) rfl rfl (Nat.le_of_ble_eq_true rfl) (fun x3 M4 _ => ?_)
    refine sX_lstore_n (i := 2) (ls2 := [some (.ref v0), some (.int v1), some (.long x3), none]) (by decide +kernel) (by decide) rfl ?_
    refine sX_aload_n (i := 0) (by decide +kernel) rfl ?_
    refine sX_getI lf_X12_300 tk_12_5 (by decide +kernel) (fun x5 => ?_)
    refine sX_ifeq (o := 4) (t := 25) (by decide +kernel) (by decide) (fun _ => ?_) (fun _ => ?_)
    · refine sX_aload_n (i := 0) (by decide +kernel) rfl ?_
      refine sX_getR lf_X12_126 tk_12_47 (by decide +kernel) (fun x6 => ?_)
      refine sX_bipush (n := 8) (v := (8 : Int32)) (by decide +kernel) (by decide) ?_
      refine sX_aload_n (i := 0) (by decide +kernel) rfl ?_
      refine sX_getR lf_X12_123 tk_12_46 (by decide +kernel) (fun x7 => ?_)
      refine sX_iconst (n := 1) (v := (1 : Int32)) (by decide +kernel) (by decide) ?_
      refine sX_iaload (by decide +kernel) (fun x8 => ?_)
      refine sX_iadd (by decide +kernel) ?_
      refine sX_lload_n (i := 2) (by decide +kernel) rfl ?_
      refine sX_lastore (by decide +kernel) (by decide) (fun M9 => ?_)
      refine sX_aload_n (i := 0) (by decide +kernel) rfl ?_
      refine sX_getR lf_X12_123 tk_12_46 (by decide +kernel) (fun x10 => ?_)
      refine sX_iconst (n := 1) (v := (1 : Int32)) (by decide +kernel) (by decide) ?_
      refine sX_dup2 (by decide +kernel) rfl rfl ?_
      refine sX_iaload (by decide +kernel) (fun x11 => ?_)
      refine sX_iconst (n := 1) (v := (1 : Int32)) (by decide +kernel) (by decide) ?_
      refine sX_iadd (by decide +kernel) ?_
      refine sX_iastore (by decide +kernel) (by decide) (fun M12 => ?_)
      exact sX_some (fun h _ => sW_vret (by decide +kernel) rfl (hr _ h).1.symm (hr _ h).2.symm)
    · exact sX_some (fun h _ => sW_vret (by decide +kernel) rfl (hr _ h).1.symm (hr _ h).2.symm)
  · exact sX_some (fun h _ => sW_vret (by decide +kernel) rfl (hr _ h).1.symm (hr _ h).2.symm)
def f_X12_roadTold_B75 (v0 : Nat) (v3 : Int32) (v4 : Int32) (v5 : Int32) (v6 : Int32) (M : sMem) : Option sMem :=
  (gI 12 127 5 M v0).bind fun x1 =>
  if x1 = 0 then
    (gR 12 127 46 M v0).bind fun x2 =>
    (ldI 14 M x2 ((4 : Int32))).bind fun x3 =>
    (gR 12 127 49 M v0).bind fun x4 =>
    (stI M x4 (((4 : Int32) * x3)) v3).bind fun M5 =>
    (gR 12 127 49 M5 v0).bind fun x6 =>
    (stI M5 x6 ((((4 : Int32) * x3) + (1 : Int32))) v4).bind fun M7 =>
    (gR 12 127 49 M7 v0).bind fun x8 =>
    (stI M7 x8 ((((4 : Int32) * x3) + (2 : Int32))) v5).bind fun M9 =>
    (gR 12 127 49 M9 v0).bind fun x10 =>
    (stI M9 x10 ((((4 : Int32) * x3) + (3 : Int32))) v6).bind fun M11 =>
    (gR 12 127 46 M11 v0).bind fun x12 =>
    (ldI 14 M11 x12 ((4 : Int32))).bind fun x13 =>
    (stI M11 x12 ((4 : Int32)) ((x13 + (1 : Int32)))).bind fun M14 =>
    some M14
  else
    some M
def f_X12_roadTold (v0 : Nat) (v1 : Int32) (v2 : Int32) (M0 : sMem) : Option sMem :=
  sRc 12 127 M0 v0 (
    (f_X12_isFull v0 ((4 : Int32)) ((12 : Int32)) v2 M0).bind fun (x15, M16) =>
    if x15 = 0 then
      (f_X12_named v0 ((1 : Int32)) ((-1 : Int32)) M16).bind fun (x17, M18) =>
      (gR 12 127 16 M18 v0).bind fun x19 =>
      (f_X12_asks v0 x19 M18).bind fun M20 =>
      (f_X12_named v0 ((1 : Int32)) x17 M20).bind fun (x21, M22) =>
      (gR 12 127 17 M22 v0).bind fun x23 =>
      (f_X12_asks v0 x23 M22).bind fun M24 =>
      (f_X12_number v0 ((1 : Int32)) ((60 : Int32)) M24).bind fun (x25, M26) =>
      if v1 = 0 then
        f_X12_roadTold_B75 v0 x17 x21 x25 ((-1 : Int32)) M26
      else
        (gR 12 127 19 M26 v0).bind fun x27 =>
        (f_X12_asks v0 x27 M26).bind fun M28 =>
        (f_X12_named v0 ((0 : Int32)) ((-1 : Int32)) M28).bind fun (x29, M30) =>
        f_X12_roadTold_B75 v0 x17 x21 x25 x29 M30
    else
      some M16)
set_option maxRecDepth 100000 in
set_option maxHeartbeats 4000000 in
theorem m_X12_roadTold (G : sG) (l : Launch) (v0 : Nat) (v1 : Int32) (v2 : Int32) (M0 : sMem) : sCv G l 6 yX12_roadTold cX12_roadTold 8 none [.ref v0, .int v1, .int v2] M0 (f_X12_roadTold v0 v1 v2 M0) := by
  refine sC_v (ls := [some (.ref v0), some (.int v1), some (.int v2), none, none, none, none, none]) (by decide +kernel) rfl (Nat.le_of_ble_eq_true rfl) (fun r M' K hr => ?_)
  unfold f_X12_roadTold
  have xB75 : ∀ (v0 : Nat) (v3 : Int32) (v4 : Int32) (v5 : Int32) (v6 : Int32) (M : sMem), sX G l 6 yX12_roadTold cX12_roadTold 8 none M0 r M' 75 [some (.ref v0), none, none, some (.int v3), some (.int v4), some (.int v5), some (.int v6), none] [] M (f_X12_roadTold_B75 v0 v3 v4 v5 v6 M) K := by
    intro v0 v3 v4 v5 v6 M
    unfold f_X12_roadTold_B75
    refine sX_aload_n (i := 0) (by decide +kernel) rfl ?_
    refine sX_getI lf_X12_300 tk_12_5 (by decide +kernel) (fun x1 => ?_)
    refine sX_ifeq (o := 4) (t := 83) (by decide +kernel) (by decide) (fun _ => ?_) (fun _ => ?_)
    · refine sX_iconst (n := 4) (v := (4 : Int32)) (by decide +kernel) (by decide) ?_
      refine sX_aload_n (i := 0) (by decide +kernel) rfl ?_
      refine sX_getR lf_X12_123 tk_12_46 (by decide +kernel) (fun x2 => ?_)
      refine sX_iconst (n := 4) (v := (4 : Int32)) (by decide +kernel) (by decide) ?_
      refine sX_iaload (by decide +kernel) (fun x3 => ?_)
      refine sX_imul (by decide +kernel) ?_
      refine sX_istore (i := 7) (ls2 := [some (.ref v0), none, none, some (.int v3), some (.int v4), some (.int v5), some (.int v6), some (.int ((4 : Int32) * x3))]) (by decide +kernel) (by decide) rfl ?_
      refine sX_aload_n (i := 0) (by decide +kernel) rfl ?_
      refine sX_getR lf_X12_133 tk_12_49 (by decide +kernel) (fun x4 => ?_)
      refine sX_iload (i := 7) (by decide +kernel) rfl ?_
      refine sX_iload_n (i := 3) (by decide +kernel) rfl ?_
      refine sX_iastore (by decide +kernel) (by decide) (fun M5 => ?_)
      refine sX_aload_n (i := 0) (by decide +kernel) rfl ?_
      refine sX_getR lf_X12_133 tk_12_49 (by decide +kernel) (fun x6 => ?_)
      refine sX_iload (i := 7) (by decide +kernel) rfl ?_
      refine sX_iconst (n := 1) (v := (1 : Int32)) (by decide +kernel) (by decide) ?_
      refine sX_iadd (by decide +kernel) ?_
      refine sX_iload (i := 4) (by decide +kernel) rfl ?_
      refine sX_iastore (by decide +kernel) (by decide) (fun M7 => ?_)
      refine sX_aload_n (i := 0) (by decide +kernel) rfl ?_
      refine sX_getR lf_X12_133 tk_12_49 (by decide +kernel) (fun x8 => ?_)
      refine sX_iload (i := 7) (by decide +kernel) rfl ?_
      refine sX_iconst (n := 2) (v := (2 : Int32)) (by decide +kernel) (by decide) ?_
      refine sX_iadd (by decide +kernel) ?_
      refine sX_iload (i := 5) (by decide +kernel) rfl ?_
      refine sX_iastore (by decide +kernel) (by decide) (fun M9 => ?_)
      refine sX_aload_n (i := 0) (by decide +kernel) rfl ?_
      refine sX_getR lf_X12_133 tk_12_49 (by decide +kernel) (fun x10 => ?_)
      refine sX_iload (i := 7) (by decide +kernel) rfl ?_
      refine sX_iconst (n := 3) (v := (3 : Int32)) (by decide +kernel) (by decide) ?_
      refine sX_iadd (by decide +kernel) ?_
      refine sX_iload (i := 6) (by decide +kernel) rfl ?_
      refine sX_iastore (by decide +kernel) (by decide) (fun M11 => ?_)
      refine sX_aload_n (i := 0) (by decide +kernel) rfl ?_
      refine sX_getR lf_X12_123 tk_12_46 (by decide +kernel) (fun x12 => ?_)
      refine sX_iconst (n := 4) (v := (4 : Int32)) (by decide +kernel) (by decide) ?_
      refine sX_dup2 (by decide +kernel) rfl rfl ?_
      refine sX_iaload (by decide +kernel) (fun x13 => ?_)
      refine sX_iconst (n := 1) (v := (1 : Int32)) (by decide +kernel) (by decide) ?_
      refine sX_iadd (by decide +kernel) ?_
      refine sX_iastore (by decide +kernel) (by decide) (fun M14 => ?_)
      exact sX_some (fun h _ => sW_vret (by decide +kernel) rfl (hr _ h).1.symm (hr _ h).2.symm)
    · exact sX_some (fun h _ => sW_vret (by decide +kernel) rfl (hr _ h).1.symm (hr _ h).2.symm)
  refine sX_rc ?_
  refine sX_aload_n (i := 0) (by decide +kernel) rfl ?_
  refine sX_iconst (n := 4) (v := (4 : Int32)) (by decide +kernel) (by decide) ?_
  refine sX_bipush (n := 12) (v := (12 : Int32)) (by decide +kernel) (by decide) ?_
  refine sX_iload_n (i := 2) (by decide +kernel) rfl ?_
  refine sX_callV (As := [.int (4 : Int32), .int (12 : Int32), .int v2]) (by decide +kernel) lm_X12_385 mf_X12_isFull mi_X12_isFull mc_12 (m_X12_isFull G l v0 ((4 : Int32)) ((12 : Int32)) v2 M0) (fun _ h => sRc_some h) (by decide) rfl rfl (Nat.le_of_ble_eq_true rfl) (fun x15 M16 _ => ?_)
  refine sX_ifeq (o := 4) (t := 12) (by decide +kernel) (by decide) (fun _ => ?_) (fun _ => ?_)
  · refine sX_aload_n (i := 0) (by decide +kernel) rfl ?_
    refine sX_iconst (n := 1) (v := (1 : Int32)) (by decide +kernel) (by decide) ?_
    refine sX_iconst (n := -1) (v := (-1 : Int32)) (by decide +kernel) (by decide) ?_
    refine sX_callV (As := [.int (1 : Int32), .int (-1 : Int32)]) (by decide +kernel) lm_X12_392 mf_X12_named mi_X12_named mc_12 (m_X12_named G l v0 ((1 : Int32)) ((-1 : Int32)) M16) (fun _ h => sRc_some h) (by decide) rfl rfl (Nat.le_of_ble_eq_true rfl) (fun x17 M18 _ => ?_)
    refine sX_istore_n (i := 3) (ls2 := [some (.ref v0), some (.int v1), some (.int v2), some (.int x17), none, none, none, none]) (by decide +kernel) (by decide) rfl ?_
    refine sX_aload_n (i := 0) (by decide +kernel) rfl ?_
    refine sX_aload_n (i := 0) (by decide +kernel) rfl ?_
    refine sX_getR lf_X12_36 tk_12_16 (by decide +kernel) (fun x19 => ?_)
    refine sX_callVv (As := [.ref x19]) (by decide +kernel) lm_X12_373 mf_X12_asks mi_X12_asks mc_12 (m_X12_asks G l v0 x19 M18) (fun _ h => sRc_some h) (by decide) rfl rfl (Nat.le_of_ble_eq_true rfl) (fun M20 => ?_)
    refine sX_aload_n (i := 0) (by decide +kernel) rfl ?_
    refine sX_iconst (n := 1) (v := (1 : Int32)) (by decide +kernel) (by decide) ?_
    refine sX_iload_n (i := 3) (by decide +kernel) rfl ?_
    refine sX_callV (As := [.int (1 : Int32), .int x17]) (by decide +kernel) lm_X12_392 mf_X12_named mi_X12_named mc_12 (m_X12_named G l v0 ((1 : Int32)) x17 M20) (fun _ h => sRc_some h) (by decide) rfl rfl (Nat.le_of_ble_eq_true rfl) (fun x21 M22 _ => ?_)
    refine sX_istore (i := 4) (ls2 := [some (.ref v0), some (.int v1), some (.int v2), some (.int x17), some (.int x21), none, none, none]) (by decide +kernel) (by decide) rfl ?_
    refine sX_aload_n (i := 0) (by decide +kernel) rfl ?_
    refine sX_aload_n (i := 0) (by decide +kernel) rfl ?_
    refine sX_getR lf_X12_39 tk_12_17 (by decide +kernel) (fun x23 => ?_)
    refine sX_callVv (As := [.ref x23]) (by decide +kernel) lm_X12_373 mf_X12_asks mi_X12_asks mc_12 (m_X12_asks G l v0 x23 M22) (fun _ h => sRc_some h) (by decide) rfl rfl (Nat.le_of_ble_eq_true rfl) (fun M24 => ?_)
    refine sX_aload_n (i := 0) (by decide +kernel) rfl ?_
    refine sX_iconst (n := 1) (v := (1 : Int32)) (by decide +kernel) (by decide) ?_
    refine sX_bipush (n := 60) (v := (60 : Int32)) (by decide +kernel) (by decide) ?_
    refine sX_callV (As := [.int (1 : Int32), .int (60 : Int32)]) (by decide +kernel) lm_X12_377 mf_X12_number mi_X12_number mc_12 (m_X12_number G l v0 ((1 : Int32)) ((60 : Int32)) M24) (fun _ h => sRc_some h) (by decide) rfl rfl (Nat.le_of_ble_eq_true rfl) (fun x25 M26 _ => ?_)
    refine sX_istore (i := 5) (ls2 := [some (.ref v0), some (.int v1), some (.int v2), some (.int x17), some (.int x21), some (.int x25), none, none]) (by decide +kernel) (by decide) rfl ?_
    refine sX_iconst (n := -1) (v := (-1 : Int32)) (by decide +kernel) (by decide) ?_
    refine sX_istore (i := 6) (ls2 := [some (.ref v0), some (.int v1), some (.int v2), some (.int x17), some (.int x21), some (.int x25), some (.int (-1 : Int32)), none]) (by decide +kernel) (by decide) rfl ?_
    refine sX_iload_n (i := 1) (by decide +kernel) rfl ?_
    refine sX_ifeq (o := 19) (t := 75) (by decide +kernel) (by decide) (fun _ => ?_) (fun _ => ?_)
    · exact sX.le (xB75 v0 x17 x21 x25 ((-1 : Int32)) M26) (sLe_s (sLe_n (sLe_n (sLe_s (sLe_s (sLe_s (sLe_s (sLe_n sLe_e))))))))
    · refine sX_aload_n (i := 0) (by decide +kernel) rfl ?_
      refine sX_aload_n (i := 0) (by decide +kernel) rfl ?_
      refine sX_getR lf_X12_45 tk_12_19 (by decide +kernel) (fun x27 => ?_)
      refine sX_callVv (As := [.ref x27]) (by decide +kernel) lm_X12_373 mf_X12_asks mi_X12_asks mc_12 (m_X12_asks G l v0 x27 M26) (fun _ h => sRc_some h) (by decide) rfl rfl (Nat.le_of_ble_eq_true rfl) (fun M28 => ?_)
      refine sX_aload_n (i := 0) (by decide +kernel) rfl ?_
      refine sX_iconst (n := 0) (v := (0 : Int32)) (by decide +kernel) (by decide) ?_
      refine sX_iconst (n := -1) (v := (-1 : Int32)) (by decide +kernel) (by decide) ?_
      refine sX_callV (As := [.int (0 : Int32), .int (-1 : Int32)]) (by decide +kernel) lm_X12_392 mf_X12_named mi_X12_named mc_12 (m_X12_named G l v0 ((0 : Int32)) ((-1 : Int32)) M28) (fun _ h => sRc_some h) (by decide) rfl rfl (Nat.le_of_ble_eq_true rfl) (fun x29 M30 _ => ?_)
      refine sX_istore (i := 6) (ls2 := [some (.ref v0), some (.int v1), some (.int v2), some (.int x17), some (.int x21), some (.int x25), some (.int x29), none]) (by decide +kernel) (by decide) rfl ?_
      exact sX.le (xB75 v0 x17 x21 x25 x29 M30) (sLe_s (sLe_n (sLe_n (sLe_s (sLe_s (sLe_s (sLe_s (sLe_n sLe_e))))))))
  · exact sX_some (fun h _ => sW_vret (by decide +kernel) rfl (hr _ h).1.symm (hr _ h).2.symm)
def f_X12_eraTold_B83 (v0 : Nat) (v2 : Int64) (v4 : Int32) (v5 : Int32) (v6 : Int32) (v7 : Int32) (M : sMem) : Option sMem :=
  (gR 12 127 47 M v0).bind fun x1 =>
  (stJ M x1 (((16 : Int32) + v7)) v2).bind fun M2 =>
  (gR 12 127 50 M2 v0).bind fun x3 =>
  (stI M2 x3 (((3 : Int32) * v7)) v4).bind fun M4 =>
  (gR 12 127 50 M4 v0).bind fun x5 =>
  (stI M4 x5 ((((3 : Int32) * v7) + (1 : Int32))) v5).bind fun M6 =>
  (gR 12 127 50 M6 v0).bind fun x7 =>
  (stI M6 x7 ((((3 : Int32) * v7) + (2 : Int32))) v6).bind fun M8 =>
  (gR 12 127 46 M8 v0).bind fun x9 =>
  (ldI 14 M8 x9 ((2 : Int32))).bind fun x10 =>
  (stI M8 x9 ((2 : Int32)) ((x10 + (1 : Int32)))).bind fun M11 =>
  some M11
def f_X12_eraTold (v0 : Nat) (v1 : Int32) (M0 : sMem) : Option sMem :=
  sRc 12 127 M0 v0 (
    (f_X12_isFull v0 ((2 : Int32)) ((5 : Int32)) v1 M0).bind fun (x12, M13) =>
    if x12 = 0 then
      (f_X12_newName v0 M13).bind fun (x14, M15) =>
      (gR 12 127 21 M15 v0).bind fun x16 =>
      (f_X12_asks v0 x16 M15).bind fun M17 =>
      (f_X12_number v0 ((1 : Int32)) ((30 : Int32)) M17).bind fun (x18, M19) =>
      (gR 12 127 22 M19 v0).bind fun x20 =>
      (f_X12_asks v0 x20 M19).bind fun M21 =>
      (f_X12_number v0 ((1 : Int32)) ((9 : Int32)) M21).bind fun (x22, M23) =>
      (gR 12 127 23 M23 v0).bind fun x24 =>
      (f_X12_asks v0 x24 M23).bind fun M25 =>
      (f_X12_number v0 ((0 : Int32)) ((99 : Int32)) M25).bind fun (x26, M27) =>
      (gI 12 127 5 M27 v0).bind fun x28 =>
      if x28 = 0 then
        (gR 12 127 46 M27 v0).bind fun x29 =>
        (ldI 14 M27 x29 ((2 : Int32))).bind fun x30 =>
        f_X12_eraTold_B83 v0 x14 x18 x22 x26 x30 M27
      else
        some M27
    else
      some M13)
set_option maxRecDepth 100000 in
set_option maxHeartbeats 4000000 in
theorem m_X12_eraTold (G : sG) (l : Launch) (v0 : Nat) (v1 : Int32) (M0 : sMem) : sCv G l 6 yX12_eraTold cX12_eraTold 8 none [.ref v0, .int v1] M0 (f_X12_eraTold v0 v1 M0) := by
  refine sC_v (ls := [some (.ref v0), some (.int v1), none, none, none, none, none, none]) (by decide +kernel) rfl (Nat.le_of_ble_eq_true rfl) (fun r M' K hr => ?_)
  unfold f_X12_eraTold
  have xB83 : ∀ (v0 : Nat) (v2 : Int64) (v4 : Int32) (v5 : Int32) (v6 : Int32) (v7 : Int32) (M : sMem), sX G l 6 yX12_eraTold cX12_eraTold 8 none M0 r M' 83 [some (.ref v0), none, some (.long v2), none, some (.int v4), some (.int v5), some (.int v6), some (.int v7)] [] M (f_X12_eraTold_B83 v0 v2 v4 v5 v6 v7 M) K := by
    intro v0 v2 v4 v5 v6 v7 M
    unfold f_X12_eraTold_B83
    refine sX_aload_n (i := 0) (by decide +kernel) rfl ?_
    refine sX_getR lf_X12_126 tk_12_47 (by decide +kernel) (fun x1 => ?_)
    refine sX_bipush (n := 16) (v := (16 : Int32)) (by decide +kernel) (by decide) ?_
    refine sX_iload (i := 7) (by decide +kernel) rfl ?_
    refine sX_iadd (by decide +kernel) ?_
    refine sX_lload_n (i := 2) (by decide +kernel) rfl ?_
    refine sX_lastore (by decide +kernel) (by decide) (fun M2 => ?_)
    refine sX_aload_n (i := 0) (by decide +kernel) rfl ?_
    refine sX_getR lf_X12_136 tk_12_50 (by decide +kernel) (fun x3 => ?_)
    refine sX_iconst (n := 3) (v := (3 : Int32)) (by decide +kernel) (by decide) ?_
    refine sX_iload (i := 7) (by decide +kernel) rfl ?_
    refine sX_imul (by decide +kernel) ?_
    refine sX_iload (i := 4) (by decide +kernel) rfl ?_
    refine sX_iastore (by decide +kernel) (by decide) (fun M4 => ?_)
    refine sX_aload_n (i := 0) (by decide +kernel) rfl ?_
    refine sX_getR lf_X12_136 tk_12_50 (by decide +kernel) (fun x5 => ?_)
    refine sX_iconst (n := 3) (v := (3 : Int32)) (by decide +kernel) (by decide) ?_
    refine sX_iload (i := 7) (by decide +kernel) rfl ?_
    refine sX_imul (by decide +kernel) ?_
    refine sX_iconst (n := 1) (v := (1 : Int32)) (by decide +kernel) (by decide) ?_
    refine sX_iadd (by decide +kernel) ?_
    refine sX_iload (i := 5) (by decide +kernel) rfl ?_
    refine sX_iastore (by decide +kernel) (by decide) (fun M6 => ?_)
    refine sX_aload_n (i := 0) (by decide +kernel) rfl ?_
    refine sX_getR lf_X12_136 tk_12_50 (by decide +kernel) (fun x7 => ?_)
    refine sX_iconst (n := 3) (v := (3 : Int32)) (by decide +kernel) (by decide) ?_
    refine sX_iload (i := 7) (by decide +kernel) rfl ?_
    refine sX_imul (by decide +kernel) ?_
    refine sX_iconst (n := 2) (v := (2 : Int32)) (by decide +kernel) (by decide) ?_
    refine sX_iadd (by decide +kernel) ?_
    refine sX_iload (i := 6) (by decide +kernel) rfl ?_
    refine sX_iastore (by decide +kernel) (by decide) (fun M8 => ?_)
    refine sX_aload_n (i := 0) (by decide +kernel) rfl ?_
    refine sX_getR lf_X12_123 tk_12_46 (by decide +kernel) (fun x9 => ?_)
    refine sX_iconst (n := 2) (v := (2 : Int32)) (by decide +kernel) (by decide) ?_
    refine sX_dup2 (by decide +kernel) rfl rfl ?_
    refine sX_iaload (by decide +kernel) (fun x10 => ?_)
    refine sX_iconst (n := 1) (v := (1 : Int32)) (by decide +kernel) (by decide) ?_
    refine sX_iadd (by decide +kernel) ?_
    refine sX_iastore (by decide +kernel) (by decide) (fun M11 => ?_)
    exact sX_some (fun h _ => sW_vret (by decide +kernel) rfl (hr _ h).1.symm (hr _ h).2.symm)
  refine sX_rc ?_
  refine sX_aload_n (i := 0) (by decide +kernel) rfl ?_
  refine sX_iconst (n := 2) (v := (2 : Int32)) (by decide +kernel) (by decide) ?_
  refine sX_iconst (n := 5) (v := (5 : Int32)) (by decide +kernel) (by decide) ?_
  refine sX_iload_n (i := 1) (by decide +kernel) rfl ?_
  refine sX_callV (As := [.int (2 : Int32), .int (5 : Int32), .int v1]) (by decide +kernel) lm_X12_385 mf_X12_isFull mi_X12_isFull mc_12 (m_X12_isFull G l v0 ((2 : Int32)) ((5 : Int32)) v1 M0) (fun _ h => sRc_some h) (by decide) rfl rfl (Nat.le_of_ble_eq_true rfl) (fun x12 M13 _ => ?_)
  refine sX_ifeq (o := 4) (t := 11) (by decide +kernel) (by decide) (fun _ => ?_) (fun _ => ?_)
  · refine sX_aload_n (i := 0) (by decide +kernel) rfl ?_
    refine sX_callV (As := []) (by decide +kernel) lm_X12_389 mf_X12_newName mi_X12_newName mc_12 (m_X12_newName G l v0 M13) (fun _ h => sRc_some h) (by decide) rfl rfl (Nat.le_of_ble_eq_true rfl) (fun x14 M15 _ => ?_)
    refine sX_lstore_n (i := 2) (ls2 := [some (.ref v0), some (.int v1), some (.long x14), none, none, none, none, none]) (by decide +kernel) (by decide) rfl ?_
    refine sX_aload_n (i := 0) (by decide +kernel) rfl ?_
    refine sX_aload_n (i := 0) (by decide +kernel) rfl ?_
    refine sX_getR lf_X12_51 tk_12_21 (by decide +kernel) (fun x16 => ?_)
    refine sX_callVv (As := [.ref x16]) (by decide +kernel) lm_X12_373 mf_X12_asks mi_X12_asks mc_12 (m_X12_asks G l v0 x16 M15) (fun _ h => sRc_some h) (by decide) rfl rfl (Nat.le_of_ble_eq_true rfl) (fun M17 => ?_)
    refine sX_aload_n (i := 0) (by decide +kernel) rfl ?_
    refine sX_iconst (n := 1) (v := (1 : Int32)) (by decide +kernel) (by decide) ?_
    refine sX_bipush (n := 30) (v := (30 : Int32)) (by decide +kernel) (by decide) ?_
    refine sX_callV (As := [.int (1 : Int32), .int (30 : Int32)]) (by decide +kernel) lm_X12_377 mf_X12_number mi_X12_number mc_12 (m_X12_number G l v0 ((1 : Int32)) ((30 : Int32)) M17) (fun _ h => sRc_some h) (by decide) rfl rfl (Nat.le_of_ble_eq_true rfl) (fun x18 M19 _ => ?_)
    refine sX_istore (i := 4) (ls2 := [some (.ref v0), some (.int v1), some (.long x14), none, some (.int x18), none, none, none]) (by decide +kernel) (by decide) rfl ?_
    refine sX_aload_n (i := 0) (by decide +kernel) rfl ?_
    refine sX_aload_n (i := 0) (by decide +kernel) rfl ?_
    refine sX_getR lf_X12_54 tk_12_22 (by decide +kernel) (fun x20 => ?_)
    refine sX_callVv (As := [.ref x20]) (by decide +kernel) lm_X12_373 mf_X12_asks mi_X12_asks mc_12 (m_X12_asks G l v0 x20 M19) (fun _ h => sRc_some h) (by decide) rfl rfl (Nat.le_of_ble_eq_true rfl) (fun M21 => ?_)
    refine sX_aload_n (i := 0) (by decide +kernel) rfl ?_
    refine sX_iconst (n := 1) (v := (1 : Int32)) (by decide +kernel) (by decide) ?_
    refine sX_bipush (n := 9) (v := (9 : Int32)) (by decide +kernel) (by decide) ?_
    refine sX_callV (As := [.int (1 : Int32), .int (9 : Int32)]) (by decide +kernel) lm_X12_377 mf_X12_number mi_X12_number mc_12 (m_X12_number G l v0 ((1 : Int32)) ((9 : Int32)) M21) (fun _ h => sRc_some h) (by decide) rfl rfl (Nat.le_of_ble_eq_true rfl) (fun x22 M23 _ => ?_)
    refine sX_istore (i := 5) (ls2 := [some (.ref v0), some (.int v1), some (.long x14), none, some (.int x18), some (.int x22), none, none]) (by decide +kernel) (by decide) rfl ?_
    refine sX_aload_n (i := 0) (by decide +kernel) rfl ?_
    refine sX_aload_n (i := 0) (by decide +kernel) rfl ?_
    refine sX_getR lf_X12_57 tk_12_23 (by decide +kernel) (fun x24 => ?_)
    refine sX_callVv (As := [.ref x24]) (by decide +kernel) lm_X12_373 mf_X12_asks mi_X12_asks mc_12 (m_X12_asks G l v0 x24 M23) (fun _ h => sRc_some h) (by decide) rfl rfl (Nat.le_of_ble_eq_true rfl) (fun M25 => ?_)
    refine sX_aload_n (i := 0) (by decide +kernel) rfl ?_
    refine sX_iconst (n := 0) (v := (0 : Int32)) (by decide +kernel) (by decide) ?_
    refine sX_bipush (n := 99) (v := (99 : Int32)) (by decide +kernel) (by decide) ?_
    refine sX_callV (As := [.int (0 : Int32), .int (99 : Int32)]) (by decide +kernel) lm_X12_377 mf_X12_number mi_X12_number mc_12 (m_X12_number G l v0 ((0 : Int32)) ((99 : Int32)) M25) (fun _ h => sRc_some h) (by decide) rfl rfl (Nat.le_of_ble_eq_true rfl) (fun x26 M27 _ => ?_)
    refine sX_istore (i := 6) (ls2 := [some (.ref v0), some (.int v1), some (.long x14), none, some (.int x18), some (.int x22), some (.int x26), none]) (by decide +kernel) (by decide) rfl ?_
    refine sX_aload_n (i := 0) (by decide +kernel) rfl ?_
    refine sX_getI lf_X12_300 tk_12_5 (by decide +kernel) (fun x28 => ?_)
    refine sX_ifeq (o := 4) (t := 75) (by decide +kernel) (by decide) (fun _ => ?_) (fun _ => ?_)
    · refine sX_aload_n (i := 0) (by decide +kernel) rfl ?_
      refine sX_getR lf_X12_123 tk_12_46 (by decide +kernel) (fun x29 => ?_)
      refine sX_iconst (n := 2) (v := (2 : Int32)) (by decide +kernel) (by decide) ?_
      refine sX_iaload (by decide +kernel) (fun x30 => ?_)
      refine sX_istore (i := 7) (ls2 := [some (.ref v0), some (.int v1), some (.long x14), none, some (.int x18), some (.int x22), some (.int x26), some (.int x30)]) (by decide +kernel) (by decide) rfl ?_
      exact sX.le (xB83 v0 x14 x18 x22 x26 x30 M27) (sLe_s (sLe_n (sLe_s (sLe_n (sLe_s (sLe_s (sLe_s (sLe_s sLe_e))))))))
    · exact sX_some (fun h _ => sW_vret (by decide +kernel) rfl (hr _ h).1.symm (hr _ h).2.symm)
  · exact sX_some (fun h _ => sW_vret (by decide +kernel) rfl (hr _ h).1.symm (hr _ h).2.symm)
def f_X12_carTold_B82 (v0 : Nat) (v2 : Int64) (v4 : Int32) (v5 : Int32) (v6 : Int32) (v7 : Int32) (M : sMem) : Option sMem :=
  (gR 12 127 47 M v0).bind fun x1 =>
  (stJ M x1 (((24 : Int32) + v7)) v2).bind fun M2 =>
  (gR 12 127 51 M2 v0).bind fun x3 =>
  (stI M2 x3 (((3 : Int32) * v7)) v4).bind fun M4 =>
  (gR 12 127 51 M4 v0).bind fun x5 =>
  (stI M4 x5 ((((3 : Int32) * v7) + (1 : Int32))) v5).bind fun M6 =>
  (gR 12 127 51 M6 v0).bind fun x7 =>
  (stI M6 x7 ((((3 : Int32) * v7) + (2 : Int32))) v6).bind fun M8 =>
  (gR 12 127 46 M8 v0).bind fun x9 =>
  (ldI 14 M8 x9 ((3 : Int32))).bind fun x10 =>
  (stI M8 x9 ((3 : Int32)) ((x10 + (1 : Int32)))).bind fun M11 =>
  some M11
def f_X12_carTold (v0 : Nat) (v1 : Int32) (M0 : sMem) : Option sMem :=
  sRc 12 127 M0 v0 (
    (f_X12_isFull v0 ((3 : Int32)) ((5 : Int32)) v1 M0).bind fun (x12, M13) =>
    if x12 = 0 then
      (f_X12_newName v0 M13).bind fun (x14, M15) =>
      (gR 12 127 13 M15 v0).bind fun x16 =>
      (f_X12_asks v0 x16 M15).bind fun M17 =>
      (f_X12_named v0 ((1 : Int32)) ((-1 : Int32)) M17).bind fun (x18, M19) =>
      (gR 12 127 16 M19 v0).bind fun x20 =>
      (f_X12_asks v0 x20 M19).bind fun M21 =>
      (f_X12_named v0 ((1 : Int32)) x18 M21).bind fun (x22, M23) =>
      (gR 12 127 23 M23 v0).bind fun x24 =>
      (f_X12_asks v0 x24 M23).bind fun M25 =>
      (f_X12_number v0 ((0 : Int32)) ((99 : Int32)) M25).bind fun (x26, M27) =>
      (gI 12 127 5 M27 v0).bind fun x28 =>
      if x28 = 0 then
        (gR 12 127 46 M27 v0).bind fun x29 =>
        (ldI 14 M27 x29 ((3 : Int32))).bind fun x30 =>
        f_X12_carTold_B82 v0 x14 x18 x22 x26 x30 M27
      else
        some M27
    else
      some M13)
set_option maxRecDepth 100000 in
set_option maxHeartbeats 4000000 in
theorem m_X12_carTold (G : sG) (l : Launch) (v0 : Nat) (v1 : Int32) (M0 : sMem) : sCv G l 6 yX12_carTold cX12_carTold 8 none [.ref v0, .int v1] M0 (f_X12_carTold v0 v1 M0) := by
  refine sC_v (ls := [some (.ref v0), some (.int v1), none, none, none, none, none, none]) (by decide +kernel) rfl (Nat.le_of_ble_eq_true rfl) (fun r M' K hr => ?_)
  unfold f_X12_carTold
  have xB82 : ∀ (v0 : Nat) (v2 : Int64) (v4 : Int32) (v5 : Int32) (v6 : Int32) (v7 : Int32) (M : sMem), sX G l 6 yX12_carTold cX12_carTold 8 none M0 r M' 82 [some (.ref v0), none, some (.long v2), none, some (.int v4), some (.int v5), some (.int v6), some (.int v7)] [] M (f_X12_carTold_B82 v0 v2 v4 v5 v6 v7 M) K := by
    intro v0 v2 v4 v5 v6 v7 M
    unfold f_X12_carTold_B82
    refine sX_aload_n (i := 0) (by decide +kernel) rfl ?_
    refine sX_getR lf_X12_126 tk_12_47 (by decide +kernel) (fun x1 => ?_)
    refine sX_bipush (n := 24) (v := (24 : Int32)) (by decide +kernel) (by decide) ?_
    refine sX_iload (i := 7) (by decide +kernel) rfl ?_
    refine sX_iadd (by decide +kernel) ?_
    refine sX_lload_n (i := 2) (by decide +kernel) rfl ?_
    refine sX_lastore (by decide +kernel) (by decide) (fun M2 => ?_)
    refine sX_aload_n (i := 0) (by decide +kernel) rfl ?_
    refine sX_getR lf_X12_139 tk_12_51 (by decide +kernel) (fun x3 => ?_)
    refine sX_iconst (n := 3) (v := (3 : Int32)) (by decide +kernel) (by decide) ?_
    refine sX_iload (i := 7) (by decide +kernel) rfl ?_
    refine sX_imul (by decide +kernel) ?_
    refine sX_iload (i := 4) (by decide +kernel) rfl ?_
    refine sX_iastore (by decide +kernel) (by decide) (fun M4 => ?_)
    refine sX_aload_n (i := 0) (by decide +kernel) rfl ?_
    refine sX_getR lf_X12_139 tk_12_51 (by decide +kernel) (fun x5 => ?_)
    refine sX_iconst (n := 3) (v := (3 : Int32)) (by decide +kernel) (by decide) ?_
    refine sX_iload (i := 7) (by decide +kernel) rfl ?_
    refine sX_imul (by decide +kernel) ?_
    refine sX_iconst (n := 1) (v := (1 : Int32)) (by decide +kernel) (by decide) ?_
    refine sX_iadd (by decide +kernel) ?_
    refine sX_iload (i := 5) (by decide +kernel) rfl ?_
    refine sX_iastore (by decide +kernel) (by decide) (fun M6 => ?_)
    refine sX_aload_n (i := 0) (by decide +kernel) rfl ?_
    refine sX_getR lf_X12_139 tk_12_51 (by decide +kernel) (fun x7 => ?_)
    refine sX_iconst (n := 3) (v := (3 : Int32)) (by decide +kernel) (by decide) ?_
    refine sX_iload (i := 7) (by decide +kernel) rfl ?_
    refine sX_imul (by decide +kernel) ?_
    refine sX_iconst (n := 2) (v := (2 : Int32)) (by decide +kernel) (by decide) ?_
    refine sX_iadd (by decide +kernel) ?_
    refine sX_iload (i := 6) (by decide +kernel) rfl ?_
    refine sX_iastore (by decide +kernel) (by decide) (fun M8 => ?_)
    refine sX_aload_n (i := 0) (by decide +kernel) rfl ?_
    refine sX_getR lf_X12_123 tk_12_46 (by decide +kernel) (fun x9 => ?_)
    refine sX_iconst (n := 3) (v := (3 : Int32)) (by decide +kernel) (by decide) ?_
    refine sX_dup2 (by decide +kernel) rfl rfl ?_
    refine sX_iaload (by decide +kernel) (fun x10 => ?_)
    refine sX_iconst (n := 1) (v := (1 : Int32)) (by decide +kernel) (by decide) ?_
    refine sX_iadd (by decide +kernel) ?_
    refine sX_iastore (by decide +kernel) (by decide) (fun M11 => ?_)
    exact sX_some (fun h _ => sW_vret (by decide +kernel) rfl (hr _ h).1.symm (hr _ h).2.symm)
  refine sX_rc ?_
  refine sX_aload_n (i := 0) (by decide +kernel) rfl ?_
  refine sX_iconst (n := 3) (v := (3 : Int32)) (by decide +kernel) (by decide) ?_
  refine sX_iconst (n := 5) (v := (5 : Int32)) (by decide +kernel) (by decide) ?_
  refine sX_iload_n (i := 1) (by decide +kernel) rfl ?_
  refine sX_callV (As := [.int (3 : Int32), .int (5 : Int32), .int v1]) (by decide +kernel) lm_X12_385 mf_X12_isFull mi_X12_isFull mc_12 (m_X12_isFull G l v0 ((3 : Int32)) ((5 : Int32)) v1 M0) (fun _ h => sRc_some h) (by decide) rfl rfl (Nat.le_of_ble_eq_true rfl) (fun x12 M13 _ => ?_)
  refine sX_ifeq (o := 4) (t := 11) (by decide +kernel) (by decide) (fun _ => ?_) (fun _ => ?_)
  · refine sX_aload_n (i := 0) (by decide +kernel) rfl ?_
    refine sX_callV (As := []) (by decide +kernel) lm_X12_389 mf_X12_newName mi_X12_newName mc_12 (m_X12_newName G l v0 M13) (fun _ h => sRc_some h) (by decide) rfl rfl (Nat.le_of_ble_eq_true rfl) (fun x14 M15 _ => ?_)
    refine sX_lstore_n (i := 2) (ls2 := [some (.ref v0), some (.int v1), some (.long x14), none, none, none, none, none]) (by decide +kernel) (by decide) rfl ?_
    refine sX_aload_n (i := 0) (by decide +kernel) rfl ?_
    refine sX_aload_n (i := 0) (by decide +kernel) rfl ?_
    refine sX_getR lf_X12_27 tk_12_13 (by decide +kernel) (fun x16 => ?_)
    refine sX_callVv (As := [.ref x16]) (by decide +kernel) lm_X12_373 mf_X12_asks mi_X12_asks mc_12 (m_X12_asks G l v0 x16 M15) (fun _ h => sRc_some h) (by decide) rfl rfl (Nat.le_of_ble_eq_true rfl) (fun M17 => ?_)
    refine sX_aload_n (i := 0) (by decide +kernel) rfl ?_
    refine sX_iconst (n := 1) (v := (1 : Int32)) (by decide +kernel) (by decide) ?_
    refine sX_iconst (n := -1) (v := (-1 : Int32)) (by decide +kernel) (by decide) ?_
    refine sX_callV (As := [.int (1 : Int32), .int (-1 : Int32)]) (by decide +kernel) lm_X12_392 mf_X12_named mi_X12_named mc_12 (m_X12_named G l v0 ((1 : Int32)) ((-1 : Int32)) M17) (fun _ h => sRc_some h) (by decide) rfl rfl (Nat.le_of_ble_eq_true rfl) (fun x18 M19 _ => ?_)
    refine sX_istore (i := 4) (ls2 := [some (.ref v0), some (.int v1), some (.long x14), none, some (.int x18), none, none, none]) (by decide +kernel) (by decide) rfl ?_
    refine sX_aload_n (i := 0) (by decide +kernel) rfl ?_
    refine sX_aload_n (i := 0) (by decide +kernel) rfl ?_
    refine sX_getR lf_X12_36 tk_12_16 (by decide +kernel) (fun x20 => ?_)
    refine sX_callVv (As := [.ref x20]) (by decide +kernel) lm_X12_373 mf_X12_asks mi_X12_asks mc_12 (m_X12_asks G l v0 x20 M19) (fun _ h => sRc_some h) (by decide) rfl rfl (Nat.le_of_ble_eq_true rfl) (fun M21 => ?_)
    refine sX_aload_n (i := 0) (by decide +kernel) rfl ?_
    refine sX_iconst (n := 1) (v := (1 : Int32)) (by decide +kernel) (by decide) ?_
    refine sX_iload (i := 4) (by decide +kernel) rfl ?_
    refine sX_callV (As := [.int (1 : Int32), .int x18]) (by decide +kernel) lm_X12_392 mf_X12_named mi_X12_named mc_12 (m_X12_named G l v0 ((1 : Int32)) x18 M21) (fun _ h => sRc_some h) (by decide) rfl rfl (Nat.le_of_ble_eq_true rfl) (fun x22 M23 _ => ?_)
    refine sX_istore (i := 5) (ls2 := [some (.ref v0), some (.int v1), some (.long x14), none, some (.int x18), some (.int x22), none, none]) (by decide +kernel) (by decide) rfl ?_
    refine sX_aload_n (i := 0) (by decide +kernel) rfl ?_
    refine sX_aload_n (i := 0) (by decide +kernel) rfl ?_
    refine sX_getR lf_X12_57 tk_12_23 (by decide +kernel) (fun x24 => ?_)
    refine sX_callVv (As := [.ref x24]) (by decide +kernel) lm_X12_373 mf_X12_asks mi_X12_asks mc_12 (m_X12_asks G l v0 x24 M23) (fun _ h => sRc_some h) (by decide) rfl rfl (Nat.le_of_ble_eq_true rfl) (fun M25 => ?_)
    refine sX_aload_n (i := 0) (by decide +kernel) rfl ?_
    refine sX_iconst (n := 0) (v := (0 : Int32)) (by decide +kernel) (by decide) ?_
    refine sX_bipush (n := 99) (v := (99 : Int32)) (by decide +kernel) (by decide) ?_
    refine sX_callV (As := [.int (0 : Int32), .int (99 : Int32)]) (by decide +kernel) lm_X12_377 mf_X12_number mi_X12_number mc_12 (m_X12_number G l v0 ((0 : Int32)) ((99 : Int32)) M25) (fun _ h => sRc_some h) (by decide) rfl rfl (Nat.le_of_ble_eq_true rfl) (fun x26 M27 _ => ?_)
    refine sX_istore (i := 6) (ls2 := [some (.ref v0), some (.int v1), some (.long x14), none, some (.int x18), some (.int x22), some (.int x26), none]) (by decide +kernel) (by decide) rfl ?_
    refine sX_aload_n (i := 0) (by decide +kernel) rfl ?_
    refine sX_getI lf_X12_300 tk_12_5 (by decide +kernel) (fun x28 => ?_)
    refine sX_ifeq (o := 4) (t := 74) (by decide +kernel) (by decide) (fun _ => ?_) (fun _ => ?_)
    · refine sX_aload_n (i := 0) (by decide +kernel) rfl ?_
      refine sX_getR lf_X12_123 tk_12_46 (by decide +kernel) (fun x29 => ?_)
      refine sX_iconst (n := 3) (v := (3 : Int32)) (by decide +kernel) (by decide) ?_
      refine sX_iaload (by decide +kernel) (fun x30 => ?_)
      refine sX_istore (i := 7) (ls2 := [some (.ref v0), some (.int v1), some (.long x14), none, some (.int x18), some (.int x22), some (.int x26), some (.int x30)]) (by decide +kernel) (by decide) rfl ?_
      exact sX.le (xB82 v0 x14 x18 x22 x26 x30 M27) (sLe_s (sLe_n (sLe_s (sLe_n (sLe_s (sLe_s (sLe_s (sLe_s sLe_e))))))))
    · exact sX_some (fun h _ => sW_vret (by decide +kernel) rfl (hr _ h).1.symm (hr _ h).2.symm)
  · exact sX_some (fun h _ => sW_vret (by decide +kernel) rfl (hr _ h).1.symm (hr _ h).2.symm)
def f_X12_qOpens (v0 : Nat) (v1 : Int32) (v2 : Int32) (M0 : sMem) : Option sMem :=
  sRc 12 127 M0 v0 (
    (gI 12 127 5 M0 v0).bind fun x1 =>
    if x1 = 0 then
      (gI 12 127 119 M0 v0).bind fun x2 =>
      if x2 = (6 : Int32) then
        (f_X12_fail v0 ((4 : Int32)) v2 M0).bind fun M3 =>
        some M3
      else
        (gI 12 127 119 M0 v0).bind fun x4 =>
        (pI 12 127 119 M0 v0 ((x4 + (1 : Int32)))).bind fun M5 =>
        (gR 12 127 117 M5 v0).bind fun x6 =>
        (gI 12 127 118 M5 v0).bind fun x7 =>
        (stI M5 x6 x7 v1).bind fun M8 =>
        (gI 12 127 118 M8 v0).bind fun x9 =>
        (pI 12 127 118 M8 v0 ((x9 + (1 : Int32)))).bind fun M10 =>
        some M10
    else
      some M0)
set_option maxRecDepth 100000 in
set_option maxHeartbeats 4000000 in
theorem m_X12_qOpens (G : sG) (l : Launch) (v0 : Nat) (v1 : Int32) (v2 : Int32) (M0 : sMem) : sCv G l 2 yX12_qOpens cX12_qOpens 3 none [.ref v0, .int v1, .int v2] M0 (f_X12_qOpens v0 v1 v2 M0) := by
  refine sC_v (ls := [some (.ref v0), some (.int v1), some (.int v2)]) (by decide +kernel) rfl (Nat.le_of_ble_eq_true rfl) (fun r M' K hr => ?_)
  unfold f_X12_qOpens
  refine sX_rc ?_
  refine sX_aload_n (i := 0) (by decide +kernel) rfl ?_
  refine sX_getI lf_X12_300 tk_12_5 (by decide +kernel) (fun x1 => ?_)
  refine sX_ifeq (o := 4) (t := 8) (by decide +kernel) (by decide) (fun _ => ?_) (fun _ => ?_)
  · refine sX_aload_n (i := 0) (by decide +kernel) rfl ?_
    refine sX_getI lf_X12_401 tk_12_119 (by decide +kernel) (fun x2 => ?_)
    refine sX_bipush (n := 6) (v := (6 : Int32)) (by decide +kernel) (by decide) ?_
    refine sX_icne (o := 10) (t := 24) (by decide +kernel) (by decide) (fun _ => ?_) (fun _ => ?_)
    · refine sX_aload_n (i := 0) (by decide +kernel) rfl ?_
      refine sX_iconst (n := 4) (v := (4 : Int32)) (by decide +kernel) (by decide) ?_
      refine sX_iload_n (i := 2) (by decide +kernel) rfl ?_
      refine sX_callVv (As := [.int (4 : Int32), .int v2]) (by decide +kernel) lm_X12_330 mf_X12_fail mi_X12_fail mc_12 (m_X12_fail G l v0 ((4 : Int32)) v2 M0) (fun _ h => sRc_some h) (by decide) rfl rfl (Nat.le_of_ble_eq_true rfl) (fun M3 => ?_)
      exact sX_some (fun h _ => sW_vret (by decide +kernel) rfl (hr _ h).1.symm (hr _ h).2.symm)
    · refine sX_aload_n (i := 0) (by decide +kernel) rfl ?_
      refine sX_dup (by decide +kernel) rfl ?_
      refine sX_getI lf_X12_401 tk_12_119 (by decide +kernel) (fun x4 => ?_)
      refine sX_iconst (n := 1) (v := (1 : Int32)) (by decide +kernel) (by decide) ?_
      refine sX_iadd (by decide +kernel) ?_
      refine sX_putI lf_X12_401 tp_12_119 (by decide +kernel) (by decide) (fun M5 => ?_)
      refine sX_aload_n (i := 0) (by decide +kernel) rfl ?_
      refine sX_getR lf_X12_288 tk_12_117 (by decide +kernel) (fun x6 => ?_)
      refine sX_aload_n (i := 0) (by decide +kernel) rfl ?_
      refine sX_getI lf_X12_398 tk_12_118 (by decide +kernel) (fun x7 => ?_)
      refine sX_iload_n (i := 1) (by decide +kernel) rfl ?_
      refine sX_iastore (by decide +kernel) (by decide) (fun M8 => ?_)
      refine sX_aload_n (i := 0) (by decide +kernel) rfl ?_
      refine sX_dup (by decide +kernel) rfl ?_
      refine sX_getI lf_X12_398 tk_12_118 (by decide +kernel) (fun x9 => ?_)
      refine sX_iconst (n := 1) (v := (1 : Int32)) (by decide +kernel) (by decide) ?_
      refine sX_iadd (by decide +kernel) ?_
      refine sX_putI lf_X12_398 tp_12_118 (by decide +kernel) (by decide) (fun M10 => ?_)
      exact sX_some (fun h _ => sW_vret (by decide +kernel) rfl (hr _ h).1.symm (hr _ h).2.symm)
  · exact sX_some (fun h _ => sW_vret (by decide +kernel) rfl (hr _ h).1.symm (hr _ h).2.symm)
def f_X12_qCode (v0 : Nat) (v1 : Int32) (M0 : sMem) : Option sMem :=
  sRc 12 127 M0 v0 (
    (gR 12 127 115 M0 v0).bind fun x1 =>
    (gI 12 127 116 M0 v0).bind fun x2 =>
    (stI M0 x1 x2 v1).bind fun M3 =>
    (gI 12 127 116 M3 v0).bind fun x4 =>
    (pI 12 127 116 M3 v0 ((x4 + (1 : Int32)))).bind fun M5 =>
    some M5)
set_option maxRecDepth 100000 in
set_option maxHeartbeats 4000000 in
theorem m_X12_qCode (G : sG) (l : Launch) (v0 : Nat) (v1 : Int32) (M0 : sMem) : sCv G l 1 yX12_qCode cX12_qCode 2 none [.ref v0, .int v1] M0 (f_X12_qCode v0 v1 M0) := by
  refine sC_v (ls := [some (.ref v0), some (.int v1)]) (by decide +kernel) rfl (Nat.le_of_ble_eq_true rfl) (fun r M' K hr => ?_)
  unfold f_X12_qCode
  refine sX_rc ?_
  refine sX_aload_n (i := 0) (by decide +kernel) rfl ?_
  refine sX_getR lf_X12_285 tk_12_115 (by decide +kernel) (fun x1 => ?_)
  refine sX_aload_n (i := 0) (by decide +kernel) rfl ?_
  refine sX_getI lf_X12_395 tk_12_116 (by decide +kernel) (fun x2 => ?_)
  refine sX_iload_n (i := 1) (by decide +kernel) rfl ?_
  refine sX_iastore (by decide +kernel) (by decide) (fun M3 => ?_)
  refine sX_aload_n (i := 0) (by decide +kernel) rfl ?_
  refine sX_dup (by decide +kernel) rfl ?_
  refine sX_getI lf_X12_395 tk_12_116 (by decide +kernel) (fun x4 => ?_)
  refine sX_iconst (n := 1) (v := (1 : Int32)) (by decide +kernel) (by decide) ?_
  refine sX_iadd (by decide +kernel) ?_
  refine sX_putI lf_X12_395 tp_12_116 (by decide +kernel) (by decide) (fun M5 => ?_)
  exact sX_some (fun h _ => sW_vret (by decide +kernel) rfl (hr _ h).1.symm (hr _ h).2.symm)
def f_X12_qWordHere_B187 (M : sMem) : Option (Int32 × sMem) :=
  some (((13 : Int32), M))
def f_X12_qWordHere_B89 (M : sMem) : Option (Int32 × sMem) :=
  some (((6 : Int32), M))
def f_X12_qWordHere (v0 : Nat) (M0 : sMem) : Option (Int32 × sMem) :=
  sRc 12 127 M0 v0 (
    (gR 12 127 100 M0 v0).bind fun x1 =>
    (f_X12_isHere v0 x1 M0).bind fun (x2, M3) =>
    if x2 = 0 then
      (gR 12 127 101 M3 v0).bind fun x4 =>
      (f_X12_isHere v0 x4 M3).bind fun (x5, M6) =>
      if x5 = 0 then
        (gR 12 127 102 M6 v0).bind fun x7 =>
        (f_X12_isHere v0 x7 M6).bind fun (x8, M9) =>
        if x8 = 0 then
          (gR 12 127 103 M9 v0).bind fun x10 =>
          (f_X12_isHere v0 x10 M9).bind fun (x11, M12) =>
          if x11 = 0 then
            (gR 12 127 104 M12 v0).bind fun x13 =>
            (f_X12_isHere v0 x13 M12).bind fun (x14, M15) =>
            if x14 = 0 then
              (gR 12 127 105 M15 v0).bind fun x16 =>
              (f_X12_isHere v0 x16 M15).bind fun (x17, M18) =>
              if x17 = 0 then
                (gR 12 127 106 M18 v0).bind fun x19 =>
                (f_X12_isHere v0 x19 M18).bind fun (x20, M21) =>
                if x20 = 0 then
                  (gR 12 127 107 M21 v0).bind fun x22 =>
                  (f_X12_isHere v0 x22 M21).bind fun (x23, M24) =>
                  if x23 = 0 then
                    (gR 12 127 108 M24 v0).bind fun x25 =>
                    (f_X12_isHere v0 x25 M24).bind fun (x26, M27) =>
                    if x26 = 0 then
                      (gR 12 127 109 M27 v0).bind fun x28 =>
                      (f_X12_isHere v0 x28 M27).bind fun (x29, M30) =>
                      if x29 = 0 then
                        (gR 12 127 110 M30 v0).bind fun x31 =>
                        (f_X12_isHere v0 x31 M30).bind fun (x32, M33) =>
                        if x32 = 0 then
                          (gR 12 127 111 M33 v0).bind fun x34 =>
                          (f_X12_isHere v0 x34 M33).bind fun (x35, M36) =>
                          if x35 = 0 then
                            (gR 12 127 112 M36 v0).bind fun x37 =>
                            (f_X12_isHere v0 x37 M36).bind fun (x38, M39) =>
                            if x38 = 0 then
                              (gR 12 127 113 M39 v0).bind fun x40 =>
                              (f_X12_isHere v0 x40 M39).bind fun (x41, M42) =>
                              if x41 = 0 then
                                (gR 12 127 114 M42 v0).bind fun x43 =>
                                (f_X12_isHere v0 x43 M42).bind fun (x44, M45) =>
                                if x44 = 0 then
                                  some (((-1 : Int32), M45))
                                else
                                  some (((14 : Int32), M45))
                              else
                                f_X12_qWordHere_B187 M42
                            else
                              some (((12 : Int32), M39))
                          else
                            some (((11 : Int32), M36))
                        else
                          some (((10 : Int32), M33))
                      else
                        some (((9 : Int32), M30))
                    else
                      some (((8 : Int32), M27))
                  else
                    some (((7 : Int32), M24))
                else
                  f_X12_qWordHere_B89 M21
              else
                some (((5 : Int32), M18))
            else
              some (((4 : Int32), M15))
          else
            some (((3 : Int32), M12))
        else
          some (((2 : Int32), M9))
      else
        some (((1 : Int32), M6))
    else
      some (((0 : Int32), M3)))
set_option maxRecDepth 100000 in
set_option maxHeartbeats 4000000 in
theorem m_X12_qWordHere (G : sG) (l : Launch) (v0 : Nat) (M0 : sMem) : sC G l 3 yX12_qWordHere cX12_qWordHere 1 (some .int) [.ref v0] M0 rvI (f_X12_qWordHere v0 M0) := by
  refine sC_m (ls := [some (.ref v0)]) (by decide +kernel) rfl (Nat.le_of_ble_eq_true rfl) (fun r M' K hr => ?_)
  unfold f_X12_qWordHere
  have xB187 : ∀ (M : sMem), sX G l 3 yX12_qWordHere cX12_qWordHere 1 (some .int) M0 r M' 187 [none] [] M (f_X12_qWordHere_B187 M) K := by
    intro M
    unfold f_X12_qWordHere_B187
    refine sX_bipush (n := 13) (v := (13 : Int32)) (by decide +kernel) (by decide) ?_
    exact sX_some (fun h _ => sW_iret (by decide +kernel) rfl (hr _ h).1.symm (hr _ h).2.symm)
  have xB89 : ∀ (M : sMem), sX G l 3 yX12_qWordHere cX12_qWordHere 1 (some .int) M0 r M' 89 [none] [] M (f_X12_qWordHere_B89 M) K := by
    intro M
    unfold f_X12_qWordHere_B89
    refine sX_bipush (n := 6) (v := (6 : Int32)) (by decide +kernel) (by decide) ?_
    exact sX_some (fun h _ => sW_iret (by decide +kernel) rfl (hr _ h).1.symm (hr _ h).2.symm)
  refine sX_rc ?_
  refine sX_aload_n (i := 0) (by decide +kernel) rfl ?_
  refine sX_aload_n (i := 0) (by decide +kernel) rfl ?_
  refine sX_getR lf_X12_240 tk_12_100 (by decide +kernel) (fun x1 => ?_)
  refine sX_callV (As := [.ref x1]) (by decide +kernel) lm_X12_323 mf_X12_isHere mi_X12_isHere mc_12 (m_X12_isHere G l v0 x1 M0) (fun _ h => sRc_some h) (by decide) rfl rfl (Nat.le_of_ble_eq_true rfl) (fun x2 M3 _ => ?_)
  refine sX_ifeq (o := 5) (t := 13) (by decide +kernel) (by decide) (fun _ => ?_) (fun _ => ?_)
  · refine sX_aload_n (i := 0) (by decide +kernel) rfl ?_
    refine sX_aload_n (i := 0) (by decide +kernel) rfl ?_
    refine sX_getR lf_X12_243 tk_12_101 (by decide +kernel) (fun x4 => ?_)
    refine sX_callV (As := [.ref x4]) (by decide +kernel) lm_X12_323 mf_X12_isHere mi_X12_isHere mc_12 (m_X12_isHere G l v0 x4 M3) (fun _ h => sRc_some h) (by decide) rfl rfl (Nat.le_of_ble_eq_true rfl) (fun x5 M6 _ => ?_)
    refine sX_ifeq (o := 5) (t := 26) (by decide +kernel) (by decide) (fun _ => ?_) (fun _ => ?_)
    · refine sX_aload_n (i := 0) (by decide +kernel) rfl ?_
      refine sX_aload_n (i := 0) (by decide +kernel) rfl ?_
      refine sX_getR lf_X12_246 tk_12_102 (by decide +kernel) (fun x7 => ?_)
      refine sX_callV (As := [.ref x7]) (by decide +kernel) lm_X12_323 mf_X12_isHere mi_X12_isHere mc_12 (m_X12_isHere G l v0 x7 M6) (fun _ h => sRc_some h) (by decide) rfl rfl (Nat.le_of_ble_eq_true rfl) (fun x8 M9 _ => ?_)
      refine sX_ifeq (o := 5) (t := 39) (by decide +kernel) (by decide) (fun _ => ?_) (fun _ => ?_)
      · refine sX_aload_n (i := 0) (by decide +kernel) rfl ?_
        refine sX_aload_n (i := 0) (by decide +kernel) rfl ?_
        refine sX_getR lf_X12_249 tk_12_103 (by decide +kernel) (fun x10 => ?_)
        refine sX_callV (As := [.ref x10]) (by decide +kernel) lm_X12_323 mf_X12_isHere mi_X12_isHere mc_12 (m_X12_isHere G l v0 x10 M9) (fun _ h => sRc_some h) (by decide) rfl rfl (Nat.le_of_ble_eq_true rfl) (fun x11 M12 _ => ?_)
        refine sX_ifeq (o := 5) (t := 52) (by decide +kernel) (by decide) (fun _ => ?_) (fun _ => ?_)
        · refine sX_aload_n (i := 0) (by decide +kernel) rfl ?_
          refine sX_aload_n (i := 0) (by decide +kernel) rfl ?_
          refine sX_getR lf_X12_252 tk_12_104 (by decide +kernel) (fun x13 => ?_)
          refine sX_callV (As := [.ref x13]) (by decide +kernel) lm_X12_323 mf_X12_isHere mi_X12_isHere mc_12 (m_X12_isHere G l v0 x13 M12) (fun _ h => sRc_some h) (by decide) rfl rfl (Nat.le_of_ble_eq_true rfl) (fun x14 M15 _ => ?_)
          refine sX_ifeq (o := 5) (t := 65) (by decide +kernel) (by decide) (fun _ => ?_) (fun _ => ?_)
          · refine sX_aload_n (i := 0) (by decide +kernel) rfl ?_
            refine sX_aload_n (i := 0) (by decide +kernel) rfl ?_
            refine sX_getR lf_X12_255 tk_12_105 (by decide +kernel) (fun x16 => ?_)
            refine sX_callV (As := [.ref x16]) (by decide +kernel) lm_X12_323 mf_X12_isHere mi_X12_isHere mc_12 (m_X12_isHere G l v0 x16 M15) (fun _ h => sRc_some h) (by decide) rfl rfl (Nat.le_of_ble_eq_true rfl) (fun x17 M18 _ => ?_)
            refine sX_ifeq (o := 5) (t := 78) (by decide +kernel) (by decide) (fun _ => ?_) (fun _ => ?_)
            · refine sX_aload_n (i := 0) (by decide +kernel) rfl ?_
              refine sX_aload_n (i := 0) (by decide +kernel) rfl ?_
              refine sX_getR lf_X12_258 tk_12_106 (by decide +kernel) (fun x19 => ?_)
              refine sX_callV (As := [.ref x19]) (by decide +kernel) lm_X12_323 mf_X12_isHere mi_X12_isHere mc_12 (m_X12_isHere G l v0 x19 M18) (fun _ h => sRc_some h) (by decide) rfl rfl (Nat.le_of_ble_eq_true rfl) (fun x20 M21 _ => ?_)
              refine sX_ifeq (o := 6) (t := 92) (by decide +kernel) (by decide) (fun _ => ?_) (fun _ => ?_)
              · refine sX_aload_n (i := 0) (by decide +kernel) rfl ?_
                refine sX_aload_n (i := 0) (by decide +kernel) rfl ?_
                refine sX_getR lf_X12_261 tk_12_107 (by decide +kernel) (fun x22 => ?_)
                refine sX_callV (As := [.ref x22]) (by decide +kernel) lm_X12_323 mf_X12_isHere mi_X12_isHere mc_12 (m_X12_isHere G l v0 x22 M21) (fun _ h => sRc_some h) (by decide) rfl rfl (Nat.le_of_ble_eq_true rfl) (fun x23 M24 _ => ?_)
                refine sX_ifeq (o := 6) (t := 106) (by decide +kernel) (by decide) (fun _ => ?_) (fun _ => ?_)
                · refine sX_aload_n (i := 0) (by decide +kernel) rfl ?_
                  refine sX_aload_n (i := 0) (by decide +kernel) rfl ?_
                  refine sX_getR lf_X12_264 tk_12_108 (by decide +kernel) (fun x25 => ?_)
                  refine sX_callV (As := [.ref x25]) (by decide +kernel) lm_X12_323 mf_X12_isHere mi_X12_isHere mc_12 (m_X12_isHere G l v0 x25 M24) (fun _ h => sRc_some h) (by decide) rfl rfl (Nat.le_of_ble_eq_true rfl) (fun x26 M27 _ => ?_)
                  refine sX_ifeq (o := 6) (t := 120) (by decide +kernel) (by decide) (fun _ => ?_) (fun _ => ?_)
                  · refine sX_aload_n (i := 0) (by decide +kernel) rfl ?_
                    refine sX_aload_n (i := 0) (by decide +kernel) rfl ?_
                    refine sX_getR lf_X12_267 tk_12_109 (by decide +kernel) (fun x28 => ?_)
                    refine sX_callV (As := [.ref x28]) (by decide +kernel) lm_X12_323 mf_X12_isHere mi_X12_isHere mc_12 (m_X12_isHere G l v0 x28 M27) (fun _ h => sRc_some h) (by decide) rfl rfl (Nat.le_of_ble_eq_true rfl) (fun x29 M30 _ => ?_)
                    refine sX_ifeq (o := 6) (t := 134) (by decide +kernel) (by decide) (fun _ => ?_) (fun _ => ?_)
                    · refine sX_aload_n (i := 0) (by decide +kernel) rfl ?_
                      refine sX_aload_n (i := 0) (by decide +kernel) rfl ?_
                      refine sX_getR lf_X12_270 tk_12_110 (by decide +kernel) (fun x31 => ?_)
                      refine sX_callV (As := [.ref x31]) (by decide +kernel) lm_X12_323 mf_X12_isHere mi_X12_isHere mc_12 (m_X12_isHere G l v0 x31 M30) (fun _ h => sRc_some h) (by decide) rfl rfl (Nat.le_of_ble_eq_true rfl) (fun x32 M33 _ => ?_)
                      refine sX_ifeq (o := 6) (t := 148) (by decide +kernel) (by decide) (fun _ => ?_) (fun _ => ?_)
                      · refine sX_aload_n (i := 0) (by decide +kernel) rfl ?_
                        refine sX_aload_n (i := 0) (by decide +kernel) rfl ?_
                        refine sX_getR lf_X12_273 tk_12_111 (by decide +kernel) (fun x34 => ?_)
                        refine sX_callV (As := [.ref x34]) (by decide +kernel) lm_X12_323 mf_X12_isHere mi_X12_isHere mc_12 (m_X12_isHere G l v0 x34 M33) (fun _ h => sRc_some h) (by decide) rfl rfl (Nat.le_of_ble_eq_true rfl) (fun x35 M36 _ => ?_)
                        refine sX_ifeq (o := 6) (t := 162) (by decide +kernel) (by decide) (fun _ => ?_) (fun _ => ?_)
                        · refine sX_aload_n (i := 0) (by decide +kernel) rfl ?_
                          refine sX_aload_n (i := 0) (by decide +kernel) rfl ?_
                          refine sX_getR lf_X12_276 tk_12_112 (by decide +kernel) (fun x37 => ?_)
                          refine sX_callV (As := [.ref x37]) (by decide +kernel) lm_X12_323 mf_X12_isHere mi_X12_isHere mc_12 (m_X12_isHere G l v0 x37 M36) (fun _ h => sRc_some h) (by decide) rfl rfl (Nat.le_of_ble_eq_true rfl) (fun x38 M39 _ => ?_)
                          refine sX_ifeq (o := 6) (t := 176) (by decide +kernel) (by decide) (fun _ => ?_) (fun _ => ?_)
                          · refine sX_aload_n (i := 0) (by decide +kernel) rfl ?_
                            refine sX_aload_n (i := 0) (by decide +kernel) rfl ?_
                            refine sX_getR lf_X12_279 tk_12_113 (by decide +kernel) (fun x40 => ?_)
                            refine sX_callV (As := [.ref x40]) (by decide +kernel) lm_X12_323 mf_X12_isHere mi_X12_isHere mc_12 (m_X12_isHere G l v0 x40 M39) (fun _ h => sRc_some h) (by decide) rfl rfl (Nat.le_of_ble_eq_true rfl) (fun x41 M42 _ => ?_)
                            refine sX_ifeq (o := 6) (t := 190) (by decide +kernel) (by decide) (fun _ => ?_) (fun _ => ?_)
                            · refine sX_aload_n (i := 0) (by decide +kernel) rfl ?_
                              refine sX_aload_n (i := 0) (by decide +kernel) rfl ?_
                              refine sX_getR lf_X12_282 tk_12_114 (by decide +kernel) (fun x43 => ?_)
                              refine sX_callV (As := [.ref x43]) (by decide +kernel) lm_X12_323 mf_X12_isHere mi_X12_isHere mc_12 (m_X12_isHere G l v0 x43 M42) (fun _ h => sRc_some h) (by decide) rfl rfl (Nat.le_of_ble_eq_true rfl) (fun x44 M45 _ => ?_)
                              refine sX_ifeq (o := 6) (t := 204) (by decide +kernel) (by decide) (fun _ => ?_) (fun _ => ?_)
                              · refine sX_iconst (n := -1) (v := (-1 : Int32)) (by decide +kernel) (by decide) ?_
                                exact sX_some (fun h _ => sW_iret (by decide +kernel) rfl (hr _ h).1.symm (hr _ h).2.symm)
                              · refine sX_bipush (n := 14) (v := (14 : Int32)) (by decide +kernel) (by decide) ?_
                                exact sX_some (fun h _ => sW_iret (by decide +kernel) rfl (hr _ h).1.symm (hr _ h).2.symm)
                            · exact sX.le (xB187 M42) (sLe_n sLe_e)
                          · refine sX_bipush (n := 12) (v := (12 : Int32)) (by decide +kernel) (by decide) ?_
                            exact sX_some (fun h _ => sW_iret (by decide +kernel) rfl (hr _ h).1.symm (hr _ h).2.symm)
                        · refine sX_bipush (n := 11) (v := (11 : Int32)) (by decide +kernel) (by decide) ?_
                          exact sX_some (fun h _ => sW_iret (by decide +kernel) rfl (hr _ h).1.symm (hr _ h).2.symm)
                      · refine sX_bipush (n := 10) (v := (10 : Int32)) (by decide +kernel) (by decide) ?_
                        exact sX_some (fun h _ => sW_iret (by decide +kernel) rfl (hr _ h).1.symm (hr _ h).2.symm)
                    · refine sX_bipush (n := 9) (v := (9 : Int32)) (by decide +kernel) (by decide) ?_
                      exact sX_some (fun h _ => sW_iret (by decide +kernel) rfl (hr _ h).1.symm (hr _ h).2.symm)
                  · refine sX_bipush (n := 8) (v := (8 : Int32)) (by decide +kernel) (by decide) ?_
                    exact sX_some (fun h _ => sW_iret (by decide +kernel) rfl (hr _ h).1.symm (hr _ h).2.symm)
                · refine sX_bipush (n := 7) (v := (7 : Int32)) (by decide +kernel) (by decide) ?_
                  exact sX_some (fun h _ => sW_iret (by decide +kernel) rfl (hr _ h).1.symm (hr _ h).2.symm)
              · exact sX.le (xB89 M21) (sLe_n sLe_e)
            · refine sX_iconst (n := 5) (v := (5 : Int32)) (by decide +kernel) (by decide) ?_
              exact sX_some (fun h _ => sW_iret (by decide +kernel) rfl (hr _ h).1.symm (hr _ h).2.symm)
          · refine sX_iconst (n := 4) (v := (4 : Int32)) (by decide +kernel) (by decide) ?_
            exact sX_some (fun h _ => sW_iret (by decide +kernel) rfl (hr _ h).1.symm (hr _ h).2.symm)
        · refine sX_iconst (n := 3) (v := (3 : Int32)) (by decide +kernel) (by decide) ?_
          exact sX_some (fun h _ => sW_iret (by decide +kernel) rfl (hr _ h).1.symm (hr _ h).2.symm)
      · refine sX_iconst (n := 2) (v := (2 : Int32)) (by decide +kernel) (by decide) ?_
        exact sX_some (fun h _ => sW_iret (by decide +kernel) rfl (hr _ h).1.symm (hr _ h).2.symm)
    · refine sX_iconst (n := 1) (v := (1 : Int32)) (by decide +kernel) (by decide) ?_
      exact sX_some (fun h _ => sW_iret (by decide +kernel) rfl (hr _ h).1.symm (hr _ h).2.symm)
  · refine sX_iconst (n := 0) (v := (0 : Int32)) (by decide +kernel) (by decide) ?_
    exact sX_some (fun h _ => sW_iret (by decide +kernel) rfl (hr _ h).1.symm (hr _ h).2.symm)
def f_X12_qWordOf (v0 : Nat) (v1 : Int32) (v2 : Int32) (M0 : sMem) : Option (Int32 × sMem) :=
  sRc 12 127 M0 v0 (
    (f_X12_qWordHere v0 M0).bind fun (x1, M2) =>
    if x1 < v1 then
      some (((-1 : Int32), M2))
    else
      if v2 ≤ x1 then
        some (((-1 : Int32), M2))
      else
        (f_X12_isAllowed v0 x1 M2).bind fun x3 =>
        if x3 = 0 then
          some (((-1 : Int32), M2))
        else
          some ((x1, M2)))
set_option maxRecDepth 100000 in
set_option maxHeartbeats 4000000 in
theorem m_X12_qWordOf (G : sG) (l : Launch) (v0 : Nat) (v1 : Int32) (v2 : Int32) (M0 : sMem) : sC G l 4 yX12_qWordOf cX12_qWordOf 4 (some .int) [.ref v0, .int v1, .int v2] M0 rvI (f_X12_qWordOf v0 v1 v2 M0) := by
  refine sC_m (ls := [some (.ref v0), some (.int v1), some (.int v2), none]) (by decide +kernel) rfl (Nat.le_of_ble_eq_true rfl) (fun r M' K hr => ?_)
  unfold f_X12_qWordOf
  refine sX_rc ?_
  refine sX_aload_n (i := 0) (by decide +kernel) rfl ?_
  refine sX_callV (As := []) (by decide +kernel) lm_X12_684 mf_X12_qWordHere mi_X12_qWordHere mc_12 (m_X12_qWordHere G l v0 M0) (fun _ h => sRc_some h) (by decide) rfl rfl (Nat.le_of_ble_eq_true rfl) (fun x1 M2 _ => ?_)
  refine sX_istore_n (i := 3) (ls2 := [some (.ref v0), some (.int v1), some (.int v2), some (.int x1)]) (by decide +kernel) (by decide) rfl ?_
  refine sX_iload_n (i := 3) (by decide +kernel) rfl ?_
  refine sX_iload_n (i := 1) (by decide +kernel) rfl ?_
  refine sX_iclt (o := 20) (t := 27) (by decide +kernel) (by decide) (fun _ => ?_) (fun _ => ?_)
  · refine sX_iconst (n := -1) (v := (-1 : Int32)) (by decide +kernel) (by decide) ?_
    exact sX_some (fun h _ => sW_iret (by decide +kernel) rfl (hr _ h).1.symm (hr _ h).2.symm)
  · refine sX_iload_n (i := 3) (by decide +kernel) rfl ?_
    refine sX_iload_n (i := 2) (by decide +kernel) rfl ?_
    refine sX_icge (o := 15) (t := 27) (by decide +kernel) (by decide) (fun _ => ?_) (fun _ => ?_)
    · refine sX_iconst (n := -1) (v := (-1 : Int32)) (by decide +kernel) (by decide) ?_
      exact sX_some (fun h _ => sW_iret (by decide +kernel) rfl (hr _ h).1.symm (hr _ h).2.symm)
    · refine sX_aload_n (i := 0) (by decide +kernel) rfl ?_
      refine sX_iload_n (i := 3) (by decide +kernel) rfl ?_
      refine sX_callVp (As := [.int x1]) (by decide +kernel) lm_X12_687 mf_X12_isAllowed mi_X12_isAllowed mc_12 (m_X12_isAllowed G l v0 x1 M2) (fun _ h => sRc_some h) (by decide) rfl rfl (Nat.le_of_ble_eq_true rfl) (fun x3 => ?_)
      refine sX_ifeq (o := 7) (t := 27) (by decide +kernel) (by decide) (fun _ => ?_) (fun _ => ?_)
      · refine sX_iconst (n := -1) (v := (-1 : Int32)) (by decide +kernel) (by decide) ?_
        exact sX_some (fun h _ => sW_iret (by decide +kernel) rfl (hr _ h).1.symm (hr _ h).2.symm)
      · refine sX_iload_n (i := 3) (by decide +kernel) rfl ?_
        refine sX_goto (o := 4) (t := 28) (by decide +kernel) (by decide) ?_
        exact sX_some (fun h _ => sW_iret (by decide +kernel) rfl (hr _ h).1.symm (hr _ h).2.symm)
