def f_X12_see_B132 (v0 : Nat) (v1 : Int32) (M : sMem) : Option (Int32 × sMem) :=
  (pI 12 127 80 M v0 ((v1 / (3 : Int32)))).bind fun M1 =>
  (gI 12 127 80 M1 v0).bind fun x2 =>
  some ((x2, M1))
def f_X12_see_K109 (v0 : Nat) (v1 : Int32) (v3 : Int32) (M : sMem) : Option ((Int32 × sMem) ⊕ ((sMem))) :=
  if v1 ≤ v3 then
    some (.inr M)
  else
    (gR 12 127 81 M v0).bind fun x3 =>
    (gR 12 127 0 M v0).bind fun x4 =>
    (ldI 14 M x4 v3).bind fun x5 =>
    (stI M x3 v3 x5).bind fun M6 =>
    some (.inl ((((v3 + (1 : Int32))), M6)))
def f_X12_see_L109 (v0 : Nat) (v1 : Int32) (v3 : Int32) (M : sMem) : Option (Int32 × sMem) :=
  (sItr (fun a : (Int32 × sMem) => f_X12_see_K109 v0 v1 a.1 a.2) sFuel (v3, M)).bind (fun b => f_X12_see_B132 v0 v1 b)
def f_X12_see_B97 (v0 : Nat) (v1 : Int32) (v2 : Int32) (M : sMem) : Option (Int32 × sMem) :=
  if v2 = 0 then
    (f_X12_refuses v0 ((1 : Int32)) M).bind fun (x7, M8) =>
    some ((x7, M8))
  else
    f_X12_see_L109 v0 v1 ((0 : Int32)) M
def f_X12_see_B90 (v0 : Nat) (v1 : Int32) (v3 : Int32) (s0 : Int32) (M : sMem) : Option ((Int32 × Int32) ⊕ ((Int32))) :=
  some (.inl ((s0, ((v3 + (3 : Int32))))))
def f_X12_see_B89 (v0 : Nat) (v1 : Int32) (v3 : Int32) (M : sMem) : Option ((Int32 × Int32) ⊕ ((Int32))) :=
  f_X12_see_B90 v0 v1 v3 ((0 : Int32)) M
def f_X12_see_K36 (v0 : Nat) (v1 : Int32) (v2 : Int32) (v3 : Int32) (M : sMem) : Option ((Int32 × Int32) ⊕ ((Int32))) :=
  if v1 ≤ v3 then
    some (.inr v2)
  else
    if v2 = 0 then
      some (.inr v2)
    else
      (gR 12 127 0 M v0).bind fun x9 =>
      (ldI 14 M x9 v3).bind fun x10 =>
      (f_X12_isMinute x10 M).bind fun x11 =>
      if x11 = 0 then
        f_X12_see_B89 v0 v1 v3 M
      else
        (gR 12 127 0 M v0).bind fun x12 =>
        (ldI 14 M x12 ((v3 + (1 : Int32)))).bind fun x13 =>
        (f_X12_isGate v0 x13.toInt64 M).bind fun x14 =>
        if x14 = 0 then
          f_X12_see_B89 v0 v1 v3 M
        else
          (gR 12 127 0 M v0).bind fun x15 =>
          (ldI 14 M x15 ((v3 + (2 : Int32)))).bind fun x16 =>
          if (1 : Int32) < x16 then
            f_X12_see_B89 v0 v1 v3 M
          else
            f_X12_see_B90 v0 v1 v3 ((1 : Int32)) M
def f_X12_see_L36 (v0 : Nat) (v1 : Int32) (v2 : Int32) (v3 : Int32) (M : sMem) : Option (Int32 × sMem) :=
  (sItr (fun a : (Int32 × Int32) => f_X12_see_K36 v0 v1 a.1 a.2 M) sFuel (v2, v3)).bind (fun b => f_X12_see_B97 v0 v1 b M)
def f_X12_see_B33 (v0 : Nat) (v1 : Int32) (s0 : Int32) (M : sMem) : Option (Int32 × sMem) :=
  f_X12_see_L36 v0 v1 s0 ((0 : Int32)) M
def f_X12_see_B32 (v0 : Nat) (v1 : Int32) (M : sMem) : Option (Int32 × sMem) :=
  f_X12_see_B33 v0 v1 ((0 : Int32)) M
def f_X12_see (v0 : Nat) (M0 : sMem) : Option (Int32 × sMem) :=
  sRc 12 127 M0 v0 (
    (gI 12 127 1 M0 v0).bind fun x17 =>
    (pI 12 127 1 M0 v0 ((0 : Int32))).bind fun M18 =>
    if x17 ≤ 0 then
      f_X12_see_B32 v0 x17 M18
    else
      if (x17 - x17 / (3 : Int32) * (3 : Int32)) = 0 then
        if (16 : Int32) < (x17 / (3 : Int32)) then
          f_X12_see_B32 v0 x17 M18
        else
          f_X12_see_B33 v0 x17 ((1 : Int32)) M18
      else
        f_X12_see_B32 v0 x17 M18)
set_option maxRecDepth 100000 in
set_option maxHeartbeats 4000000 in
theorem m_X12_see (G : sG) (l : Launch) (v0 : Nat) (M0 : sMem) : sC G l 3 yX12_see cX12_see 4 (some .int) [.ref v0] M0 rvI (f_X12_see v0 M0) := by
  refine sC_m (ls := [some (.ref v0), none, none, none]) (by decide +kernel) rfl (Nat.le_of_ble_eq_true rfl) (fun r M' K hr => ?_)
  unfold f_X12_see
  have xB132 : ∀ (v0 : Nat) (v1 : Int32) (M : sMem), sX G l 3 yX12_see cX12_see 4 (some .int) M0 r M' 132 [some (.ref v0), some (.int v1), none, none] [] M (f_X12_see_B132 v0 v1 M) K := by
    intro v0 v1 M
    unfold f_X12_see_B132
    refine sX_aload_n (i := 0) (by decide +kernel) rfl ?_
    refine sX_iload_n (i := 1) (by decide +kernel) rfl ?_
    refine sX_iconst (n := 3) (v := (3 : Int32)) (by decide +kernel) (by decide) ?_
    refine sX_idiv (by decide +kernel) (by decide) ?_
    refine sX_putI lf_X12_457 tp_12_80 (by decide +kernel) (by decide) (fun M1 => ?_)
    refine sX_aload_n (i := 0) (by decide +kernel) rfl ?_
    refine sX_getI lf_X12_457 tk_12_80 (by decide +kernel) (fun x2 => ?_)
    exact sX_some (fun h _ => sW_iret (by decide +kernel) rfl (hr _ h).1.symm (hr _ h).2.symm)
  have xL109 : ∀ (v0 : Nat) (v1 : Int32) (v3 : Int32) (M : sMem), sX G l 3 yX12_see cX12_see 4 (some .int) M0 r M' 109 [some (.ref v0), some (.int v1), none, some (.int v3)] [] M (f_X12_see_L109 v0 v1 v3 M) K := by
    intro v0 v1 v3 M
    unfold f_X12_see_L109
    refine sX_bind ?_
    refine sX_loop (LS := fun a : (Int32 × sMem) => [some (.ref v0), some (.int v1), none, some (.int a.1)]) (MM := fun a => a.2) (fun K1 hb1 he1 => ?_) sFuel ((v3, M))
    have xK109 : ∀ (v3 : Int32) (M : sMem), sX G l 3 yX12_see cX12_see 4 (some .int) M0 r M' 109 [some (.ref v0), some (.int v1), none, some (.int v3)] [] M (f_X12_see_K109 v0 v1 v3 M) K1 := by
      intro v3 M
      unfold f_X12_see_K109
      refine sX_iload_n (i := 3) (by decide +kernel) rfl ?_
      refine sX_iload_n (i := 1) (by decide +kernel) rfl ?_
      refine sX_icge (o := 21) (t := 132) (by decide +kernel) (by decide) (fun _ => ?_) (fun _ => ?_)
      · refine sX_exit he1 ?_
        exact sX.le (xB132 v0 v1 M) (sLe_s (sLe_s (sLe_n (sLe_n sLe_e))))
      · refine sX_aload_n (i := 0) (by decide +kernel) rfl ?_
        refine sX_getR lf_X12_191 tk_12_81 (by decide +kernel) (fun x3 => ?_)
        refine sX_iload_n (i := 3) (by decide +kernel) rfl ?_
        refine sX_aload_n (i := 0) (by decide +kernel) rfl ?_
        refine sX_getR lf_X12_7 tk_12_0 (by decide +kernel) (fun x4 => ?_)
        refine sX_iload_n (i := 3) (by decide +kernel) rfl ?_
        refine sX_iaload (by decide +kernel) (fun x5 => ?_)
        refine sX_iastore (by decide +kernel) (by decide) (fun M6 => ?_)
        refine sX_iinc (i := 3) (n := 1) (v := v3 + (1 : Int32)) (ls2 := [some (.ref v0), some (.int v1), none, some (.int (v3 + (1 : Int32)))]) (by decide +kernel) rfl rfl (by decide) rfl ?_
        refine sX_goto (o := -20) (t := 109) (by decide +kernel) (by decide) ?_
        exact sX_back (a := (((v3 + (1 : Int32))), M6)) hb1 rfl (sLe_s (sLe_s (sLe_n (sLe_s sLe_e))))
    exact fun a => xK109 a.1 a.2
  have xB97 : ∀ (v0 : Nat) (v1 : Int32) (v2 : Int32) (M : sMem), sX G l 3 yX12_see cX12_see 4 (some .int) M0 r M' 97 [some (.ref v0), some (.int v1), some (.int v2), none] [] M (f_X12_see_B97 v0 v1 v2 M) K := by
    intro v0 v1 v2 M
    unfold f_X12_see_B97
    refine sX_iload_n (i := 2) (by decide +kernel) rfl ?_
    refine sX_ifne (o := 9) (t := 107) (by decide +kernel) (by decide) (fun _ => ?_) (fun _ => ?_)
    · refine sX_aload_n (i := 0) (by decide +kernel) rfl ?_
      refine sX_iconst (n := 1) (v := (1 : Int32)) (by decide +kernel) (by decide) ?_
      refine sX_callV (As := [.int (1 : Int32)]) (by decide +kernel) lm_X12_638 mf_X12_refuses mi_X12_refuses mc_12 (m_X12_refuses G l v0 ((1 : Int32)) M) (fun _ h => sRc_some h) (by decide) rfl rfl (Nat.le_of_ble_eq_true rfl) (fun x7 M8 _ => ?_)
      exact sX_some (fun h _ => sW_iret (by decide +kernel) rfl (hr _ h).1.symm (hr _ h).2.symm)
    · refine sX_iconst (n := 0) (v := (0 : Int32)) (by decide +kernel) (by decide) ?_
      refine sX_istore_n (i := 3) (ls2 := [some (.ref v0), some (.int v1), some (.int v2), some (.int (0 : Int32))]) (by decide +kernel) (by decide) rfl ?_
      exact sX.le (xL109 v0 v1 ((0 : Int32)) M) (sLe_s (sLe_s (sLe_n (sLe_s sLe_e))))
  have xL36 : ∀ (v0 : Nat) (v1 : Int32) (v2 : Int32) (v3 : Int32) (M : sMem), sX G l 3 yX12_see cX12_see 4 (some .int) M0 r M' 36 [some (.ref v0), some (.int v1), some (.int v2), some (.int v3)] [] M (f_X12_see_L36 v0 v1 v2 v3 M) K := by
    intro v0 v1 v2 v3 M
    unfold f_X12_see_L36
    refine sX_bind ?_
    refine sX_loop (LS := fun a : (Int32 × Int32) => [some (.ref v0), some (.int v1), some (.int a.1), some (.int a.2)]) (MM := fun a => M) (fun K1 hb1 he1 => ?_) sFuel ((v2, v3))
    have xB90 : ∀ (v3 : Int32) (s0 : Int32), sX G l 3 yX12_see cX12_see 4 (some .int) M0 r M' 90 [some (.ref v0), some (.int v1), none, some (.int v3)] [.int s0] M (f_X12_see_B90 v0 v1 v3 s0 M) K1 := by
      intro v3 s0
      unfold f_X12_see_B90
      refine sX_istore_n (i := 2) (ls2 := [some (.ref v0), some (.int v1), some (.int s0), some (.int v3)]) (by decide +kernel) (by decide) rfl ?_
      refine sX_iinc (i := 3) (n := 3) (v := v3 + (3 : Int32)) (ls2 := [some (.ref v0), some (.int v1), some (.int s0), some (.int (v3 + (3 : Int32)))]) (by decide +kernel) rfl rfl (by decide) rfl ?_
      refine sX_goto (o := -58) (t := 36) (by decide +kernel) (by decide) ?_
      exact sX_back (a := (s0, ((v3 + (3 : Int32))))) hb1 rfl (sLe_s (sLe_s (sLe_s (sLe_s sLe_e))))
    have xB89 : ∀ (v3 : Int32), sX G l 3 yX12_see cX12_see 4 (some .int) M0 r M' 89 [some (.ref v0), some (.int v1), none, some (.int v3)] [] M (f_X12_see_B89 v0 v1 v3 M) K1 := by
      intro v3
      unfold f_X12_see_B89
      refine sX_iconst (n := 0) (v := (0 : Int32)) (by decide +kernel) (by decide) ?_
      exact sX.le (xB90 v3 ((0 : Int32))) (sLe_s (sLe_s (sLe_n (sLe_s sLe_e))))
    have xK36 : ∀ (v2 : Int32) (v3 : Int32), sX G l 3 yX12_see cX12_see 4 (some .int) M0 r M' 36 [some (.ref v0), some (.int v1), some (.int v2), some (.int v3)] [] M (f_X12_see_K36 v0 v1 v2 v3 M) K1 := by
      intro v2 v3
      unfold f_X12_see_K36
      refine sX_iload_n (i := 3) (by decide +kernel) rfl ?_
      refine sX_iload_n (i := 1) (by decide +kernel) rfl ?_
      refine sX_icge (o := 59) (t := 97) (by decide +kernel) (by decide) (fun _ => ?_) (fun _ => ?_)
      · refine sX_exit he1 ?_
        exact sX.le (xB97 v0 v1 v2 M) (sLe_s (sLe_s (sLe_s (sLe_n sLe_e))))
      · refine sX_iload_n (i := 2) (by decide +kernel) rfl ?_
        refine sX_ifeq (o := 55) (t := 97) (by decide +kernel) (by decide) (fun _ => ?_) (fun _ => ?_)
        · refine sX_exit he1 ?_
          exact sX.le (xB97 v0 v1 v2 M) (sLe_s (sLe_s (sLe_s (sLe_n sLe_e))))
        · refine sX_aload_n (i := 0) (by decide +kernel) rfl ?_
          refine sX_getR lf_X12_7 tk_12_0 (by decide +kernel) (fun x9 => ?_)
          refine sX_iload_n (i := 3) (by decide +kernel) rfl ?_
          refine sX_iaload (by decide +kernel) (fun x10 => ?_)
          refine sX_callSp (As := [.int x10]) (by decide +kernel) lm_X12_601 mf_X12_isMinute ms_X12_isMinute (m_X12_isMinute G l x10 M) (by decide) rfl rfl (Nat.le_of_ble_eq_true rfl) (fun x11 => ?_)
          refine sX_ifeq (o := 35) (t := 89) (by decide +kernel) (by decide) (fun _ => ?_) (fun _ => ?_)
          · exact sX.le (xB89 v3) (sLe_s (sLe_s (sLe_n (sLe_s sLe_e))))
          · refine sX_aload_n (i := 0) (by decide +kernel) rfl ?_
            refine sX_aload_n (i := 0) (by decide +kernel) rfl ?_
            refine sX_getR lf_X12_7 tk_12_0 (by decide +kernel) (fun x12 => ?_)
            refine sX_iload_n (i := 3) (by decide +kernel) rfl ?_
            refine sX_iconst (n := 1) (v := (1 : Int32)) (by decide +kernel) (by decide) ?_
            refine sX_iadd (by decide +kernel) ?_
            refine sX_iaload (by decide +kernel) (fun x13 => ?_)
            refine sX_i2l (by decide +kernel) ?_
            refine sX_callVp (As := [.long x13.toInt64]) (by decide +kernel) lm_X12_587 mf_X12_isGate mi_X12_isGate mc_12 (m_X12_isGate G l v0 x13.toInt64 M) (fun _ h => sRc_some h) (by decide) rfl rfl (Nat.le_of_ble_eq_true rfl) (fun x14 => ?_)
            refine sX_ifeq (o := 19) (t := 89) (by decide +kernel) (by decide) (fun _ => ?_) (fun _ => ?_)
            · exact sX.le (xB89 v3) (sLe_s (sLe_s (sLe_n (sLe_s sLe_e))))
            · refine sX_aload_n (i := 0) (by decide +kernel) rfl ?_
              refine sX_getR lf_X12_7 tk_12_0 (by decide +kernel) (fun x15 => ?_)
              refine sX_iload_n (i := 3) (by decide +kernel) rfl ?_
              refine sX_iconst (n := 2) (v := (2 : Int32)) (by decide +kernel) (by decide) ?_
              refine sX_iadd (by decide +kernel) ?_
              refine sX_iaload (by decide +kernel) (fun x16 => ?_)
              refine sX_iconst (n := 1) (v := (1 : Int32)) (by decide +kernel) (by decide) ?_
              refine sX_icgt (o := 7) (t := 89) (by decide +kernel) (by decide) (fun _ => ?_) (fun _ => ?_)
              · exact sX.le (xB89 v3) (sLe_s (sLe_s (sLe_n (sLe_s sLe_e))))
              · refine sX_iconst (n := 1) (v := (1 : Int32)) (by decide +kernel) (by decide) ?_
                refine sX_goto (o := 4) (t := 90) (by decide +kernel) (by decide) ?_
                exact sX.le (xB90 v3 ((1 : Int32))) (sLe_s (sLe_s (sLe_n (sLe_s sLe_e))))
    exact fun a => xK36 a.1 a.2
  have xB33 : ∀ (v0 : Nat) (v1 : Int32) (s0 : Int32) (M : sMem), sX G l 3 yX12_see cX12_see 4 (some .int) M0 r M' 33 [some (.ref v0), some (.int v1), none, none] [.int s0] M (f_X12_see_B33 v0 v1 s0 M) K := by
    intro v0 v1 s0 M
    unfold f_X12_see_B33
    refine sX_istore_n (i := 2) (ls2 := [some (.ref v0), some (.int v1), some (.int s0), none]) (by decide +kernel) (by decide) rfl ?_
    refine sX_iconst (n := 0) (v := (0 : Int32)) (by decide +kernel) (by decide) ?_
    refine sX_istore_n (i := 3) (ls2 := [some (.ref v0), some (.int v1), some (.int s0), some (.int (0 : Int32))]) (by decide +kernel) (by decide) rfl ?_
    exact sX.le (xL36 v0 v1 s0 ((0 : Int32)) M) (sLe_s (sLe_s (sLe_s (sLe_s sLe_e))))
  have xB32 : ∀ (v0 : Nat) (v1 : Int32) (M : sMem), sX G l 3 yX12_see cX12_see 4 (some .int) M0 r M' 32 [some (.ref v0), some (.int v1), none, none] [] M (f_X12_see_B32 v0 v1 M) K := by
    intro v0 v1 M
    unfold f_X12_see_B32
    refine sX_iconst (n := 0) (v := (0 : Int32)) (by decide +kernel) (by decide) ?_
    exact sX.le (xB33 v0 v1 ((0 : Int32)) M) (sLe_s (sLe_s (sLe_n (sLe_n sLe_e))))
  refine sX_rc ?_
  refine sX_aload_n (i := 0) (by decide +kernel) rfl ?_
  refine sX_getI lf_X12_297 tk_12_1 (by decide +kernel) (fun x17 => ?_)
  refine sX_istore_n (i := 1) (ls2 := [some (.ref v0), some (.int x17), none, none]) (by decide +kernel) (by decide) rfl ?_
  refine sX_aload_n (i := 0) (by decide +kernel) rfl ?_
  refine sX_iconst (n := 0) (v := (0 : Int32)) (by decide +kernel) (by decide) ?_
  refine sX_putI lf_X12_297 tp_12_1 (by decide +kernel) (by decide) (fun M18 => ?_)
  refine sX_iload_n (i := 1) (by decide +kernel) rfl ?_
  refine sX_ifle (o := 21) (t := 32) (by decide +kernel) (by decide) (fun _ => ?_) (fun _ => ?_)
  · exact sX.le (xB32 v0 x17 M18) (sLe_s (sLe_s (sLe_n (sLe_n sLe_e))))
  · refine sX_iload_n (i := 1) (by decide +kernel) rfl ?_
    refine sX_iconst (n := 3) (v := (3 : Int32)) (by decide +kernel) (by decide) ?_
    refine sX_irem (by decide +kernel) (by decide) ?_
    refine sX_ifne (o := 15) (t := 32) (by decide +kernel) (by decide) (fun _ => ?_) (fun _ => ?_)
    · refine sX_iload_n (i := 1) (by decide +kernel) rfl ?_
      refine sX_iconst (n := 3) (v := (3 : Int32)) (by decide +kernel) (by decide) ?_
      refine sX_idiv (by decide +kernel) (by decide) ?_
      refine sX_bipush (n := 16) (v := (16 : Int32)) (by decide +kernel) (by decide) ?_
      refine sX_icgt (o := 7) (t := 32) (by decide +kernel) (by decide) (fun _ => ?_) (fun _ => ?_)
      · exact sX.le (xB32 v0 x17 M18) (sLe_s (sLe_s (sLe_n (sLe_n sLe_e))))
      · refine sX_iconst (n := 1) (v := (1 : Int32)) (by decide +kernel) (by decide) ?_
        refine sX_goto (o := 4) (t := 33) (by decide +kernel) (by decide) ?_
        exact sX.le (xB33 v0 x17 ((1 : Int32)) M18) (sLe_s (sLe_s (sLe_n (sLe_n sLe_e))))
    · exact sX.le (xB32 v0 x17 M18) (sLe_s (sLe_s (sLe_n (sLe_n sLe_e))))
def f_X12_isClosedBy_B36 (M : sMem) : Option (Int32 × sMem) :=
  some (((1 : Int32), M))
def f_X12_isClosedBy (v0 : Nat) (v1 : Int32) (v2 : Int32) (v3 : Int32) (v4 : Int32) (M0 : sMem) : Option (Int32 × sMem) :=
  sRc 12 127 M0 v0 (
    (f_X12_isUp v0 v3 M0).bind fun x1 =>
    if x1 = 0 then
      (gR 12 127 68 M0 v0).bind fun x2 =>
      (ldI 16 M0 x2 ((((200 : Int32) * v3) + v4))).bind fun x3 =>
      if x3 = 0 then
        (f_X12_doesShut v0 v1 v2 v3 v4 M0).bind fun (x4, M5) =>
        if x4 = 0 then
          some (((0 : Int32), M5))
        else
          f_X12_isClosedBy_B36 M5
      else
        f_X12_isClosedBy_B36 M0
    else
      some (((0 : Int32), M0)))
set_option maxRecDepth 100000 in
set_option maxHeartbeats 4000000 in
theorem m_X12_isClosedBy (G : sG) (l : Launch) (v0 : Nat) (v1 : Int32) (v2 : Int32) (v3 : Int32) (v4 : Int32) (M0 : sMem) : sC G l 5 yX12_isClosedBy cX12_isClosedBy 5 (some .boolean) [.ref v0, .int v1, .int v2, .int v3, .int v4] M0 rvI (f_X12_isClosedBy v0 v1 v2 v3 v4 M0) := by
  refine sC_m (ls := [some (.ref v0), some (.int v1), some (.int v2), some (.int v3), some (.int v4)]) (by decide +kernel) rfl (Nat.le_of_ble_eq_true rfl) (fun r M' K hr => ?_)
  unfold f_X12_isClosedBy
  have xB36 : ∀ (M : sMem), sX G l 5 yX12_isClosedBy cX12_isClosedBy 5 (some .boolean) M0 r M' 36 [none, none, none, none, none] [] M (f_X12_isClosedBy_B36 M) K := by
    intro M
    unfold f_X12_isClosedBy_B36
    refine sX_iconst (n := 1) (v := (1 : Int32)) (by decide +kernel) (by decide) ?_
    refine sX_goto (o := 4) (t := 41) (by decide +kernel) (by decide) ?_
    exact sX_some (fun h _ => sW_zret (by decide +kernel) rfl (by decide) (hr _ h).1.symm (hr _ h).2.symm)
  refine sX_rc ?_
  refine sX_aload_n (i := 0) (by decide +kernel) rfl ?_
  refine sX_iload_n (i := 3) (by decide +kernel) rfl ?_
  refine sX_callVp (As := [.int v3]) (by decide +kernel) lm_X12_472 mf_X12_isUp mi_X12_isUp mc_12 (m_X12_isUp G l v0 v3 M0) (fun _ h => sRc_some h) (by decide) rfl rfl (Nat.le_of_ble_eq_true rfl) (fun x1 => ?_)
  refine sX_ifne (o := 35) (t := 40) (by decide +kernel) (by decide) (fun _ => ?_) (fun _ => ?_)
  · refine sX_aload_n (i := 0) (by decide +kernel) rfl ?_
    refine sX_getR lf_X12_163 tk_12_68 (by decide +kernel) (fun x2 => ?_)
    refine sX_sipush (n := 200) (v := (200 : Int32)) (by decide +kernel) (by decide) ?_
    refine sX_iload_n (i := 3) (by decide +kernel) rfl ?_
    refine sX_imul (by decide +kernel) ?_
    refine sX_iload (i := 4) (by decide +kernel) rfl ?_
    refine sX_iadd (by decide +kernel) ?_
    refine sX_baload (by decide +kernel) (fun x3 => ?_)
    refine sX_ifne (o := 15) (t := 36) (by decide +kernel) (by decide) (fun _ => ?_) (fun _ => ?_)
    · refine sX_aload_n (i := 0) (by decide +kernel) rfl ?_
      refine sX_iload_n (i := 1) (by decide +kernel) rfl ?_
      refine sX_iload_n (i := 2) (by decide +kernel) rfl ?_
      refine sX_iload_n (i := 3) (by decide +kernel) rfl ?_
      refine sX_iload (i := 4) (by decide +kernel) rfl ?_
      refine sX_callV (As := [.int v1, .int v2, .int v3, .int v4]) (by decide +kernel) lm_X12_518 mf_X12_doesShut mi_X12_doesShut mc_12 (m_X12_doesShut G l v0 v1 v2 v3 v4 M0) (fun _ h => sRc_some h) (by decide) rfl rfl (Nat.le_of_ble_eq_true rfl) (fun x4 M5 _ => ?_)
      refine sX_ifeq (o := 7) (t := 40) (by decide +kernel) (by decide) (fun _ => ?_) (fun _ => ?_)
      · refine sX_iconst (n := 0) (v := (0 : Int32)) (by decide +kernel) (by decide) ?_
        exact sX_some (fun h _ => sW_zret (by decide +kernel) rfl (by decide) (hr _ h).1.symm (hr _ h).2.symm)
      · exact sX.le (xB36 M5) (sLe_n (sLe_n (sLe_n (sLe_n (sLe_n sLe_e)))))
    · exact sX.le (xB36 M0) (sLe_n (sLe_n (sLe_n (sLe_n (sLe_n sLe_e)))))
  · refine sX_iconst (n := 0) (v := (0 : Int32)) (by decide +kernel) (by decide) ?_
    exact sX_some (fun h _ => sW_zret (by decide +kernel) rfl (by decide) (hr _ h).1.symm (hr _ h).2.symm)
def f_X12_laysFits_B118 (v0 : Nat) (v1 : Int32) (v2 : Int32) (M : sMem) : Option ((Int32 × sMem) ⊕ ((sMem))) :=
  some (.inl ((((v2 + (1 : Int32))), M)))
def f_X12_laysFits_B97 (v0 : Nat) (v1 : Int32) (v2 : Int32) (v3 : Int32) (M : sMem) : Option ((Int32 × sMem) ⊕ ((sMem))) :=
  (gR 12 127 82 M v0).bind fun x1 =>
  (stZ M x1 v2 v3).bind fun M2 =>
  if v3 = 0 then
    f_X12_laysFits_B118 v0 v1 v2 M2
  else
    (gI 12 127 83 M2 v0).bind fun x3 =>
    (pI 12 127 83 M2 v0 ((x3 + (1 : Int32)))).bind fun M4 =>
    f_X12_laysFits_B118 v0 v1 v2 M4
def f_X12_laysFits_B90 (v0 : Nat) (v1 : Int32) (v2 : Int32) (v4 : Int32) (s0 : Int32) (M : sMem) : Option ((Int32 × Int32 × sMem) ⊕ ((Int32 × sMem))) :=
  some (.inl ((s0, ((v4 + (1 : Int32))), M)))
def f_X12_laysFits_B82 (v0 : Nat) (v1 : Int32) (v2 : Int32) (v4 : Int32) (s0 : Int32) (s1 : Int32) (M : sMem) : Option ((Int32 × Int32 × sMem) ⊕ ((Int32 × sMem))) :=
  if s0 = s1 then
    f_X12_laysFits_B90 v0 v1 v2 v4 ((1 : Int32)) M
  else
    f_X12_laysFits_B90 v0 v1 v2 v4 ((0 : Int32)) M
def f_X12_laysFits_K23 (v0 : Nat) (v1 : Int32) (v2 : Int32) (v3 : Int32) (v4 : Int32) (M : sMem) : Option ((Int32 × Int32 × sMem) ⊕ ((Int32 × sMem))) :=
  (gI 12 127 80 M v0).bind fun x5 =>
  if x5 ≤ v4 then
    some (.inr ((v3, M)))
  else
    if v3 = 0 then
      some (.inr ((v3, M)))
    else
      (gR 12 127 81 M v0).bind fun x6 =>
      (ldI 14 M x6 ((((3 : Int32) * v4) + (1 : Int32)))).bind fun x7 =>
      (gR 12 127 81 M v0).bind fun x8 =>
      (ldI 14 M x8 (((3 : Int32) * v4))).bind fun x9 =>
      (f_X12_isClosedBy v0 v1 v2 x7 x9 M).bind fun (x10, M11) =>
      (gR 12 127 81 M11 v0).bind fun x12 =>
      (ldI 14 M11 x12 ((((3 : Int32) * v4) + (2 : Int32)))).bind fun x13 =>
      if x13 = (1 : Int32) then
        f_X12_laysFits_B82 v0 v1 v2 v4 x10 ((1 : Int32)) M11
      else
        f_X12_laysFits_B82 v0 v1 v2 v4 x10 ((0 : Int32)) M11
def f_X12_laysFits_L23 (v0 : Nat) (v1 : Int32) (v2 : Int32) (v3 : Int32) (v4 : Int32) (M : sMem) : Option ((Int32 × sMem) ⊕ ((sMem))) :=
  (sItr (fun a : (Int32 × Int32 × sMem) => f_X12_laysFits_K23 v0 v1 v2 a.1 a.2.1 a.2.2) sFuel (v3, v4, M)).bind (fun b => f_X12_laysFits_B97 v0 v1 v2 b.1 b.2)
def f_X12_laysFits_K12 (v0 : Nat) (v1 : Int32) (v2 : Int32) (M : sMem) : Option ((Int32 × sMem) ⊕ ((sMem))) :=
  if (99 : Int32) < v2 then
    some (.inr M)
  else
    f_X12_laysFits_L23 v0 v1 v2 ((1 : Int32)) ((0 : Int32)) M
def f_X12_laysFits_L12 (v0 : Nat) (v1 : Int32) (v2 : Int32) (M : sMem) : Option sMem :=
  (sItr (fun a : (Int32 × sMem) => f_X12_laysFits_K12 v0 v1 a.1 a.2) sFuel (v2, M)).bind (fun b => some b)
def f_X12_laysFits (v0 : Nat) (v1 : Int32) (M0 : sMem) : Option sMem :=
  sRc 12 127 M0 v0 (
    (f_X12_laysShutBut v0 v1 M0).bind fun M14 =>
    (pI 12 127 83 M14 v0 ((0 : Int32))).bind fun M15 =>
    f_X12_laysFits_L12 v0 v1 ((0 : Int32)) M15)
set_option maxRecDepth 100000 in
set_option maxHeartbeats 4000000 in
theorem m_X12_laysFits (G : sG) (l : Launch) (v0 : Nat) (v1 : Int32) (M0 : sMem) : sCv G l 6 yX12_laysFits cX12_laysFits 5 none [.ref v0, .int v1] M0 (f_X12_laysFits v0 v1 M0) := by
  refine sC_v (ls := [some (.ref v0), some (.int v1), none, none, none]) (by decide +kernel) rfl (Nat.le_of_ble_eq_true rfl) (fun r M' K hr => ?_)
  unfold f_X12_laysFits
  have xL12 : ∀ (v0 : Nat) (v1 : Int32) (v2 : Int32) (M : sMem), sX G l 6 yX12_laysFits cX12_laysFits 5 none M0 r M' 12 [some (.ref v0), some (.int v1), some (.int v2), none, none] [] M (f_X12_laysFits_L12 v0 v1 v2 M) K := by
    intro v0 v1 v2 M
    unfold f_X12_laysFits_L12
    refine sX_bind ?_
    refine sX_loop (LS := fun a : (Int32 × sMem) => [some (.ref v0), some (.int v1), some (.int a.1), none, none]) (MM := fun a => a.2) (fun K1 hb1 he1 => ?_) sFuel ((v2, M))
    have xB118 : ∀ (v2 : Int32) (M : sMem), sX G l 6 yX12_laysFits cX12_laysFits 5 none M0 r M' 118 [some (.ref v0), some (.int v1), some (.int v2), none, none] [] M (f_X12_laysFits_B118 v0 v1 v2 M) K1 := by
      intro v2 M
      unfold f_X12_laysFits_B118
      refine sX_iinc (i := 2) (n := 1) (v := v2 + (1 : Int32)) (ls2 := [some (.ref v0), some (.int v1), some (.int (v2 + (1 : Int32))), none, none]) (by decide +kernel) rfl rfl (by decide) rfl ?_
      refine sX_goto (o := -109) (t := 12) (by decide +kernel) (by decide) ?_
      exact sX_back (a := (((v2 + (1 : Int32))), M)) hb1 rfl (sLe_s (sLe_s (sLe_s (sLe_n (sLe_n sLe_e)))))
    have xB97 : ∀ (v2 : Int32) (v3 : Int32) (M : sMem), sX G l 6 yX12_laysFits cX12_laysFits 5 none M0 r M' 97 [some (.ref v0), some (.int v1), some (.int v2), some (.int v3), none] [] M (f_X12_laysFits_B97 v0 v1 v2 v3 M) K1 := by
      intro v2 v3 M
      unfold f_X12_laysFits_B97
      refine sX_aload_n (i := 0) (by decide +kernel) rfl ?_
      refine sX_getR lf_X12_194 tk_12_82 (by decide +kernel) (fun x1 => ?_)
      refine sX_iload_n (i := 2) (by decide +kernel) rfl ?_
      refine sX_iload_n (i := 3) (by decide +kernel) rfl ?_
      refine sX_bastore (by decide +kernel) (by decide) (fun M2 => ?_)
      refine sX_iload_n (i := 3) (by decide +kernel) rfl ?_
      refine sX_ifeq (o := 13) (t := 118) (by decide +kernel) (by decide) (fun _ => ?_) (fun _ => ?_)
      · exact sX.le (xB118 v2 M2) (sLe_s (sLe_s (sLe_s (sLe_n (sLe_n sLe_e)))))
      · refine sX_aload_n (i := 0) (by decide +kernel) rfl ?_
        refine sX_dup (by decide +kernel) rfl ?_
        refine sX_getI lf_X12_641 tk_12_83 (by decide +kernel) (fun x3 => ?_)
        refine sX_iconst (n := 1) (v := (1 : Int32)) (by decide +kernel) (by decide) ?_
        refine sX_iadd (by decide +kernel) ?_
        refine sX_putI lf_X12_641 tp_12_83 (by decide +kernel) (by decide) (fun M4 => ?_)
        exact sX.le (xB118 v2 M4) (sLe_s (sLe_s (sLe_s (sLe_n (sLe_n sLe_e)))))
    have xL23 : ∀ (v2 : Int32) (v3 : Int32) (v4 : Int32) (M : sMem), sX G l 6 yX12_laysFits cX12_laysFits 5 none M0 r M' 23 [some (.ref v0), some (.int v1), some (.int v2), some (.int v3), some (.int v4)] [] M (f_X12_laysFits_L23 v0 v1 v2 v3 v4 M) K1 := by
      intro v2 v3 v4 M
      unfold f_X12_laysFits_L23
      refine sX_bind ?_
      refine sX_loop (LS := fun a : (Int32 × Int32 × sMem) => [some (.ref v0), some (.int v1), some (.int v2), some (.int a.1), some (.int a.2.1)]) (MM := fun a => a.2.2) (fun K2 hb2 he2 => ?_) sFuel ((v3, v4, M))
      have xB90 : ∀ (v4 : Int32) (s0 : Int32) (M : sMem), sX G l 6 yX12_laysFits cX12_laysFits 5 none M0 r M' 90 [some (.ref v0), some (.int v1), some (.int v2), none, some (.int v4)] [.int s0] M (f_X12_laysFits_B90 v0 v1 v2 v4 s0 M) K2 := by
        intro v4 s0 M
        unfold f_X12_laysFits_B90
        refine sX_istore_n (i := 3) (ls2 := [some (.ref v0), some (.int v1), some (.int v2), some (.int s0), some (.int v4)]) (by decide +kernel) (by decide) rfl ?_
        refine sX_iinc (i := 4) (n := 1) (v := v4 + (1 : Int32)) (ls2 := [some (.ref v0), some (.int v1), some (.int v2), some (.int s0), some (.int (v4 + (1 : Int32)))]) (by decide +kernel) rfl rfl (by decide) rfl ?_
        refine sX_goto (o := -71) (t := 23) (by decide +kernel) (by decide) ?_
        exact sX_back (a := (s0, ((v4 + (1 : Int32))), M)) hb2 rfl (sLe_s (sLe_s (sLe_s (sLe_s (sLe_s sLe_e)))))
      have xB82 : ∀ (v4 : Int32) (s0 : Int32) (s1 : Int32) (M : sMem), sX G l 6 yX12_laysFits cX12_laysFits 5 none M0 r M' 82 [some (.ref v0), some (.int v1), some (.int v2), none, some (.int v4)] [.int s1, .int s0] M (f_X12_laysFits_B82 v0 v1 v2 v4 s0 s1 M) K2 := by
        intro v4 s0 s1 M
        unfold f_X12_laysFits_B82
        refine sX_icne (o := 7) (t := 89) (by decide +kernel) (by decide) (fun _ => ?_) (fun _ => ?_)
        · refine sX_iconst (n := 1) (v := (1 : Int32)) (by decide +kernel) (by decide) ?_
          refine sX_goto (o := 4) (t := 90) (by decide +kernel) (by decide) ?_
          exact sX.le (xB90 v4 ((1 : Int32)) M) (sLe_s (sLe_s (sLe_s (sLe_n (sLe_s sLe_e)))))
        · refine sX_iconst (n := 0) (v := (0 : Int32)) (by decide +kernel) (by decide) ?_
          exact sX.le (xB90 v4 ((0 : Int32)) M) (sLe_s (sLe_s (sLe_s (sLe_n (sLe_s sLe_e)))))
      have xK23 : ∀ (v3 : Int32) (v4 : Int32) (M : sMem), sX G l 6 yX12_laysFits cX12_laysFits 5 none M0 r M' 23 [some (.ref v0), some (.int v1), some (.int v2), some (.int v3), some (.int v4)] [] M (f_X12_laysFits_K23 v0 v1 v2 v3 v4 M) K2 := by
        intro v3 v4 M
        unfold f_X12_laysFits_K23
        refine sX_iload (i := 4) (by decide +kernel) rfl ?_
        refine sX_aload_n (i := 0) (by decide +kernel) rfl ?_
        refine sX_getI lf_X12_457 tk_12_80 (by decide +kernel) (fun x5 => ?_)
        refine sX_icge (o := 68) (t := 97) (by decide +kernel) (by decide) (fun _ => ?_) (fun _ => ?_)
        · refine sX_exit he2 ?_
          exact sX.le (xB97 v2 v3 M) (sLe_s (sLe_s (sLe_s (sLe_s (sLe_n sLe_e)))))
        · refine sX_iload_n (i := 3) (by decide +kernel) rfl ?_
          refine sX_ifeq (o := 64) (t := 97) (by decide +kernel) (by decide) (fun _ => ?_) (fun _ => ?_)
          · refine sX_exit he2 ?_
            exact sX.le (xB97 v2 v3 M) (sLe_s (sLe_s (sLe_s (sLe_s (sLe_n sLe_e)))))
          · refine sX_aload_n (i := 0) (by decide +kernel) rfl ?_
            refine sX_iload_n (i := 1) (by decide +kernel) rfl ?_
            refine sX_iload_n (i := 2) (by decide +kernel) rfl ?_
            refine sX_aload_n (i := 0) (by decide +kernel) rfl ?_
            refine sX_getR lf_X12_191 tk_12_81 (by decide +kernel) (fun x6 => ?_)
            refine sX_iconst (n := 3) (v := (3 : Int32)) (by decide +kernel) (by decide) ?_
            refine sX_iload (i := 4) (by decide +kernel) rfl ?_
            refine sX_imul (by decide +kernel) ?_
            refine sX_iconst (n := 1) (v := (1 : Int32)) (by decide +kernel) (by decide) ?_
            refine sX_iadd (by decide +kernel) ?_
            refine sX_iaload (by decide +kernel) (fun x7 => ?_)
            refine sX_aload_n (i := 0) (by decide +kernel) rfl ?_
            refine sX_getR lf_X12_191 tk_12_81 (by decide +kernel) (fun x8 => ?_)
            refine sX_iconst (n := 3) (v := (3 : Int32)) (by decide +kernel) (by decide) ?_
            refine sX_iload (i := 4) (by decide +kernel) rfl ?_
            refine sX_imul (by decide +kernel) ?_
            refine sX_iaload (by decide +kernel) (fun x9 => ?_)
            refine sX_callV (As := [.int v1, .int v2, .int x7, .int x9]) (by decide +kernel) lm_X12_644 mf_X12_isClosedBy mi_X12_isClosedBy mc_12 (m_X12_isClosedBy G l v0 v1 v2 x7 x9 M) (fun _ h => sRc_some h) (by decide) rfl rfl (Nat.le_of_ble_eq_true rfl) (fun x10 M11 _ => ?_)
            refine sX_aload_n (i := 0) (by decide +kernel) rfl ?_
            refine sX_getR lf_X12_191 tk_12_81 (by decide +kernel) (fun x12 => ?_)
            refine sX_iconst (n := 3) (v := (3 : Int32)) (by decide +kernel) (by decide) ?_
            refine sX_iload (i := 4) (by decide +kernel) rfl ?_
            refine sX_imul (by decide +kernel) ?_
            refine sX_iconst (n := 2) (v := (2 : Int32)) (by decide +kernel) (by decide) ?_
            refine sX_iadd (by decide +kernel) ?_
            refine sX_iaload (by decide +kernel) (fun x13 => ?_)
            refine sX_iconst (n := 1) (v := (1 : Int32)) (by decide +kernel) (by decide) ?_
            refine sX_icne (o := 7) (t := 81) (by decide +kernel) (by decide) (fun _ => ?_) (fun _ => ?_)
            · refine sX_iconst (n := 1) (v := (1 : Int32)) (by decide +kernel) (by decide) ?_
              refine sX_goto (o := 4) (t := 82) (by decide +kernel) (by decide) ?_
              exact sX.le (xB82 v4 x10 ((1 : Int32)) M11) (sLe_s (sLe_s (sLe_s (sLe_n (sLe_s sLe_e)))))
            · refine sX_iconst (n := 0) (v := (0 : Int32)) (by decide +kernel) (by decide) ?_
              exact sX.le (xB82 v4 x10 ((0 : Int32)) M11) (sLe_s (sLe_s (sLe_s (sLe_n (sLe_s sLe_e)))))
      exact fun a => xK23 a.1 a.2.1 a.2.2
    have xK12 : ∀ (v2 : Int32) (M : sMem), sX G l 6 yX12_laysFits cX12_laysFits 5 none M0 r M' 12 [some (.ref v0), some (.int v1), some (.int v2), none, none] [] M (f_X12_laysFits_K12 v0 v1 v2 M) K1 := by
      intro v2 M
      unfold f_X12_laysFits_K12
      refine sX_iload_n (i := 2) (by decide +kernel) rfl ?_
      refine sX_bipush (n := 99) (v := (99 : Int32)) (by decide +kernel) (by decide) ?_
      refine sX_icgt (o := 109) (t := 124) (by decide +kernel) (by decide) (fun _ => ?_) (fun _ => ?_)
      · refine sX_exit he1 ?_
        exact sX_some (fun h _ => sW_vret (by decide +kernel) rfl (hr _ h).1.symm (hr _ h).2.symm)
      · refine sX_iconst (n := 1) (v := (1 : Int32)) (by decide +kernel) (by decide) ?_
        refine sX_istore_n (i := 3) (ls2 := [some (.ref v0), some (.int v1), some (.int v2), some (.int (1 : Int32)), none]) (by decide +kernel) (by decide) rfl ?_
        refine sX_iconst (n := 0) (v := (0 : Int32)) (by decide +kernel) (by decide) ?_
        refine sX_istore (i := 4) (ls2 := [some (.ref v0), some (.int v1), some (.int v2), some (.int (1 : Int32)), some (.int (0 : Int32))]) (by decide +kernel) (by decide) rfl ?_
        exact sX.le (xL23 v2 ((1 : Int32)) ((0 : Int32)) M) (sLe_s (sLe_s (sLe_s (sLe_s (sLe_s sLe_e)))))
    exact fun a => xK12 a.1 a.2
  refine sX_rc ?_
  refine sX_aload_n (i := 0) (by decide +kernel) rfl ?_
  refine sX_iload_n (i := 1) (by decide +kernel) rfl ?_
  refine sX_callVv (As := [.int v1]) (by decide +kernel) lm_X12_522 mf_X12_laysShutBut mi_X12_laysShutBut mc_12 (m_X12_laysShutBut G l v0 v1 M0) (fun _ h => sRc_some h) (by decide) rfl rfl (Nat.le_of_ble_eq_true rfl) (fun M14 => ?_)
  refine sX_aload_n (i := 0) (by decide +kernel) rfl ?_
  refine sX_iconst (n := 0) (v := (0 : Int32)) (by decide +kernel) (by decide) ?_
  refine sX_putI lf_X12_641 tp_12_83 (by decide +kernel) (by decide) (fun M15 => ?_)
  refine sX_iconst (n := 0) (v := (0 : Int32)) (by decide +kernel) (by decide) ?_
  refine sX_istore_n (i := 2) (ls2 := [some (.ref v0), some (.int v1), some (.int (0 : Int32)), none, none]) (by decide +kernel) (by decide) rfl ?_
  exact sX.le (xL12 v0 v1 ((0 : Int32)) M15) (sLe_s (sLe_s (sLe_s (sLe_n (sLe_n sLe_e)))))
def f_X12_was_B70 (v0 : Nat) (v2 : Int32) (v3 : Int32) (v4 : Int32) (M : sMem) : Option (Int32 × sMem) :=
  if v2 = 0 then
    (gI 12 127 83 M v0).bind fun x1 =>
    some ((x1, M))
  else
    if v2 = (1 : Int32) then
      some ((v3, M))
    else
      some ((v4, M))
def f_X12_was_B64 (v0 : Nat) (v2 : Int32) (v3 : Int32) (v4 : Int32) (v5 : Int32) (M : sMem) : Option ((Int32 × Int32 × Int32) ⊕ ((Int32 × Int32))) :=
  some (.inl ((v3, v4, ((v5 + (1 : Int32))))))
def f_X12_was_B60 (v0 : Nat) (v2 : Int32) (v3 : Int32) (v5 : Int32) (M : sMem) : Option ((Int32 × Int32 × Int32) ⊕ ((Int32 × Int32))) :=
  f_X12_was_B64 v0 v2 v3 v5 v5 M
def f_X12_was_K35 (v0 : Nat) (v2 : Int32) (v3 : Int32) (v4 : Int32) (v5 : Int32) (M : sMem) : Option ((Int32 × Int32 × Int32) ⊕ ((Int32 × Int32))) :=
  if (99 : Int32) < v5 then
    some (.inr ((v3, v4)))
  else
    (gR 12 127 82 M v0).bind fun x2 =>
    (ldI 16 M x2 v5).bind fun x3 =>
    if x3 = 0 then
      f_X12_was_B64 v0 v2 v3 v4 v5 M
    else
      if v3 = (-1 : Int32) then
        f_X12_was_B60 v0 v2 v5 v5 M
      else
        f_X12_was_B60 v0 v2 v3 v5 M
def f_X12_was_L35 (v0 : Nat) (v2 : Int32) (v3 : Int32) (v4 : Int32) (v5 : Int32) (M : sMem) : Option (Int32 × sMem) :=
  (sItr (fun a : (Int32 × Int32 × Int32) => f_X12_was_K35 v0 v2 a.1 a.2.1 a.2.2 M) sFuel (v3, v4, v5)).bind (fun b => f_X12_was_B70 v0 v2 b.1 b.2 M)
def f_X12_was (v0 : Nat) (v1 : Int32) (v2 : Int32) (M0 : sMem) : Option (Int32 × sMem) :=
  sRc 12 127 M0 v0 (
    (f_X12_isEra v0 v1 M0).bind fun x4 =>
    if x4 = 0 then
      some (((-1 : Int32), M0))
    else
      (f_X12_isIn v2.toInt64 ((0 : Int64)) ((2 : Int64)) M0).bind fun x5 =>
      if x5 = 0 then
        some (((-1 : Int32), M0))
      else
        (f_X12_laysFits v0 v1 M0).bind fun M6 =>
        f_X12_was_L35 v0 v2 ((-1 : Int32)) ((-1 : Int32)) ((0 : Int32)) M6)
set_option maxRecDepth 100000 in
set_option maxHeartbeats 4000000 in
theorem m_X12_was (G : sG) (l : Launch) (v0 : Nat) (v1 : Int32) (v2 : Int32) (M0 : sMem) : sC G l 7 yX12_was cX12_was 6 (some .int) [.ref v0, .int v1, .int v2] M0 rvI (f_X12_was v0 v1 v2 M0) := by
  refine sC_m (ls := [some (.ref v0), some (.int v1), some (.int v2), none, none, none]) (by decide +kernel) rfl (Nat.le_of_ble_eq_true rfl) (fun r M' K hr => ?_)
  unfold f_X12_was
  have xB70 : ∀ (v0 : Nat) (v2 : Int32) (v3 : Int32) (v4 : Int32) (M : sMem), sX G l 7 yX12_was cX12_was 6 (some .int) M0 r M' 70 [some (.ref v0), none, some (.int v2), some (.int v3), some (.int v4), none] [] M (f_X12_was_B70 v0 v2 v3 v4 M) K := by
    intro v0 v2 v3 v4 M
    unfold f_X12_was_B70
    refine sX_iload_n (i := 2) (by decide +kernel) rfl ?_
    refine sX_ifne (o := 10) (t := 81) (by decide +kernel) (by decide) (fun _ => ?_) (fun _ => ?_)
    · refine sX_aload_n (i := 0) (by decide +kernel) rfl ?_
      refine sX_getI lf_X12_641 tk_12_83 (by decide +kernel) (fun x1 => ?_)
      refine sX_goto (o := 14) (t := 92) (by decide +kernel) (by decide) ?_
      exact sX_some (fun h _ => sW_iret (by decide +kernel) rfl (hr _ h).1.symm (hr _ h).2.symm)
    · refine sX_iload_n (i := 2) (by decide +kernel) rfl ?_
      refine sX_iconst (n := 1) (v := (1 : Int32)) (by decide +kernel) (by decide) ?_
      refine sX_icne (o := 7) (t := 90) (by decide +kernel) (by decide) (fun _ => ?_) (fun _ => ?_)
      · refine sX_iload_n (i := 3) (by decide +kernel) rfl ?_
        refine sX_goto (o := 5) (t := 92) (by decide +kernel) (by decide) ?_
        exact sX_some (fun h _ => sW_iret (by decide +kernel) rfl (hr _ h).1.symm (hr _ h).2.symm)
      · refine sX_iload (i := 4) (by decide +kernel) rfl ?_
        exact sX_some (fun h _ => sW_iret (by decide +kernel) rfl (hr _ h).1.symm (hr _ h).2.symm)
  have xL35 : ∀ (v0 : Nat) (v2 : Int32) (v3 : Int32) (v4 : Int32) (v5 : Int32) (M : sMem), sX G l 7 yX12_was cX12_was 6 (some .int) M0 r M' 35 [some (.ref v0), none, some (.int v2), some (.int v3), some (.int v4), some (.int v5)] [] M (f_X12_was_L35 v0 v2 v3 v4 v5 M) K := by
    intro v0 v2 v3 v4 v5 M
    unfold f_X12_was_L35
    refine sX_bind ?_
    refine sX_loop (LS := fun a : (Int32 × Int32 × Int32) => [some (.ref v0), none, some (.int v2), some (.int a.1), some (.int a.2.1), some (.int a.2.2)]) (MM := fun a => M) (fun K1 hb1 he1 => ?_) sFuel ((v3, v4, v5))
    have xB64 : ∀ (v3 : Int32) (v4 : Int32) (v5 : Int32), sX G l 7 yX12_was cX12_was 6 (some .int) M0 r M' 64 [some (.ref v0), none, some (.int v2), some (.int v3), some (.int v4), some (.int v5)] [] M (f_X12_was_B64 v0 v2 v3 v4 v5 M) K1 := by
      intro v3 v4 v5
      unfold f_X12_was_B64
      refine sX_iinc (i := 5) (n := 1) (v := v5 + (1 : Int32)) (ls2 := [some (.ref v0), none, some (.int v2), some (.int v3), some (.int v4), some (.int (v5 + (1 : Int32)))]) (by decide +kernel) rfl rfl (by decide) rfl ?_
      refine sX_goto (o := -32) (t := 35) (by decide +kernel) (by decide) ?_
      exact sX_back (a := (v3, v4, ((v5 + (1 : Int32))))) hb1 rfl (sLe_s (sLe_n (sLe_s (sLe_s (sLe_s (sLe_s sLe_e))))))
    have xB60 : ∀ (v3 : Int32) (v5 : Int32), sX G l 7 yX12_was cX12_was 6 (some .int) M0 r M' 60 [some (.ref v0), none, some (.int v2), some (.int v3), none, some (.int v5)] [] M (f_X12_was_B60 v0 v2 v3 v5 M) K1 := by
      intro v3 v5
      unfold f_X12_was_B60
      refine sX_iload (i := 5) (by decide +kernel) rfl ?_
      refine sX_istore (i := 4) (ls2 := [some (.ref v0), none, some (.int v2), some (.int v3), some (.int v5), some (.int v5)]) (by decide +kernel) (by decide) rfl ?_
      exact sX.le (xB64 v3 v5 v5) (sLe_s (sLe_n (sLe_s (sLe_s (sLe_s (sLe_s sLe_e))))))
    have xK35 : ∀ (v3 : Int32) (v4 : Int32) (v5 : Int32), sX G l 7 yX12_was cX12_was 6 (some .int) M0 r M' 35 [some (.ref v0), none, some (.int v2), some (.int v3), some (.int v4), some (.int v5)] [] M (f_X12_was_K35 v0 v2 v3 v4 v5 M) K1 := by
      intro v3 v4 v5
      unfold f_X12_was_K35
      refine sX_iload (i := 5) (by decide +kernel) rfl ?_
      refine sX_bipush (n := 99) (v := (99 : Int32)) (by decide +kernel) (by decide) ?_
      refine sX_icgt (o := 31) (t := 70) (by decide +kernel) (by decide) (fun _ => ?_) (fun _ => ?_)
      · refine sX_exit he1 ?_
        exact sX.le (xB70 v0 v2 v3 v4 M) (sLe_s (sLe_n (sLe_s (sLe_s (sLe_s (sLe_n sLe_e))))))
      · refine sX_aload_n (i := 0) (by decide +kernel) rfl ?_
        refine sX_getR lf_X12_194 tk_12_82 (by decide +kernel) (fun x2 => ?_)
        refine sX_iload (i := 5) (by decide +kernel) rfl ?_
        refine sX_baload (by decide +kernel) (fun x3 => ?_)
        refine sX_ifeq (o := 15) (t := 64) (by decide +kernel) (by decide) (fun _ => ?_) (fun _ => ?_)
        · exact sX.le (xB64 v3 v4 v5) (sLe_s (sLe_n (sLe_s (sLe_s (sLe_s (sLe_s sLe_e))))))
        · refine sX_iload_n (i := 3) (by decide +kernel) rfl ?_
          refine sX_iconst (n := -1) (v := (-1 : Int32)) (by decide +kernel) (by decide) ?_
          refine sX_icne (o := 6) (t := 60) (by decide +kernel) (by decide) (fun _ => ?_) (fun _ => ?_)
          · refine sX_iload (i := 5) (by decide +kernel) rfl ?_
            refine sX_istore_n (i := 3) (ls2 := [some (.ref v0), none, some (.int v2), some (.int v5), some (.int v4), some (.int v5)]) (by decide +kernel) (by decide) rfl ?_
            exact sX.le (xB60 v5 v5) (sLe_s (sLe_n (sLe_s (sLe_s (sLe_n (sLe_s sLe_e))))))
          · exact sX.le (xB60 v3 v5) (sLe_s (sLe_n (sLe_s (sLe_s (sLe_n (sLe_s sLe_e))))))
    exact fun a => xK35 a.1 a.2.1 a.2.2
  refine sX_rc ?_
  refine sX_aload_n (i := 0) (by decide +kernel) rfl ?_
  refine sX_iload_n (i := 1) (by decide +kernel) rfl ?_
  refine sX_callVp (As := [.int v1]) (by decide +kernel) lm_X12_591 mf_X12_isEra mi_X12_isEra mc_12 (m_X12_isEra G l v0 v1 M0) (fun _ h => sRc_some h) (by decide) rfl rfl (Nat.le_of_ble_eq_true rfl) (fun x4 => ?_)
  refine sX_ifeq (o := 15) (t := 20) (by decide +kernel) (by decide) (fun _ => ?_) (fun _ => ?_)
  · refine sX_iconst (n := -1) (v := (-1 : Int32)) (by decide +kernel) (by decide) ?_
    exact sX_some (fun h _ => sW_iret (by decide +kernel) rfl (hr _ h).1.symm (hr _ h).2.symm)
  · refine sX_iload_n (i := 2) (by decide +kernel) rfl ?_
    refine sX_i2l (by decide +kernel) ?_
    refine sX_lconst (n := 0) (v := (0 : Int64)) (by decide +kernel) (by decide) ?_
    refine sX_ldc2 (v := (2 : Int64)) (by decide +kernel) kl_X12_597 ?_
    refine sX_callSp (As := [.long v2.toInt64, .long (0 : Int64), .long (2 : Int64)]) (by decide +kernel) lm_X12_343 mf_X12_isIn ms_X12_isIn (m_X12_isIn G l v2.toInt64 ((0 : Int64)) ((2 : Int64)) M0) (by decide) rfl rfl (Nat.le_of_ble_eq_true rfl) (fun x5 => ?_)
    refine sX_ifne (o := 5) (t := 22) (by decide +kernel) (by decide) (fun _ => ?_) (fun _ => ?_)
    · refine sX_iconst (n := -1) (v := (-1 : Int32)) (by decide +kernel) (by decide) ?_
      exact sX_some (fun h _ => sW_iret (by decide +kernel) rfl (hr _ h).1.symm (hr _ h).2.symm)
    · refine sX_aload_n (i := 0) (by decide +kernel) rfl ?_
      refine sX_iload_n (i := 1) (by decide +kernel) rfl ?_
      refine sX_callVv (As := [.int v1]) (by decide +kernel) lm_X12_647 mf_X12_laysFits mi_X12_laysFits mc_12 (m_X12_laysFits G l v0 v1 M0) (fun _ h => sRc_some h) (by decide) rfl rfl (Nat.le_of_ble_eq_true rfl) (fun M6 => ?_)
      refine sX_iconst (n := -1) (v := (-1 : Int32)) (by decide +kernel) (by decide) ?_
      refine sX_istore_n (i := 3) (ls2 := [some (.ref v0), some (.int v1), some (.int v2), some (.int (-1 : Int32)), none, none]) (by decide +kernel) (by decide) rfl ?_
      refine sX_iconst (n := -1) (v := (-1 : Int32)) (by decide +kernel) (by decide) ?_
      refine sX_istore (i := 4) (ls2 := [some (.ref v0), some (.int v1), some (.int v2), some (.int (-1 : Int32)), some (.int (-1 : Int32)), none]) (by decide +kernel) (by decide) rfl ?_
      refine sX_iconst (n := 0) (v := (0 : Int32)) (by decide +kernel) (by decide) ?_
      refine sX_istore (i := 5) (ls2 := [some (.ref v0), some (.int v1), some (.int v2), some (.int (-1 : Int32)), some (.int (-1 : Int32)), some (.int (0 : Int32))]) (by decide +kernel) (by decide) rfl ?_
      exact sX.le (xL35 v0 v2 ((-1 : Int32)) ((-1 : Int32)) ((0 : Int32)) M6) (sLe_s (sLe_n (sLe_s (sLe_s (sLe_s (sLe_s sLe_e))))))
def f_X12_mostAlike_B44 (v0 : Nat) (v4 : Int32) (M : sMem) : Option (Int32 × sMem) :=
  (gI 12 127 83 M v0).bind fun x1 =>
  if v4 ≤ (x1 - v4) then
    (gI 12 127 83 M v0).bind fun x2 =>
    some (((x2 - v4), M))
  else
    some ((v4, M))
def f_X12_mostAlike_B38 (v0 : Nat) (v1 : Int32) (v2 : Int32) (v3 : Int32) (v4 : Int32) (v5 : Int32) (M : sMem) : Option ((Int32 × Int32 × sMem) ⊕ ((Int32 × sMem))) :=
  some (.inl ((v4, ((v5 + (1 : Int32))), M)))
def f_X12_mostAlike_K6 (v0 : Nat) (v1 : Int32) (v2 : Int32) (v3 : Int32) (v4 : Int32) (v5 : Int32) (M : sMem) : Option ((Int32 × Int32 × sMem) ⊕ ((Int32 × sMem))) :=
  if (99 : Int32) < v5 then
    some (.inr ((v4, M)))
  else
    (gR 12 127 82 M v0).bind fun x3 =>
    (ldI 16 M x3 v5).bind fun x4 =>
    if x4 = 0 then
      f_X12_mostAlike_B38 v0 v1 v2 v3 v4 v5 M
    else
      (f_X12_isClosedBy v0 v1 v5 v2 v3 M).bind fun (x5, M6) =>
      if x5 = 0 then
        f_X12_mostAlike_B38 v0 v1 v2 v3 v4 v5 M6
      else
        f_X12_mostAlike_B38 v0 v1 v2 v3 ((v4 + (1 : Int32))) v5 M6
def f_X12_mostAlike_L6 (v0 : Nat) (v1 : Int32) (v2 : Int32) (v3 : Int32) (v4 : Int32) (v5 : Int32) (M : sMem) : Option (Int32 × sMem) :=
  (sItr (fun a : (Int32 × Int32 × sMem) => f_X12_mostAlike_K6 v0 v1 v2 v3 a.1 a.2.1 a.2.2) sFuel (v4, v5, M)).bind (fun b => f_X12_mostAlike_B44 v0 b.1 b.2)
def f_X12_mostAlike (v0 : Nat) (v1 : Int32) (v2 : Int32) (v3 : Int32) (M0 : sMem) : Option (Int32 × sMem) :=
  sRc 12 127 M0 v0 (
    f_X12_mostAlike_L6 v0 v1 v2 v3 ((0 : Int32)) ((0 : Int32)) M0)
set_option maxRecDepth 100000 in
set_option maxHeartbeats 4000000 in
theorem m_X12_mostAlike (G : sG) (l : Launch) (v0 : Nat) (v1 : Int32) (v2 : Int32) (v3 : Int32) (M0 : sMem) : sC G l 6 yX12_mostAlike cX12_mostAlike 6 (some .int) [.ref v0, .int v1, .int v2, .int v3] M0 rvI (f_X12_mostAlike v0 v1 v2 v3 M0) := by
  refine sC_m (ls := [some (.ref v0), some (.int v1), some (.int v2), some (.int v3), none, none]) (by decide +kernel) rfl (Nat.le_of_ble_eq_true rfl) (fun r M' K hr => ?_)
  unfold f_X12_mostAlike
  have xB44 : ∀ (v0 : Nat) (v4 : Int32) (M : sMem), sX G l 6 yX12_mostAlike cX12_mostAlike 6 (some .int) M0 r M' 44 [some (.ref v0), none, none, none, some (.int v4), none] [] M (f_X12_mostAlike_B44 v0 v4 M) K := by
    intro v0 v4 M
    unfold f_X12_mostAlike_B44
    refine sX_iload (i := 4) (by decide +kernel) rfl ?_
    refine sX_aload_n (i := 0) (by decide +kernel) rfl ?_
    refine sX_getI lf_X12_641 tk_12_83 (by decide +kernel) (fun x1 => ?_)
    refine sX_iload (i := 4) (by decide +kernel) rfl ?_
    refine sX_isub (by decide +kernel) ?_
    refine sX_icle (o := 8) (t := 61) (by decide +kernel) (by decide) (fun _ => ?_) (fun _ => ?_)
    · refine sX_aload_n (i := 0) (by decide +kernel) rfl ?_
      refine sX_getI lf_X12_641 tk_12_83 (by decide +kernel) (fun x2 => ?_)
      refine sX_iload (i := 4) (by decide +kernel) rfl ?_
      refine sX_isub (by decide +kernel) ?_
      exact sX_some (fun h _ => sW_iret (by decide +kernel) rfl (hr _ h).1.symm (hr _ h).2.symm)
    · refine sX_iload (i := 4) (by decide +kernel) rfl ?_
      refine sX_goto (o := 10) (t := 68) (by decide +kernel) (by decide) ?_
      exact sX_some (fun h _ => sW_iret (by decide +kernel) rfl (hr _ h).1.symm (hr _ h).2.symm)
  have xL6 : ∀ (v0 : Nat) (v1 : Int32) (v2 : Int32) (v3 : Int32) (v4 : Int32) (v5 : Int32) (M : sMem), sX G l 6 yX12_mostAlike cX12_mostAlike 6 (some .int) M0 r M' 6 [some (.ref v0), some (.int v1), some (.int v2), some (.int v3), some (.int v4), some (.int v5)] [] M (f_X12_mostAlike_L6 v0 v1 v2 v3 v4 v5 M) K := by
    intro v0 v1 v2 v3 v4 v5 M
    unfold f_X12_mostAlike_L6
    refine sX_bind ?_
    refine sX_loop (LS := fun a : (Int32 × Int32 × sMem) => [some (.ref v0), some (.int v1), some (.int v2), some (.int v3), some (.int a.1), some (.int a.2.1)]) (MM := fun a => a.2.2) (fun K1 hb1 he1 => ?_) sFuel ((v4, v5, M))
    have xB38 : ∀ (v4 : Int32) (v5 : Int32) (M : sMem), sX G l 6 yX12_mostAlike cX12_mostAlike 6 (some .int) M0 r M' 38 [some (.ref v0), some (.int v1), some (.int v2), some (.int v3), some (.int v4), some (.int v5)] [] M (f_X12_mostAlike_B38 v0 v1 v2 v3 v4 v5 M) K1 := by
      intro v4 v5 M
      unfold f_X12_mostAlike_B38
      refine sX_iinc (i := 5) (n := 1) (v := v5 + (1 : Int32)) (ls2 := [some (.ref v0), some (.int v1), some (.int v2), some (.int v3), some (.int v4), some (.int (v5 + (1 : Int32)))]) (by decide +kernel) rfl rfl (by decide) rfl ?_
      refine sX_goto (o := -35) (t := 6) (by decide +kernel) (by decide) ?_
      exact sX_back (a := (v4, ((v5 + (1 : Int32))), M)) hb1 rfl (sLe_s (sLe_s (sLe_s (sLe_s (sLe_s (sLe_s sLe_e))))))
    have xK6 : ∀ (v4 : Int32) (v5 : Int32) (M : sMem), sX G l 6 yX12_mostAlike cX12_mostAlike 6 (some .int) M0 r M' 6 [some (.ref v0), some (.int v1), some (.int v2), some (.int v3), some (.int v4), some (.int v5)] [] M (f_X12_mostAlike_K6 v0 v1 v2 v3 v4 v5 M) K1 := by
      intro v4 v5 M
      unfold f_X12_mostAlike_K6
      refine sX_iload (i := 5) (by decide +kernel) rfl ?_
      refine sX_bipush (n := 99) (v := (99 : Int32)) (by decide +kernel) (by decide) ?_
      refine sX_icgt (o := 34) (t := 44) (by decide +kernel) (by decide) (fun _ => ?_) (fun _ => ?_)
      · refine sX_exit he1 ?_
        exact sX.le (xB44 v0 v4 M) (sLe_s (sLe_n (sLe_n (sLe_n (sLe_s (sLe_n sLe_e))))))
      · refine sX_aload_n (i := 0) (by decide +kernel) rfl ?_
        refine sX_getR lf_X12_194 tk_12_82 (by decide +kernel) (fun x3 => ?_)
        refine sX_iload (i := 5) (by decide +kernel) rfl ?_
        refine sX_baload (by decide +kernel) (fun x4 => ?_)
        refine sX_ifeq (o := 18) (t := 38) (by decide +kernel) (by decide) (fun _ => ?_) (fun _ => ?_)
        · exact sX.le (xB38 v4 v5 M) (sLe_s (sLe_s (sLe_s (sLe_s (sLe_s (sLe_s sLe_e))))))
        · refine sX_aload_n (i := 0) (by decide +kernel) rfl ?_
          refine sX_iload_n (i := 1) (by decide +kernel) rfl ?_
          refine sX_iload (i := 5) (by decide +kernel) rfl ?_
          refine sX_iload_n (i := 2) (by decide +kernel) rfl ?_
          refine sX_iload_n (i := 3) (by decide +kernel) rfl ?_
          refine sX_callV (As := [.int v1, .int v5, .int v2, .int v3]) (by decide +kernel) lm_X12_644 mf_X12_isClosedBy mi_X12_isClosedBy mc_12 (m_X12_isClosedBy G l v0 v1 v5 v2 v3 M) (fun _ h => sRc_some h) (by decide) rfl rfl (Nat.le_of_ble_eq_true rfl) (fun x5 M6 _ => ?_)
          refine sX_ifeq (o := 6) (t := 38) (by decide +kernel) (by decide) (fun _ => ?_) (fun _ => ?_)
          · exact sX.le (xB38 v4 v5 M6) (sLe_s (sLe_s (sLe_s (sLe_s (sLe_s (sLe_s sLe_e))))))
          · refine sX_iinc (i := 4) (n := 1) (v := v4 + (1 : Int32)) (ls2 := [some (.ref v0), some (.int v1), some (.int v2), some (.int v3), some (.int (v4 + (1 : Int32))), some (.int v5)]) (by decide +kernel) rfl rfl (by decide) rfl ?_
            exact sX.le (xB38 ((v4 + (1 : Int32))) v5 M6) (sLe_s (sLe_s (sLe_s (sLe_s (sLe_s (sLe_s sLe_e))))))
    exact fun a => xK6 a.1 a.2.1 a.2.2
  refine sX_rc ?_
  refine sX_iconst (n := 0) (v := (0 : Int32)) (by decide +kernel) (by decide) ?_
  refine sX_istore (i := 4) (ls2 := [some (.ref v0), some (.int v1), some (.int v2), some (.int v3), some (.int (0 : Int32)), none]) (by decide +kernel) (by decide) rfl ?_
  refine sX_iconst (n := 0) (v := (0 : Int32)) (by decide +kernel) (by decide) ?_
  refine sX_istore (i := 5) (ls2 := [some (.ref v0), some (.int v1), some (.int v2), some (.int v3), some (.int (0 : Int32)), some (.int (0 : Int32))]) (by decide +kernel) (by decide) rfl ?_
  exact sX.le (xL6 v0 v1 v2 v3 ((0 : Int32)) ((0 : Int32)) M0) (sLe_s (sLe_s (sLe_s (sLe_s (sLe_s (sLe_s sLe_e))))))
def f_X12_tells_B114 (v2 : Int32) (v3 : Int32) (v4 : Int32) (v5 : Int32) (M : sMem) : Option (Int32 × sMem) :=
  if v3 = (-1 : Int32) then
    some (((-1 : Int32), M))
  else
    if v2 = 0 then
      some ((v3, M))
    else
      if v2 = (1 : Int32) then
        some ((v4, M))
      else
        some ((v5, M))
def f_X12_tells_B108 (v0 : Nat) (v1 : Int32) (v2 : Int32) (v3 : Int32) (v4 : Int32) (v5 : Int32) (v6 : Int32) (M : sMem) : Option ((Int32 × Int32 × Int32 × Int32 × sMem) ⊕ ((Int32 × Int32 × Int32 × sMem))) :=
  some (.inl ((v3, v4, v5, ((v6 + (1 : Int32))), M)))
def f_X12_tells_B102 (v0 : Nat) (v1 : Int32) (v2 : Int32) (v3 : Int32) (v4 : Int32) (v5 : Int32) (v6 : Int32) (v7 : Int32) (M : sMem) : Option ((Int32 × Int32 × Int32 × Int32 × sMem) ⊕ ((Int32 × Int32 × Int32 × sMem))) :=
  some (.inl ((v3, v4, v5, ((v7 + (1 : Int32))), M)))
def f_X12_tells_B91 (v0 : Nat) (v1 : Int32) (v2 : Int32) (v6 : Int32) (v7 : Int32) (v8 : Int32) (M : sMem) : Option ((Int32 × Int32 × Int32 × Int32 × sMem) ⊕ ((Int32 × Int32 × Int32 × sMem))) :=
  f_X12_tells_B102 v0 v1 v2 v6 v7 v8 v6 v7 M
def f_X12_tells_K56 (v0 : Nat) (v1 : Int32) (v2 : Int32) (v6 : Int32) (v3 : Int32) (v4 : Int32) (v5 : Int32) (v7 : Int32) (M : sMem) : Option ((Int32 × Int32 × Int32 × Int32 × sMem) ⊕ ((Int32 × Int32 × Int32 × sMem))) :=
  (f_X12_gateMany v0 M).bind fun x1 =>
  if x1 ≤ v7 then
    some (.inr ((v3, v4, v5, M)))
  else
    (f_X12_mostAlike v0 v1 v7 v6 M).bind fun (x2, M3) =>
    if v3 = (-1 : Int32) then
      f_X12_tells_B91 v0 v1 v2 v6 v7 x2 M3
    else
      if x2 < v5 then
        f_X12_tells_B91 v0 v1 v2 v6 v7 x2 M3
      else
        f_X12_tells_B102 v0 v1 v2 v3 v4 v5 v6 v7 M3
def f_X12_tells_L56 (v0 : Nat) (v1 : Int32) (v2 : Int32) (v3 : Int32) (v4 : Int32) (v5 : Int32) (v6 : Int32) (v7 : Int32) (M : sMem) : Option ((Int32 × Int32 × Int32 × Int32 × sMem) ⊕ ((Int32 × Int32 × Int32 × sMem))) :=
  (sItr (fun a : (Int32 × Int32 × Int32 × Int32 × sMem) => f_X12_tells_K56 v0 v1 v2 v6 a.1 a.2.1 a.2.2.1 a.2.2.2.1 a.2.2.2.2) sFuel (v3, v4, v5, v7, M)).bind (fun b => f_X12_tells_B108 v0 v1 v2 b.1 b.2.1 b.2.2.1 v6 b.2.2.2)
def f_X12_tells_K38 (v0 : Nat) (v1 : Int32) (v2 : Int32) (v3 : Int32) (v4 : Int32) (v5 : Int32) (v6 : Int32) (M : sMem) : Option ((Int32 × Int32 × Int32 × Int32 × sMem) ⊕ ((Int32 × Int32 × Int32 × sMem))) :=
  if (200 : Int32) ≤ v6 then
    some (.inr ((v3, v4, v5, M)))
  else
    (gI 12 127 83 M v0).bind fun x4 =>
    if x4 ≤ 0 then
      some (.inr ((v3, v4, v5, M)))
    else
      f_X12_tells_L56 v0 v1 v2 v3 v4 v5 v6 ((0 : Int32)) M
def f_X12_tells_L38 (v0 : Nat) (v1 : Int32) (v2 : Int32) (v3 : Int32) (v4 : Int32) (v5 : Int32) (v6 : Int32) (M : sMem) : Option (Int32 × sMem) :=
  (sItr (fun a : (Int32 × Int32 × Int32 × Int32 × sMem) => f_X12_tells_K38 v0 v1 v2 a.1 a.2.1 a.2.2.1 a.2.2.2.1 a.2.2.2.2) sFuel (v3, v4, v5, v6, M)).bind (fun b => f_X12_tells_B114 v2 b.1 b.2.1 b.2.2.1 b.2.2.2)
def f_X12_tells (v0 : Nat) (v1 : Int32) (v2 : Int32) (M0 : sMem) : Option (Int32 × sMem) :=
  sRc 12 127 M0 v0 (
    (f_X12_isEra v0 v1 M0).bind fun x5 =>
    if x5 = 0 then
      some (((-1 : Int32), M0))
    else
      (f_X12_isIn v2.toInt64 ((0 : Int64)) ((2 : Int64)) M0).bind fun x6 =>
      if x6 = 0 then
        some (((-1 : Int32), M0))
      else
        (f_X12_laysFits v0 v1 M0).bind fun M7 =>
        f_X12_tells_L38 v0 v1 v2 ((-1 : Int32)) ((-1 : Int32)) ((0 : Int32)) ((0 : Int32)) M7)
set_option maxRecDepth 100000 in
set_option maxHeartbeats 4000000 in
theorem m_X12_tells (G : sG) (l : Launch) (v0 : Nat) (v1 : Int32) (v2 : Int32) (M0 : sMem) : sC G l 7 yX12_tells cX12_tells 9 (some .int) [.ref v0, .int v1, .int v2] M0 rvI (f_X12_tells v0 v1 v2 M0) := by
  refine sC_m (ls := [some (.ref v0), some (.int v1), some (.int v2), none, none, none, none, none, none]) (by decide +kernel) rfl (Nat.le_of_ble_eq_true rfl) (fun r M' K hr => ?_)
  unfold f_X12_tells
  have xB114 : ∀ (v2 : Int32) (v3 : Int32) (v4 : Int32) (v5 : Int32) (M : sMem), sX G l 7 yX12_tells cX12_tells 9 (some .int) M0 r M' 114 [none, none, some (.int v2), some (.int v3), some (.int v4), some (.int v5), none, none, none] [] M (f_X12_tells_B114 v2 v3 v4 v5 M) K := by
    intro v2 v3 v4 v5 M
    unfold f_X12_tells_B114
    refine sX_iload_n (i := 3) (by decide +kernel) rfl ?_
    refine sX_iconst (n := -1) (v := (-1 : Int32)) (by decide +kernel) (by decide) ?_
    refine sX_icne (o := 7) (t := 123) (by decide +kernel) (by decide) (fun _ => ?_) (fun _ => ?_)
    · refine sX_iconst (n := -1) (v := (-1 : Int32)) (by decide +kernel) (by decide) ?_
      refine sX_goto (o := 23) (t := 143) (by decide +kernel) (by decide) ?_
      exact sX_some (fun h _ => sW_iret (by decide +kernel) rfl (hr _ h).1.symm (hr _ h).2.symm)
    · refine sX_iload_n (i := 2) (by decide +kernel) rfl ?_
      refine sX_ifne (o := 7) (t := 131) (by decide +kernel) (by decide) (fun _ => ?_) (fun _ => ?_)
      · refine sX_iload_n (i := 3) (by decide +kernel) rfl ?_
        refine sX_goto (o := 15) (t := 143) (by decide +kernel) (by decide) ?_
        exact sX_some (fun h _ => sW_iret (by decide +kernel) rfl (hr _ h).1.symm (hr _ h).2.symm)
      · refine sX_iload_n (i := 2) (by decide +kernel) rfl ?_
        refine sX_iconst (n := 1) (v := (1 : Int32)) (by decide +kernel) (by decide) ?_
        refine sX_icne (o := 8) (t := 141) (by decide +kernel) (by decide) (fun _ => ?_) (fun _ => ?_)
        · refine sX_iload (i := 4) (by decide +kernel) rfl ?_
          refine sX_goto (o := 5) (t := 143) (by decide +kernel) (by decide) ?_
          exact sX_some (fun h _ => sW_iret (by decide +kernel) rfl (hr _ h).1.symm (hr _ h).2.symm)
        · refine sX_iload (i := 5) (by decide +kernel) rfl ?_
          exact sX_some (fun h _ => sW_iret (by decide +kernel) rfl (hr _ h).1.symm (hr _ h).2.symm)
  have xL38 : ∀ (v0 : Nat) (v1 : Int32) (v2 : Int32) (v3 : Int32) (v4 : Int32) (v5 : Int32) (v6 : Int32) (M : sMem), sX G l 7 yX12_tells cX12_tells 9 (some .int) M0 r M' 38 [some (.ref v0), some (.int v1), some (.int v2), some (.int v3), some (.int v4), some (.int v5), some (.int v6), none, none] [] M (f_X12_tells_L38 v0 v1 v2 v3 v4 v5 v6 M) K := by
    intro v0 v1 v2 v3 v4 v5 v6 M
    unfold f_X12_tells_L38
    refine sX_bind ?_
    refine sX_loop (LS := fun a : (Int32 × Int32 × Int32 × Int32 × sMem) => [some (.ref v0), some (.int v1), some (.int v2), some (.int a.1), some (.int a.2.1), some (.int a.2.2.1), some (.int a.2.2.2.1), none, none]) (MM := fun a => a.2.2.2.2) (fun K1 hb1 he1 => ?_) sFuel ((v3, v4, v5, v6, M))
    have xB108 : ∀ (v3 : Int32) (v4 : Int32) (v5 : Int32) (v6 : Int32) (M : sMem), sX G l 7 yX12_tells cX12_tells 9 (some .int) M0 r M' 108 [some (.ref v0), some (.int v1), some (.int v2), some (.int v3), some (.int v4), some (.int v5), some (.int v6), none, none] [] M (f_X12_tells_B108 v0 v1 v2 v3 v4 v5 v6 M) K1 := by
      intro v3 v4 v5 v6 M
      unfold f_X12_tells_B108
      refine sX_iinc (i := 6) (n := 1) (v := v6 + (1 : Int32)) (ls2 := [some (.ref v0), some (.int v1), some (.int v2), some (.int v3), some (.int v4), some (.int v5), some (.int (v6 + (1 : Int32))), none, none]) (by decide +kernel) rfl rfl (by decide) rfl ?_
      refine sX_goto (o := -73) (t := 38) (by decide +kernel) (by decide) ?_
      exact sX_back (a := (v3, v4, v5, ((v6 + (1 : Int32))), M)) hb1 rfl (sLe_s (sLe_s (sLe_s (sLe_s (sLe_s (sLe_s (sLe_s (sLe_n (sLe_n sLe_e)))))))))
    have xL56 : ∀ (v3 : Int32) (v4 : Int32) (v5 : Int32) (v6 : Int32) (v7 : Int32) (M : sMem), sX G l 7 yX12_tells cX12_tells 9 (some .int) M0 r M' 56 [some (.ref v0), some (.int v1), some (.int v2), some (.int v3), some (.int v4), some (.int v5), some (.int v6), some (.int v7), none] [] M (f_X12_tells_L56 v0 v1 v2 v3 v4 v5 v6 v7 M) K1 := by
      intro v3 v4 v5 v6 v7 M
      unfold f_X12_tells_L56
      refine sX_bind ?_
      refine sX_loop (LS := fun a : (Int32 × Int32 × Int32 × Int32 × sMem) => [some (.ref v0), some (.int v1), some (.int v2), some (.int a.1), some (.int a.2.1), some (.int a.2.2.1), some (.int v6), some (.int a.2.2.2.1), none]) (MM := fun a => a.2.2.2.2) (fun K2 hb2 he2 => ?_) sFuel ((v3, v4, v5, v7, M))
      have xB102 : ∀ (v3 : Int32) (v4 : Int32) (v5 : Int32) (v7 : Int32) (M : sMem), sX G l 7 yX12_tells cX12_tells 9 (some .int) M0 r M' 102 [some (.ref v0), some (.int v1), some (.int v2), some (.int v3), some (.int v4), some (.int v5), some (.int v6), some (.int v7), none] [] M (f_X12_tells_B102 v0 v1 v2 v3 v4 v5 v6 v7 M) K2 := by
        intro v3 v4 v5 v7 M
        unfold f_X12_tells_B102
        refine sX_iinc (i := 7) (n := 1) (v := v7 + (1 : Int32)) (ls2 := [some (.ref v0), some (.int v1), some (.int v2), some (.int v3), some (.int v4), some (.int v5), some (.int v6), some (.int (v7 + (1 : Int32))), none]) (by decide +kernel) rfl rfl (by decide) rfl ?_
        refine sX_goto (o := -49) (t := 56) (by decide +kernel) (by decide) ?_
        exact sX_back (a := (v3, v4, v5, ((v7 + (1 : Int32))), M)) hb2 rfl (sLe_s (sLe_s (sLe_s (sLe_s (sLe_s (sLe_s (sLe_s (sLe_s (sLe_n sLe_e)))))))))
      have xB91 : ∀ (v7 : Int32) (v8 : Int32) (M : sMem), sX G l 7 yX12_tells cX12_tells 9 (some .int) M0 r M' 91 [some (.ref v0), some (.int v1), some (.int v2), none, none, none, some (.int v6), some (.int v7), some (.int v8)] [] M (f_X12_tells_B91 v0 v1 v2 v6 v7 v8 M) K2 := by
        intro v7 v8 M
        unfold f_X12_tells_B91
        refine sX_iload (i := 6) (by decide +kernel) rfl ?_
        refine sX_istore_n (i := 3) (ls2 := [some (.ref v0), some (.int v1), some (.int v2), some (.int v6), none, none, some (.int v6), some (.int v7), some (.int v8)]) (by decide +kernel) (by decide) rfl ?_
        refine sX_iload (i := 7) (by decide +kernel) rfl ?_
        refine sX_istore (i := 4) (ls2 := [some (.ref v0), some (.int v1), some (.int v2), some (.int v6), some (.int v7), none, some (.int v6), some (.int v7), some (.int v8)]) (by decide +kernel) (by decide) rfl ?_
        refine sX_iload (i := 8) (by decide +kernel) rfl ?_
        refine sX_istore (i := 5) (ls2 := [some (.ref v0), some (.int v1), some (.int v2), some (.int v6), some (.int v7), some (.int v8), some (.int v6), some (.int v7), some (.int v8)]) (by decide +kernel) (by decide) rfl ?_
        exact sX.le (xB102 v6 v7 v8 v7 M) (sLe_s (sLe_s (sLe_s (sLe_s (sLe_s (sLe_s (sLe_s (sLe_s (sLe_n sLe_e)))))))))
      have xK56 : ∀ (v3 : Int32) (v4 : Int32) (v5 : Int32) (v7 : Int32) (M : sMem), sX G l 7 yX12_tells cX12_tells 9 (some .int) M0 r M' 56 [some (.ref v0), some (.int v1), some (.int v2), some (.int v3), some (.int v4), some (.int v5), some (.int v6), some (.int v7), none] [] M (f_X12_tells_K56 v0 v1 v2 v6 v3 v4 v5 v7 M) K2 := by
        intro v3 v4 v5 v7 M
        unfold f_X12_tells_K56
        refine sX_iload (i := 7) (by decide +kernel) rfl ?_
        refine sX_aload_n (i := 0) (by decide +kernel) rfl ?_
        refine sX_callVp (As := []) (by decide +kernel) lm_X12_460 mf_X12_gateMany mi_X12_gateMany mc_12 (m_X12_gateMany G l v0 M) (fun _ h => sRc_some h) (by decide) rfl rfl (Nat.le_of_ble_eq_true rfl) (fun x1 => ?_)
        refine sX_icge (o := 46) (t := 108) (by decide +kernel) (by decide) (fun _ => ?_) (fun _ => ?_)
        · refine sX_exit he2 ?_
          exact sX.le (xB108 v3 v4 v5 v6 M) (sLe_s (sLe_s (sLe_s (sLe_s (sLe_s (sLe_s (sLe_s (sLe_n (sLe_n sLe_e)))))))))
        · refine sX_aload_n (i := 0) (by decide +kernel) rfl ?_
          refine sX_iload_n (i := 1) (by decide +kernel) rfl ?_
          refine sX_iload (i := 7) (by decide +kernel) rfl ?_
          refine sX_iload (i := 6) (by decide +kernel) rfl ?_
          refine sX_callV (As := [.int v1, .int v7, .int v6]) (by decide +kernel) lm_X12_650 mf_X12_mostAlike mi_X12_mostAlike mc_12 (m_X12_mostAlike G l v0 v1 v7 v6 M) (fun _ h => sRc_some h) (by decide) rfl rfl (Nat.le_of_ble_eq_true rfl) (fun x2 M3 _ => ?_)
          refine sX_istore (i := 8) (ls2 := [some (.ref v0), some (.int v1), some (.int v2), some (.int v3), some (.int v4), some (.int v5), some (.int v6), some (.int v7), some (.int x2)]) (by decide +kernel) (by decide) rfl ?_
          refine sX_iload_n (i := 3) (by decide +kernel) rfl ?_
          refine sX_iconst (n := -1) (v := (-1 : Int32)) (by decide +kernel) (by decide) ?_
          refine sX_iceq (o := 13) (t := 91) (by decide +kernel) (by decide) (fun _ => ?_) (fun _ => ?_)
          · exact sX.le (xB91 v7 x2 M3) (sLe_s (sLe_s (sLe_s (sLe_n (sLe_n (sLe_n (sLe_s (sLe_s (sLe_s sLe_e)))))))))
          · refine sX_iload (i := 8) (by decide +kernel) rfl ?_
            refine sX_iload (i := 5) (by decide +kernel) rfl ?_
            refine sX_iclt (o := 6) (t := 91) (by decide +kernel) (by decide) (fun _ => ?_) (fun _ => ?_)
            · exact sX.le (xB91 v7 x2 M3) (sLe_s (sLe_s (sLe_s (sLe_n (sLe_n (sLe_n (sLe_s (sLe_s (sLe_s sLe_e)))))))))
            · refine sX_goto (o := 14) (t := 102) (by decide +kernel) (by decide) ?_
              exact sX.le (xB102 v3 v4 v5 v7 M3) (sLe_s (sLe_s (sLe_s (sLe_s (sLe_s (sLe_s (sLe_s (sLe_s (sLe_n sLe_e)))))))))
      exact fun a => xK56 a.1 a.2.1 a.2.2.1 a.2.2.2.1 a.2.2.2.2
    have xK38 : ∀ (v3 : Int32) (v4 : Int32) (v5 : Int32) (v6 : Int32) (M : sMem), sX G l 7 yX12_tells cX12_tells 9 (some .int) M0 r M' 38 [some (.ref v0), some (.int v1), some (.int v2), some (.int v3), some (.int v4), some (.int v5), some (.int v6), none, none] [] M (f_X12_tells_K38 v0 v1 v2 v3 v4 v5 v6 M) K1 := by
      intro v3 v4 v5 v6 M
      unfold f_X12_tells_K38
      refine sX_iload (i := 6) (by decide +kernel) rfl ?_
      refine sX_sipush (n := 200) (v := (200 : Int32)) (by decide +kernel) (by decide) ?_
      refine sX_icge (o := 71) (t := 114) (by decide +kernel) (by decide) (fun _ => ?_) (fun _ => ?_)
      · refine sX_exit he1 ?_
        exact sX.le (xB114 v2 v3 v4 v5 M) (sLe_n (sLe_n (sLe_s (sLe_s (sLe_s (sLe_s (sLe_n (sLe_n (sLe_n sLe_e)))))))))
      · refine sX_aload_n (i := 0) (by decide +kernel) rfl ?_
        refine sX_getI lf_X12_641 tk_12_83 (by decide +kernel) (fun x4 => ?_)
        refine sX_ifle (o := 64) (t := 114) (by decide +kernel) (by decide) (fun _ => ?_) (fun _ => ?_)
        · refine sX_exit he1 ?_
          exact sX.le (xB114 v2 v3 v4 v5 M) (sLe_n (sLe_n (sLe_s (sLe_s (sLe_s (sLe_s (sLe_n (sLe_n (sLe_n sLe_e)))))))))
        · refine sX_iconst (n := 0) (v := (0 : Int32)) (by decide +kernel) (by decide) ?_
          refine sX_istore (i := 7) (ls2 := [some (.ref v0), some (.int v1), some (.int v2), some (.int v3), some (.int v4), some (.int v5), some (.int v6), some (.int (0 : Int32)), none]) (by decide +kernel) (by decide) rfl ?_
          exact sX.le (xL56 v3 v4 v5 v6 ((0 : Int32)) M) (sLe_s (sLe_s (sLe_s (sLe_s (sLe_s (sLe_s (sLe_s (sLe_s (sLe_n sLe_e)))))))))
    exact fun a => xK38 a.1 a.2.1 a.2.2.1 a.2.2.2.1 a.2.2.2.2
  refine sX_rc ?_
  refine sX_aload_n (i := 0) (by decide +kernel) rfl ?_
  refine sX_iload_n (i := 1) (by decide +kernel) rfl ?_
  refine sX_callVp (As := [.int v1]) (by decide +kernel) lm_X12_591 mf_X12_isEra mi_X12_isEra mc_12 (m_X12_isEra G l v0 v1 M0) (fun _ h => sRc_some h) (by decide) rfl rfl (Nat.le_of_ble_eq_true rfl) (fun x5 => ?_)
  refine sX_ifeq (o := 15) (t := 20) (by decide +kernel) (by decide) (fun _ => ?_) (fun _ => ?_)
  · refine sX_iconst (n := -1) (v := (-1 : Int32)) (by decide +kernel) (by decide) ?_
    exact sX_some (fun h _ => sW_iret (by decide +kernel) rfl (hr _ h).1.symm (hr _ h).2.symm)
  · refine sX_iload_n (i := 2) (by decide +kernel) rfl ?_
    refine sX_i2l (by decide +kernel) ?_
    refine sX_lconst (n := 0) (v := (0 : Int64)) (by decide +kernel) (by decide) ?_
    refine sX_ldc2 (v := (2 : Int64)) (by decide +kernel) kl_X12_597 ?_
    refine sX_callSp (As := [.long v2.toInt64, .long (0 : Int64), .long (2 : Int64)]) (by decide +kernel) lm_X12_343 mf_X12_isIn ms_X12_isIn (m_X12_isIn G l v2.toInt64 ((0 : Int64)) ((2 : Int64)) M0) (by decide) rfl rfl (Nat.le_of_ble_eq_true rfl) (fun x6 => ?_)
    refine sX_ifne (o := 5) (t := 22) (by decide +kernel) (by decide) (fun _ => ?_) (fun _ => ?_)
    · refine sX_iconst (n := -1) (v := (-1 : Int32)) (by decide +kernel) (by decide) ?_
      exact sX_some (fun h _ => sW_iret (by decide +kernel) rfl (hr _ h).1.symm (hr _ h).2.symm)
    · refine sX_aload_n (i := 0) (by decide +kernel) rfl ?_
      refine sX_iload_n (i := 1) (by decide +kernel) rfl ?_
      refine sX_callVv (As := [.int v1]) (by decide +kernel) lm_X12_647 mf_X12_laysFits mi_X12_laysFits mc_12 (m_X12_laysFits G l v0 v1 M0) (fun _ h => sRc_some h) (by decide) rfl rfl (Nat.le_of_ble_eq_true rfl) (fun M7 => ?_)
      refine sX_iconst (n := -1) (v := (-1 : Int32)) (by decide +kernel) (by decide) ?_
      refine sX_istore_n (i := 3) (ls2 := [some (.ref v0), some (.int v1), some (.int v2), some (.int (-1 : Int32)), none, none, none, none, none]) (by decide +kernel) (by decide) rfl ?_
      refine sX_iconst (n := -1) (v := (-1 : Int32)) (by decide +kernel) (by decide) ?_
      refine sX_istore (i := 4) (ls2 := [some (.ref v0), some (.int v1), some (.int v2), some (.int (-1 : Int32)), some (.int (-1 : Int32)), none, none, none, none]) (by decide +kernel) (by decide) rfl ?_
      refine sX_iconst (n := 0) (v := (0 : Int32)) (by decide +kernel) (by decide) ?_
      refine sX_istore (i := 5) (ls2 := [some (.ref v0), some (.int v1), some (.int v2), some (.int (-1 : Int32)), some (.int (-1 : Int32)), some (.int (0 : Int32)), none, none, none]) (by decide +kernel) (by decide) rfl ?_
      refine sX_iconst (n := 0) (v := (0 : Int32)) (by decide +kernel) (by decide) ?_
      refine sX_istore (i := 6) (ls2 := [some (.ref v0), some (.int v1), some (.int v2), some (.int (-1 : Int32)), some (.int (-1 : Int32)), some (.int (0 : Int32)), some (.int (0 : Int32)), none, none]) (by decide +kernel) (by decide) rfl ?_
      exact sX.le (xL38 v0 v1 v2 ((-1 : Int32)) ((-1 : Int32)) ((0 : Int32)) ((0 : Int32)) M7) (sLe_s (sLe_s (sLe_s (sLe_s (sLe_s (sLe_s (sLe_s (sLe_n (sLe_n sLe_e)))))))))
def f_X12_keeps_B49 (v0 : Nat) (M : sMem) : Option sMem :=
  (gI 12 127 85 M v0).bind fun x1 =>
  if (20 : Int32) ≤ x1 then
    some M
  else
    (gI 12 127 85 M v0).bind fun x2 =>
    (pI 12 127 85 M v0 ((x2 + (1 : Int32)))).bind fun M3 =>
    some M3
def f_X12_keeps_K15 (v0 : Nat) (v1 : Int32) (M : sMem) : Option ((Int32 × sMem) ⊕ ((sMem))) :=
  if (148 : Int32) ≤ v1 then
    some (.inr M)
  else
    (gR 12 127 84 M v0).bind fun x4 =>
    (gI 12 127 86 M v0).bind fun x5 =>
    (gR 12 127 59 M v0).bind fun x6 =>
    (ldI 14 M x6 v1).bind fun x7 =>
    (stI M x4 ((((148 : Int32) * x5) + v1)) x7).bind fun M8 =>
    some (.inl ((((v1 + (1 : Int32))), M8)))
def f_X12_keeps_L15 (v0 : Nat) (v1 : Int32) (M : sMem) : Option sMem :=
  (sItr (fun a : (Int32 × sMem) => f_X12_keeps_K15 v0 a.1 a.2) sFuel (v1, M)).bind (fun b => f_X12_keeps_B49 v0 b)
def f_X12_keeps (v0 : Nat) (M0 : sMem) : Option sMem :=
  sRc 12 127 M0 v0 (
    (gI 12 127 86 M0 v0).bind fun x9 =>
    (pI 12 127 86 M0 v0 (((x9 + (1 : Int32)) - (x9 + (1 : Int32)) / (20 : Int32) * (20 : Int32)))).bind fun M10 =>
    f_X12_keeps_L15 v0 ((0 : Int32)) M10)
set_option maxRecDepth 100000 in
set_option maxHeartbeats 4000000 in
theorem m_X12_keeps (G : sG) (l : Launch) (v0 : Nat) (M0 : sMem) : sCv G l 1 yX12_keeps cX12_keeps 2 none [.ref v0] M0 (f_X12_keeps v0 M0) := by
  refine sC_v (ls := [some (.ref v0), none]) (by decide +kernel) rfl (Nat.le_of_ble_eq_true rfl) (fun r M' K hr => ?_)
  unfold f_X12_keeps
  have xB49 : ∀ (v0 : Nat) (M : sMem), sX G l 1 yX12_keeps cX12_keeps 2 none M0 r M' 49 [some (.ref v0), none] [] M (f_X12_keeps_B49 v0 M) K := by
    intro v0 M
    unfold f_X12_keeps_B49
    refine sX_aload_n (i := 0) (by decide +kernel) rfl ?_
    refine sX_getI lf_X12_454 tk_12_85 (by decide +kernel) (fun x1 => ?_)
    refine sX_bipush (n := 20) (v := (20 : Int32)) (by decide +kernel) (by decide) ?_
    refine sX_icge (o := 13) (t := 68) (by decide +kernel) (by decide) (fun _ => ?_) (fun _ => ?_)
    · exact sX_some (fun h _ => sW_vret (by decide +kernel) rfl (hr _ h).1.symm (hr _ h).2.symm)
    · refine sX_aload_n (i := 0) (by decide +kernel) rfl ?_
      refine sX_dup (by decide +kernel) rfl ?_
      refine sX_getI lf_X12_454 tk_12_85 (by decide +kernel) (fun x2 => ?_)
      refine sX_iconst (n := 1) (v := (1 : Int32)) (by decide +kernel) (by decide) ?_
      refine sX_iadd (by decide +kernel) ?_
      refine sX_putI lf_X12_454 tp_12_85 (by decide +kernel) (by decide) (fun M3 => ?_)
      exact sX_some (fun h _ => sW_vret (by decide +kernel) rfl (hr _ h).1.symm (hr _ h).2.symm)
  have xL15 : ∀ (v0 : Nat) (v1 : Int32) (M : sMem), sX G l 1 yX12_keeps cX12_keeps 2 none M0 r M' 15 [some (.ref v0), some (.int v1)] [] M (f_X12_keeps_L15 v0 v1 M) K := by
    intro v0 v1 M
    unfold f_X12_keeps_L15
    refine sX_bind ?_
    refine sX_loop (LS := fun a : (Int32 × sMem) => [some (.ref v0), some (.int a.1)]) (MM := fun a => a.2) (fun K1 hb1 he1 => ?_) sFuel ((v1, M))
    have xK15 : ∀ (v1 : Int32) (M : sMem), sX G l 1 yX12_keeps cX12_keeps 2 none M0 r M' 15 [some (.ref v0), some (.int v1)] [] M (f_X12_keeps_K15 v0 v1 M) K1 := by
      intro v1 M
      unfold f_X12_keeps_K15
      refine sX_iload_n (i := 1) (by decide +kernel) rfl ?_
      refine sX_sipush (n := 148) (v := (148 : Int32)) (by decide +kernel) (by decide) ?_
      refine sX_icge (o := 30) (t := 49) (by decide +kernel) (by decide) (fun _ => ?_) (fun _ => ?_)
      · refine sX_exit he1 ?_
        exact sX.le (xB49 v0 M) (sLe_s (sLe_n sLe_e))
      · refine sX_aload_n (i := 0) (by decide +kernel) rfl ?_
        refine sX_getR lf_X12_197 tk_12_84 (by decide +kernel) (fun x4 => ?_)
        refine sX_sipush (n := 148) (v := (148 : Int32)) (by decide +kernel) (by decide) ?_
        refine sX_aload_n (i := 0) (by decide +kernel) rfl ?_
        refine sX_getI lf_X12_653 tk_12_86 (by decide +kernel) (fun x5 => ?_)
        refine sX_imul (by decide +kernel) ?_
        refine sX_iload_n (i := 1) (by decide +kernel) rfl ?_
        refine sX_iadd (by decide +kernel) ?_
        refine sX_aload_n (i := 0) (by decide +kernel) rfl ?_
        refine sX_getR lf_X12_151 tk_12_59 (by decide +kernel) (fun x6 => ?_)
        refine sX_iload_n (i := 1) (by decide +kernel) rfl ?_
        refine sX_iaload (by decide +kernel) (fun x7 => ?_)
        refine sX_iastore (by decide +kernel) (by decide) (fun M8 => ?_)
        refine sX_iinc (i := 1) (n := 1) (v := v1 + (1 : Int32)) (ls2 := [some (.ref v0), some (.int (v1 + (1 : Int32)))]) (by decide +kernel) rfl rfl (by decide) rfl ?_
        refine sX_goto (o := -31) (t := 15) (by decide +kernel) (by decide) ?_
        exact sX_back (a := (((v1 + (1 : Int32))), M8)) hb1 rfl (sLe_s (sLe_s sLe_e))
    exact fun a => xK15 a.1 a.2
  refine sX_rc ?_
  refine sX_aload_n (i := 0) (by decide +kernel) rfl ?_
  refine sX_aload_n (i := 0) (by decide +kernel) rfl ?_
  refine sX_getI lf_X12_653 tk_12_86 (by decide +kernel) (fun x9 => ?_)
  refine sX_iconst (n := 1) (v := (1 : Int32)) (by decide +kernel) (by decide) ?_
  refine sX_iadd (by decide +kernel) ?_
  refine sX_bipush (n := 20) (v := (20 : Int32)) (by decide +kernel) (by decide) ?_
  refine sX_irem (by decide +kernel) (by decide) ?_
  refine sX_putI lf_X12_653 tp_12_86 (by decide +kernel) (by decide) (fun M10 => ?_)
  refine sX_iconst (n := 0) (v := (0 : Int32)) (by decide +kernel) (by decide) ?_
  refine sX_istore_n (i := 1) (ls2 := [some (.ref v0), some (.int (0 : Int32))]) (by decide +kernel) (by decide) rfl ?_
  exact sX.le (xL15 v0 ((0 : Int32)) M10) (sLe_s (sLe_s sLe_e))
def f_X12_undo_B55 (v0 : Nat) (M : sMem) : Option (Int32 × sMem) :=
  (gI 12 127 86 M v0).bind fun x1 =>
  (pI 12 127 86 M v0 ((((x1 + (20 : Int32)) - (1 : Int32)) - ((x1 + (20 : Int32)) - (1 : Int32)) / (20 : Int32) * (20 : Int32)))).bind fun M2 =>
  (gI 12 127 85 M2 v0).bind fun x3 =>
  (pI 12 127 85 M2 v0 ((x3 - (1 : Int32)))).bind fun M4 =>
  some (((1 : Int32), M4))
def f_X12_undo_K21 (v0 : Nat) (v1 : Int32) (M : sMem) : Option ((Int32 × sMem) ⊕ ((sMem))) :=
  if (148 : Int32) ≤ v1 then
    some (.inr M)
  else
    (gR 12 127 59 M v0).bind fun x5 =>
    (gR 12 127 84 M v0).bind fun x6 =>
    (gI 12 127 86 M v0).bind fun x7 =>
    (ldI 14 M x6 ((((148 : Int32) * x7) + v1))).bind fun x8 =>
    (stI M x5 v1 x8).bind fun M9 =>
    some (.inl ((((v1 + (1 : Int32))), M9)))
def f_X12_undo_L21 (v0 : Nat) (v1 : Int32) (M : sMem) : Option (Int32 × sMem) :=
  (sItr (fun a : (Int32 × sMem) => f_X12_undo_K21 v0 a.1 a.2) sFuel (v1, M)).bind (fun b => f_X12_undo_B55 v0 b)
def f_X12_undo (v0 : Nat) (M0 : sMem) : Option (Int32 × sMem) :=
  sRc 12 127 M0 v0 (
    (gI 12 127 85 M0 v0).bind fun x10 =>
    if x10 = 0 then
      (gR 12 127 9 M0 v0).bind fun x11 =>
      (ldI 14 M0 x11 ((4 : Int32))).bind fun x12 =>
      (stI M0 x11 ((4 : Int32)) ((x12 + (1 : Int32)))).bind fun M13 =>
      some (((0 : Int32), M13))
    else
      f_X12_undo_L21 v0 ((0 : Int32)) M0)
set_option maxRecDepth 100000 in
set_option maxHeartbeats 4000000 in
theorem m_X12_undo (G : sG) (l : Launch) (v0 : Nat) (M0 : sMem) : sC G l 1 yX12_undo cX12_undo 2 (some .boolean) [.ref v0] M0 rvI (f_X12_undo v0 M0) := by
  refine sC_m (ls := [some (.ref v0), none]) (by decide +kernel) rfl (Nat.le_of_ble_eq_true rfl) (fun r M' K hr => ?_)
  unfold f_X12_undo
  have xB55 : ∀ (v0 : Nat) (M : sMem), sX G l 1 yX12_undo cX12_undo 2 (some .boolean) M0 r M' 55 [some (.ref v0), none] [] M (f_X12_undo_B55 v0 M) K := by
    intro v0 M
    unfold f_X12_undo_B55
    refine sX_aload_n (i := 0) (by decide +kernel) rfl ?_
    refine sX_aload_n (i := 0) (by decide +kernel) rfl ?_
    refine sX_getI lf_X12_653 tk_12_86 (by decide +kernel) (fun x1 => ?_)
    refine sX_bipush (n := 20) (v := (20 : Int32)) (by decide +kernel) (by decide) ?_
    refine sX_iadd (by decide +kernel) ?_
    refine sX_iconst (n := 1) (v := (1 : Int32)) (by decide +kernel) (by decide) ?_
    refine sX_isub (by decide +kernel) ?_
    refine sX_bipush (n := 20) (v := (20 : Int32)) (by decide +kernel) (by decide) ?_
    refine sX_irem (by decide +kernel) (by decide) ?_
    refine sX_putI lf_X12_653 tp_12_86 (by decide +kernel) (by decide) (fun M2 => ?_)
    refine sX_aload_n (i := 0) (by decide +kernel) rfl ?_
    refine sX_dup (by decide +kernel) rfl ?_
    refine sX_getI lf_X12_454 tk_12_85 (by decide +kernel) (fun x3 => ?_)
    refine sX_iconst (n := 1) (v := (1 : Int32)) (by decide +kernel) (by decide) ?_
    refine sX_isub (by decide +kernel) ?_
    refine sX_putI lf_X12_454 tp_12_85 (by decide +kernel) (by decide) (fun M4 => ?_)
    refine sX_iconst (n := 1) (v := (1 : Int32)) (by decide +kernel) (by decide) ?_
    exact sX_some (fun h _ => sW_zret (by decide +kernel) rfl (by decide) (hr _ h).1.symm (hr _ h).2.symm)
  have xL21 : ∀ (v0 : Nat) (v1 : Int32) (M : sMem), sX G l 1 yX12_undo cX12_undo 2 (some .boolean) M0 r M' 21 [some (.ref v0), some (.int v1)] [] M (f_X12_undo_L21 v0 v1 M) K := by
    intro v0 v1 M
    unfold f_X12_undo_L21
    refine sX_bind ?_
    refine sX_loop (LS := fun a : (Int32 × sMem) => [some (.ref v0), some (.int a.1)]) (MM := fun a => a.2) (fun K1 hb1 he1 => ?_) sFuel ((v1, M))
    have xK21 : ∀ (v1 : Int32) (M : sMem), sX G l 1 yX12_undo cX12_undo 2 (some .boolean) M0 r M' 21 [some (.ref v0), some (.int v1)] [] M (f_X12_undo_K21 v0 v1 M) K1 := by
      intro v1 M
      unfold f_X12_undo_K21
      refine sX_iload_n (i := 1) (by decide +kernel) rfl ?_
      refine sX_sipush (n := 148) (v := (148 : Int32)) (by decide +kernel) (by decide) ?_
      refine sX_icge (o := 30) (t := 55) (by decide +kernel) (by decide) (fun _ => ?_) (fun _ => ?_)
      · refine sX_exit he1 ?_
        exact sX.le (xB55 v0 M) (sLe_s (sLe_n sLe_e))
      · refine sX_aload_n (i := 0) (by decide +kernel) rfl ?_
        refine sX_getR lf_X12_151 tk_12_59 (by decide +kernel) (fun x5 => ?_)
        refine sX_iload_n (i := 1) (by decide +kernel) rfl ?_
        refine sX_aload_n (i := 0) (by decide +kernel) rfl ?_
        refine sX_getR lf_X12_197 tk_12_84 (by decide +kernel) (fun x6 => ?_)
        refine sX_sipush (n := 148) (v := (148 : Int32)) (by decide +kernel) (by decide) ?_
        refine sX_aload_n (i := 0) (by decide +kernel) rfl ?_
        refine sX_getI lf_X12_653 tk_12_86 (by decide +kernel) (fun x7 => ?_)
        refine sX_imul (by decide +kernel) ?_
        refine sX_iload_n (i := 1) (by decide +kernel) rfl ?_
        refine sX_iadd (by decide +kernel) ?_
        refine sX_iaload (by decide +kernel) (fun x8 => ?_)
        refine sX_iastore (by decide +kernel) (by decide) (fun M9 => ?_)
        refine sX_iinc (i := 1) (n := 1) (v := v1 + (1 : Int32)) (ls2 := [some (.ref v0), some (.int (v1 + (1 : Int32)))]) (by decide +kernel) rfl rfl (by decide) rfl ?_
        refine sX_goto (o := -31) (t := 21) (by decide +kernel) (by decide) ?_
        exact sX_back (a := (((v1 + (1 : Int32))), M9)) hb1 rfl (sLe_s (sLe_s sLe_e))
    exact fun a => xK21 a.1 a.2
  refine sX_rc ?_
  refine sX_aload_n (i := 0) (by decide +kernel) rfl ?_
  refine sX_getI lf_X12_454 tk_12_85 (by decide +kernel) (fun x10 => ?_)
  refine sX_ifne (o := 15) (t := 19) (by decide +kernel) (by decide) (fun _ => ?_) (fun _ => ?_)
  · refine sX_aload_n (i := 0) (by decide +kernel) rfl ?_
    refine sX_getR lf_X12_17 tk_12_9 (by decide +kernel) (fun x11 => ?_)
    refine sX_iconst (n := 4) (v := (4 : Int32)) (by decide +kernel) (by decide) ?_
    refine sX_dup2 (by decide +kernel) rfl rfl ?_
    refine sX_iaload (by decide +kernel) (fun x12 => ?_)
    refine sX_iconst (n := 1) (v := (1 : Int32)) (by decide +kernel) (by decide) ?_
    refine sX_iadd (by decide +kernel) ?_
    refine sX_iastore (by decide +kernel) (by decide) (fun M13 => ?_)
    refine sX_iconst (n := 0) (v := (0 : Int32)) (by decide +kernel) (by decide) ?_
    exact sX_some (fun h _ => sW_zret (by decide +kernel) rfl (by decide) (hr _ h).1.symm (hr _ h).2.symm)
  · refine sX_iconst (n := 0) (v := (0 : Int32)) (by decide +kernel) (by decide) ?_
    refine sX_istore_n (i := 1) (ls2 := [some (.ref v0), some (.int (0 : Int32))]) (by decide +kernel) (by decide) rfl ?_
    exact sX.le (xL21 v0 ((0 : Int32)) M0) (sLe_s (sLe_s sLe_e))
def f_X12_isRefused (v0 : Nat) (M0 : sMem) : Option (Int32 × sMem) :=
  sRc 12 127 M0 v0 (
    (gR 12 127 9 M0 v0).bind fun x1 =>
    (ldI 14 M0 x1 ((2 : Int32))).bind fun x2 =>
    (stI M0 x1 ((2 : Int32)) ((x2 + (1 : Int32)))).bind fun M3 =>
    some (((0 : Int32), M3)))
set_option maxRecDepth 100000 in
set_option maxHeartbeats 4000000 in
theorem m_X12_isRefused (G : sG) (l : Launch) (v0 : Nat) (M0 : sMem) : sC G l 1 yX12_isRefused cX12_isRefused 1 (some .boolean) [.ref v0] M0 rvI (f_X12_isRefused v0 M0) := by
  refine sC_m (ls := [some (.ref v0)]) (by decide +kernel) rfl (Nat.le_of_ble_eq_true rfl) (fun r M' K hr => ?_)
  unfold f_X12_isRefused
  refine sX_rc ?_
  refine sX_aload_n (i := 0) (by decide +kernel) rfl ?_
  refine sX_getR lf_X12_17 tk_12_9 (by decide +kernel) (fun x1 => ?_)
  refine sX_iconst (n := 2) (v := (2 : Int32)) (by decide +kernel) (by decide) ?_
  refine sX_dup2 (by decide +kernel) rfl rfl ?_
  refine sX_iaload (by decide +kernel) (fun x2 => ?_)
  refine sX_iconst (n := 1) (v := (1 : Int32)) (by decide +kernel) (by decide) ?_
  refine sX_iadd (by decide +kernel) ?_
  refine sX_iastore (by decide +kernel) (by decide) (fun M3 => ?_)
  refine sX_iconst (n := 0) (v := (0 : Int32)) (by decide +kernel) (by decide) ?_
  exact sX_some (fun h _ => sW_zret (by decide +kernel) rfl (by decide) (hr _ h).1.symm (hr _ h).2.symm)
def f_X12_put_B31 (v0 : Nat) (M : sMem) : Option (Int32 × sMem) :=
  (f_X12_isRefused v0 M).bind fun (x1, M2) =>
  if x1 = 0 ∨ x1 = 1 then some ((x1, M2)) else none
def f_X12_put (v0 : Nat) (v1 : Int32) (v2 : Int32) (M0 : sMem) : Option (Int32 × sMem) :=
  sRc 12 127 M0 v0 (
    (f_X12_isGate v0 v1.toInt64 M0).bind fun x3 =>
    if x3 = 0 then
      f_X12_put_B31 v0 M0
    else
      (f_X12_isIn v2.toInt64 ((0 : Int64)) ((1 : Int64)) M0).bind fun x4 =>
      if x4 = 0 then
        f_X12_put_B31 v0 M0
      else
        (gR 12 127 59 M0 v0).bind fun x5 =>
        (ldI 14 M0 x5 (((1 : Int32) + v1))).bind fun x6 =>
        if x6 = v2 then
          f_X12_put_B31 v0 M0
        else
          (f_X12_keeps v0 M0).bind fun M7 =>
          (gR 12 127 59 M7 v0).bind fun x8 =>
          (stI M7 x8 (((1 : Int32) + v1)) v2).bind fun M9 =>
          some (((1 : Int32), M9)))
set_option maxRecDepth 100000 in
set_option maxHeartbeats 4000000 in
theorem m_X12_put (G : sG) (l : Launch) (v0 : Nat) (v1 : Int32) (v2 : Int32) (M0 : sMem) : sC G l 3 yX12_put cX12_put 3 (some .boolean) [.ref v0, .int v1, .int v2] M0 rvI (f_X12_put v0 v1 v2 M0) := by
  refine sC_m (ls := [some (.ref v0), some (.int v1), some (.int v2)]) (by decide +kernel) rfl (Nat.le_of_ble_eq_true rfl) (fun r M' K hr => ?_)
  unfold f_X12_put
  have xB31 : ∀ (v0 : Nat) (M : sMem), sX G l 3 yX12_put cX12_put 3 (some .boolean) M0 r M' 31 [some (.ref v0), none, none] [] M (f_X12_put_B31 v0 M) K := by
    intro v0 M
    unfold f_X12_put_B31
    refine sX_aload_n (i := 0) (by decide +kernel) rfl ?_
    refine sX_callV (As := []) (by decide +kernel) lm_X12_656 mf_X12_isRefused mi_X12_isRefused mc_12 (m_X12_isRefused G l v0 M) (fun _ h => sRc_some h) (by decide) rfl rfl (Nat.le_of_ble_eq_true rfl) (fun x1 M2 _ => ?_)
    refine sX_g (fun hz => ?_)
    exact sX_some (fun h _ => sW_zret (by decide +kernel) rfl (nar_bool hz).1 (hr _ h).1.symm (hr _ h).2.symm)
  refine sX_rc ?_
  refine sX_aload_n (i := 0) (by decide +kernel) rfl ?_
  refine sX_iload_n (i := 1) (by decide +kernel) rfl ?_
  refine sX_i2l (by decide +kernel) ?_
  refine sX_callVp (As := [.long v1.toInt64]) (by decide +kernel) lm_X12_587 mf_X12_isGate mi_X12_isGate mc_12 (m_X12_isGate G l v0 v1.toInt64 M0) (fun _ h => sRc_some h) (by decide) rfl rfl (Nat.le_of_ble_eq_true rfl) (fun x3 => ?_)
  refine sX_ifeq (o := 25) (t := 31) (by decide +kernel) (by decide) (fun _ => ?_) (fun _ => ?_)
  · exact sX.le (xB31 v0 M0) (sLe_s (sLe_n (sLe_n sLe_e)))
  · refine sX_iload_n (i := 2) (by decide +kernel) rfl ?_
    refine sX_i2l (by decide +kernel) ?_
    refine sX_lconst (n := 0) (v := (0 : Int64)) (by decide +kernel) (by decide) ?_
    refine sX_lconst (n := 1) (v := (1 : Int64)) (by decide +kernel) (by decide) ?_
    refine sX_callSp (As := [.long v2.toInt64, .long (0 : Int64), .long (1 : Int64)]) (by decide +kernel) lm_X12_343 mf_X12_isIn ms_X12_isIn (m_X12_isIn G l v2.toInt64 ((0 : Int64)) ((1 : Int64)) M0) (by decide) rfl rfl (Nat.le_of_ble_eq_true rfl) (fun x4 => ?_)
    refine sX_ifeq (o := 15) (t := 31) (by decide +kernel) (by decide) (fun _ => ?_) (fun _ => ?_)
    · exact sX.le (xB31 v0 M0) (sLe_s (sLe_n (sLe_n sLe_e)))
    · refine sX_aload_n (i := 0) (by decide +kernel) rfl ?_
      refine sX_getR lf_X12_151 tk_12_59 (by decide +kernel) (fun x5 => ?_)
      refine sX_iconst (n := 1) (v := (1 : Int32)) (by decide +kernel) (by decide) ?_
      refine sX_iload_n (i := 1) (by decide +kernel) rfl ?_
      refine sX_iadd (by decide +kernel) ?_
      refine sX_iaload (by decide +kernel) (fun x6 => ?_)
      refine sX_iload_n (i := 2) (by decide +kernel) rfl ?_
      refine sX_icne (o := 8) (t := 36) (by decide +kernel) (by decide) (fun _ => ?_) (fun _ => ?_)
      · exact sX.le (xB31 v0 M0) (sLe_s (sLe_n (sLe_n sLe_e)))
      · refine sX_aload_n (i := 0) (by decide +kernel) rfl ?_
        refine sX_callVv (As := []) (by decide +kernel) lm_X12_659 mf_X12_keeps mi_X12_keeps mc_12 (m_X12_keeps G l v0 M0) (fun _ h => sRc_some h) (by decide) rfl rfl (Nat.le_of_ble_eq_true rfl) (fun M7 => ?_)
        refine sX_aload_n (i := 0) (by decide +kernel) rfl ?_
        refine sX_getR lf_X12_151 tk_12_59 (by decide +kernel) (fun x8 => ?_)
        refine sX_iconst (n := 1) (v := (1 : Int32)) (by decide +kernel) (by decide) ?_
        refine sX_iload_n (i := 1) (by decide +kernel) rfl ?_
        refine sX_iadd (by decide +kernel) ?_
        refine sX_iload_n (i := 2) (by decide +kernel) rfl ?_
        refine sX_iastore (by decide +kernel) (by decide) (fun M9 => ?_)
        refine sX_iconst (n := 1) (v := (1 : Int32)) (by decide +kernel) (by decide) ?_
        exact sX_some (fun h _ => sW_zret (by decide +kernel) rfl (by decide) (hr _ h).1.symm (hr _ h).2.symm)
def f_X12_hold_B29 (v0 : Nat) (M : sMem) : Option (Int32 × sMem) :=
  (f_X12_isRefused v0 M).bind fun (x1, M2) =>
  if x1 = 0 ∨ x1 = 1 then some ((x1, M2)) else none
def f_X12_hold (v0 : Nat) (v1 : Int32) (v2 : Int32) (M0 : sMem) : Option (Int32 × sMem) :=
  sRc 12 127 M0 v0 (
    (f_X12_isEra v0 v1 M0).bind fun x3 =>
    if x3 = 0 then
      f_X12_hold_B29 v0 M0
    else
      (f_X12_isIn v2.toInt64 ((0 : Int64)) ((99 : Int64)) M0).bind fun x4 =>
      if x4 = 0 then
        f_X12_hold_B29 v0 M0
      else
        (f_X12_lateOf v0 v1 M0).bind fun x5 =>
        if x5 = v2 then
          f_X12_hold_B29 v0 M0
        else
          (f_X12_keeps v0 M0).bind fun M6 =>
          (gR 12 127 59 M6 v0).bind fun x7 =>
          (stI M6 x7 (((7 : Int32) + v1)) v2).bind fun M8 =>
          some (((1 : Int32), M8)))
set_option maxRecDepth 100000 in
set_option maxHeartbeats 4000000 in
theorem m_X12_hold (G : sG) (l : Launch) (v0 : Nat) (v1 : Int32) (v2 : Int32) (M0 : sMem) : sC G l 3 yX12_hold cX12_hold 3 (some .boolean) [.ref v0, .int v1, .int v2] M0 rvI (f_X12_hold v0 v1 v2 M0) := by
  refine sC_m (ls := [some (.ref v0), some (.int v1), some (.int v2)]) (by decide +kernel) rfl (Nat.le_of_ble_eq_true rfl) (fun r M' K hr => ?_)
  unfold f_X12_hold
  have xB29 : ∀ (v0 : Nat) (M : sMem), sX G l 3 yX12_hold cX12_hold 3 (some .boolean) M0 r M' 29 [some (.ref v0), none, none] [] M (f_X12_hold_B29 v0 M) K := by
    intro v0 M
    unfold f_X12_hold_B29
    refine sX_aload_n (i := 0) (by decide +kernel) rfl ?_
    refine sX_callV (As := []) (by decide +kernel) lm_X12_656 mf_X12_isRefused mi_X12_isRefused mc_12 (m_X12_isRefused G l v0 M) (fun _ h => sRc_some h) (by decide) rfl rfl (Nat.le_of_ble_eq_true rfl) (fun x1 M2 _ => ?_)
    refine sX_g (fun hz => ?_)
    exact sX_some (fun h _ => sW_zret (by decide +kernel) rfl (nar_bool hz).1 (hr _ h).1.symm (hr _ h).2.symm)
  refine sX_rc ?_
  refine sX_aload_n (i := 0) (by decide +kernel) rfl ?_
  refine sX_iload_n (i := 1) (by decide +kernel) rfl ?_
  refine sX_callVp (As := [.int v1]) (by decide +kernel) lm_X12_591 mf_X12_isEra mi_X12_isEra mc_12 (m_X12_isEra G l v0 v1 M0) (fun _ h => sRc_some h) (by decide) rfl rfl (Nat.le_of_ble_eq_true rfl) (fun x3 => ?_)
  refine sX_ifeq (o := 24) (t := 29) (by decide +kernel) (by decide) (fun _ => ?_) (fun _ => ?_)
  · exact sX.le (xB29 v0 M0) (sLe_s (sLe_n (sLe_n sLe_e)))
  · refine sX_iload_n (i := 2) (by decide +kernel) rfl ?_
    refine sX_i2l (by decide +kernel) ?_
    refine sX_lconst (n := 0) (v := (0 : Int64)) (by decide +kernel) (by decide) ?_
    refine sX_ldc2 (v := (99 : Int64)) (by decide +kernel) kl_X12_662 ?_
    refine sX_callSp (As := [.long v2.toInt64, .long (0 : Int64), .long (99 : Int64)]) (by decide +kernel) lm_X12_343 mf_X12_isIn ms_X12_isIn (m_X12_isIn G l v2.toInt64 ((0 : Int64)) ((99 : Int64)) M0) (by decide) rfl rfl (Nat.le_of_ble_eq_true rfl) (fun x4 => ?_)
    refine sX_ifeq (o := 12) (t := 29) (by decide +kernel) (by decide) (fun _ => ?_) (fun _ => ?_)
    · exact sX.le (xB29 v0 M0) (sLe_s (sLe_n (sLe_n sLe_e)))
    · refine sX_aload_n (i := 0) (by decide +kernel) rfl ?_
      refine sX_iload_n (i := 1) (by decide +kernel) rfl ?_
      refine sX_callVp (As := [.int v1]) (by decide +kernel) lm_X12_515 mf_X12_lateOf mi_X12_lateOf mc_12 (m_X12_lateOf G l v0 v1 M0) (fun _ h => sRc_some h) (by decide) rfl rfl (Nat.le_of_ble_eq_true rfl) (fun x5 => ?_)
      refine sX_iload_n (i := 2) (by decide +kernel) rfl ?_
      refine sX_icne (o := 8) (t := 34) (by decide +kernel) (by decide) (fun _ => ?_) (fun _ => ?_)
      · exact sX.le (xB29 v0 M0) (sLe_s (sLe_n (sLe_n sLe_e)))
      · refine sX_aload_n (i := 0) (by decide +kernel) rfl ?_
        refine sX_callVv (As := []) (by decide +kernel) lm_X12_659 mf_X12_keeps mi_X12_keeps mc_12 (m_X12_keeps G l v0 M0) (fun _ h => sRc_some h) (by decide) rfl rfl (Nat.le_of_ble_eq_true rfl) (fun M6 => ?_)
        refine sX_aload_n (i := 0) (by decide +kernel) rfl ?_
        refine sX_getR lf_X12_151 tk_12_59 (by decide +kernel) (fun x7 => ?_)
        refine sX_bipush (n := 7) (v := (7 : Int32)) (by decide +kernel) (by decide) ?_
        refine sX_iload_n (i := 1) (by decide +kernel) rfl ?_
        refine sX_iadd (by decide +kernel) ?_
        refine sX_iload_n (i := 2) (by decide +kernel) rfl ?_
        refine sX_iastore (by decide +kernel) (by decide) (fun M8 => ?_)
        refine sX_iconst (n := 1) (v := (1 : Int32)) (by decide +kernel) (by decide) ?_
        exact sX_some (fun h _ => sW_zret (by decide +kernel) rfl (by decide) (hr _ h).1.symm (hr _ h).2.symm)
def f_X12_send_B35 (v0 : Nat) (M : sMem) : Option (Int32 × sMem) :=
  (f_X12_isRefused v0 M).bind fun (x1, M2) =>
  if x1 = 0 ∨ x1 = 1 then some ((x1, M2)) else none
def f_X12_send (v0 : Nat) (v1 : Int32) (v2 : Int32) (M0 : sMem) : Option (Int32 × sMem) :=
  sRc 12 127 M0 v0 (
    (f_X12_isCar v0 v1 M0).bind fun x3 =>
    if x3 = 0 then
      f_X12_send_B35 v0 M0
    else
      (f_X12_isPlace v0 v2.toInt64 M0).bind fun x4 =>
      if x4 = 0 then
        f_X12_send_B35 v0 M0
      else
        (f_X12_placeOf v0 v1 M0).bind fun x5 =>
        if x5 = v2 then
          f_X12_send_B35 v0 M0
        else
          (f_X12_goalOf v0 v1 M0).bind fun x6 =>
          if x6 = v2 then
            f_X12_send_B35 v0 M0
          else
            (f_X12_keeps v0 M0).bind fun M7 =>
            (gR 12 127 59 M7 v0).bind fun x8 =>
            (stI M7 x8 (((13 : Int32) + ((3 : Int32) * v1))) v2).bind fun M9 =>
            some (((1 : Int32), M9)))
set_option maxRecDepth 100000 in
set_option maxHeartbeats 4000000 in
theorem m_X12_send (G : sG) (l : Launch) (v0 : Nat) (v1 : Int32) (v2 : Int32) (M0 : sMem) : sC G l 3 yX12_send cX12_send 3 (some .boolean) [.ref v0, .int v1, .int v2] M0 rvI (f_X12_send v0 v1 v2 M0) := by
  refine sC_m (ls := [some (.ref v0), some (.int v1), some (.int v2)]) (by decide +kernel) rfl (Nat.le_of_ble_eq_true rfl) (fun r M' K hr => ?_)
  unfold f_X12_send
  have xB35 : ∀ (v0 : Nat) (M : sMem), sX G l 3 yX12_send cX12_send 3 (some .boolean) M0 r M' 35 [some (.ref v0), none, none] [] M (f_X12_send_B35 v0 M) K := by
    intro v0 M
    unfold f_X12_send_B35
    refine sX_aload_n (i := 0) (by decide +kernel) rfl ?_
    refine sX_callV (As := []) (by decide +kernel) lm_X12_656 mf_X12_isRefused mi_X12_isRefused mc_12 (m_X12_isRefused G l v0 M) (fun _ h => sRc_some h) (by decide) rfl rfl (Nat.le_of_ble_eq_true rfl) (fun x1 M2 _ => ?_)
    refine sX_g (fun hz => ?_)
    exact sX_some (fun h _ => sW_zret (by decide +kernel) rfl (nar_bool hz).1 (hr _ h).1.symm (hr _ h).2.symm)
  refine sX_rc ?_
  refine sX_aload_n (i := 0) (by decide +kernel) rfl ?_
  refine sX_iload_n (i := 1) (by decide +kernel) rfl ?_
  refine sX_callVp (As := [.int v1]) (by decide +kernel) lm_X12_594 mf_X12_isCar mi_X12_isCar mc_12 (m_X12_isCar G l v0 v1 M0) (fun _ h => sRc_some h) (by decide) rfl rfl (Nat.le_of_ble_eq_true rfl) (fun x3 => ?_)
  refine sX_ifeq (o := 30) (t := 35) (by decide +kernel) (by decide) (fun _ => ?_) (fun _ => ?_)
  · exact sX.le (xB35 v0 M0) (sLe_s (sLe_n (sLe_n sLe_e)))
  · refine sX_aload_n (i := 0) (by decide +kernel) rfl ?_
    refine sX_iload_n (i := 2) (by decide +kernel) rfl ?_
    refine sX_i2l (by decide +kernel) ?_
    refine sX_callVp (As := [.long v2.toInt64]) (by decide +kernel) lm_X12_608 mf_X12_isPlace mi_X12_isPlace mc_12 (m_X12_isPlace G l v0 v2.toInt64 M0) (fun _ h => sRc_some h) (by decide) rfl rfl (Nat.le_of_ble_eq_true rfl) (fun x4 => ?_)
    refine sX_ifeq (o := 21) (t := 35) (by decide +kernel) (by decide) (fun _ => ?_) (fun _ => ?_)
    · exact sX.le (xB35 v0 M0) (sLe_s (sLe_n (sLe_n sLe_e)))
    · refine sX_aload_n (i := 0) (by decide +kernel) rfl ?_
      refine sX_iload_n (i := 1) (by decide +kernel) rfl ?_
      refine sX_callVp (As := [.int v1]) (by decide +kernel) lm_X12_535 mf_X12_placeOf mi_X12_placeOf mc_12 (m_X12_placeOf G l v0 v1 M0) (fun _ h => sRc_some h) (by decide) rfl rfl (Nat.le_of_ble_eq_true rfl) (fun x5 => ?_)
      refine sX_iload_n (i := 2) (by decide +kernel) rfl ?_
      refine sX_iceq (o := 12) (t := 35) (by decide +kernel) (by decide) (fun _ => ?_) (fun _ => ?_)
      · exact sX.le (xB35 v0 M0) (sLe_s (sLe_n (sLe_n sLe_e)))
      · refine sX_aload_n (i := 0) (by decide +kernel) rfl ?_
        refine sX_iload_n (i := 1) (by decide +kernel) rfl ?_
        refine sX_callVp (As := [.int v1]) (by decide +kernel) lm_X12_538 mf_X12_goalOf mi_X12_goalOf mc_12 (m_X12_goalOf G l v0 v1 M0) (fun _ h => sRc_some h) (by decide) rfl rfl (Nat.le_of_ble_eq_true rfl) (fun x6 => ?_)
        refine sX_iload_n (i := 2) (by decide +kernel) rfl ?_
        refine sX_icne (o := 8) (t := 40) (by decide +kernel) (by decide) (fun _ => ?_) (fun _ => ?_)
        · exact sX.le (xB35 v0 M0) (sLe_s (sLe_n (sLe_n sLe_e)))
        · refine sX_aload_n (i := 0) (by decide +kernel) rfl ?_
          refine sX_callVv (As := []) (by decide +kernel) lm_X12_659 mf_X12_keeps mi_X12_keeps mc_12 (m_X12_keeps G l v0 M0) (fun _ h => sRc_some h) (by decide) rfl rfl (Nat.le_of_ble_eq_true rfl) (fun M7 => ?_)
          refine sX_aload_n (i := 0) (by decide +kernel) rfl ?_
          refine sX_getR lf_X12_151 tk_12_59 (by decide +kernel) (fun x8 => ?_)
          refine sX_bipush (n := 13) (v := (13 : Int32)) (by decide +kernel) (by decide) ?_
          refine sX_iconst (n := 3) (v := (3 : Int32)) (by decide +kernel) (by decide) ?_
          refine sX_iload_n (i := 1) (by decide +kernel) rfl ?_
          refine sX_imul (by decide +kernel) ?_
          refine sX_iadd (by decide +kernel) ?_
          refine sX_iload_n (i := 2) (by decide +kernel) rfl ?_
          refine sX_iastore (by decide +kernel) (by decide) (fun M9 => ?_)
          refine sX_iconst (n := 1) (v := (1 : Int32)) (by decide +kernel) (by decide) ?_
          exact sX_some (fun h _ => sW_zret (by decide +kernel) rfl (by decide) (hr _ h).1.symm (hr _ h).2.symm)
def f_X12_days (v0 : Nat) (v1 : Int32) (M0 : sMem) : Option (Int32 × sMem) :=
  sRc 12 127 M0 v0 (
    (f_X12_isAhead v0 v1 ((1 : Int32)) ((40 : Int32)) M0).bind fun x1 =>
    if x1 = 0 then
      (f_X12_refuses v0 ((3 : Int32)) M0).bind fun (x2, M3) =>
      some ((x2, M3))
    else
      (f_X12_keeps v0 M0).bind fun M4 =>
      (pI 12 127 71 M4 v0 ((0 : Int32))).bind fun M5 =>
      (f_X12_daysGo v0 v1 M5).bind fun M6 =>
      (gI 12 127 71 M6 v0).bind fun x7 =>
      some ((x7, M6)))
set_option maxRecDepth 100000 in
set_option maxHeartbeats 4000000 in
theorem m_X12_days (G : sG) (l : Launch) (v0 : Nat) (v1 : Int32) (M0 : sMem) : sC G l 9 yX12_days cX12_days 2 (some .int) [.ref v0, .int v1] M0 rvI (f_X12_days v0 v1 M0) := by
  refine sC_m (ls := [some (.ref v0), some (.int v1)]) (by decide +kernel) rfl (Nat.le_of_ble_eq_true rfl) (fun r M' K hr => ?_)
  unfold f_X12_days
  refine sX_rc ?_
  refine sX_aload_n (i := 0) (by decide +kernel) rfl ?_
  refine sX_iload_n (i := 1) (by decide +kernel) rfl ?_
  refine sX_iconst (n := 1) (v := (1 : Int32)) (by decide +kernel) (by decide) ?_
  refine sX_bipush (n := 40) (v := (40 : Int32)) (by decide +kernel) (by decide) ?_
  refine sX_callVp (As := [.int v1, .int (1 : Int32), .int (40 : Int32)]) (by decide +kernel) lm_X12_611 mf_X12_isAhead mi_X12_isAhead mc_12 (m_X12_isAhead G l v0 v1 ((1 : Int32)) ((40 : Int32)) M0) (fun _ h => sRc_some h) (by decide) rfl rfl (Nat.le_of_ble_eq_true rfl) (fun x1 => ?_)
  refine sX_ifne (o := 9) (t := 17) (by decide +kernel) (by decide) (fun _ => ?_) (fun _ => ?_)
  · refine sX_aload_n (i := 0) (by decide +kernel) rfl ?_
    refine sX_iconst (n := 3) (v := (3 : Int32)) (by decide +kernel) (by decide) ?_
    refine sX_callV (As := [.int (3 : Int32)]) (by decide +kernel) lm_X12_638 mf_X12_refuses mi_X12_refuses mc_12 (m_X12_refuses G l v0 ((3 : Int32)) M0) (fun _ h => sRc_some h) (by decide) rfl rfl (Nat.le_of_ble_eq_true rfl) (fun x2 M3 _ => ?_)
    exact sX_some (fun h _ => sW_iret (by decide +kernel) rfl (hr _ h).1.symm (hr _ h).2.symm)
  · refine sX_aload_n (i := 0) (by decide +kernel) rfl ?_
    refine sX_callVv (As := []) (by decide +kernel) lm_X12_659 mf_X12_keeps mi_X12_keeps mc_12 (m_X12_keeps G l v0 M0) (fun _ h => sRc_some h) (by decide) rfl rfl (Nat.le_of_ble_eq_true rfl) (fun M4 => ?_)
    refine sX_aload_n (i := 0) (by decide +kernel) rfl ?_
    refine sX_iconst (n := 0) (v := (0 : Int32)) (by decide +kernel) (by decide) ?_
    refine sX_putI lf_X12_573 tp_12_71 (by decide +kernel) (by decide) (fun M5 => ?_)
    refine sX_aload_n (i := 0) (by decide +kernel) rfl ?_
    refine sX_iload_n (i := 1) (by decide +kernel) rfl ?_
    refine sX_callVv (As := [.int v1]) (by decide +kernel) lm_X12_617 mf_X12_daysGo mi_X12_daysGo mc_12 (m_X12_daysGo G l v0 v1 M5) (fun _ h => sRc_some h) (by decide) rfl rfl (Nat.le_of_ble_eq_true rfl) (fun M6 => ?_)
    refine sX_aload_n (i := 0) (by decide +kernel) rfl ?_
    refine sX_getI lf_X12_573 tk_12_71 (by decide +kernel) (fun x7 => ?_)
    exact sX_some (fun h _ => sW_iret (by decide +kernel) rfl (hr _ h).1.symm (hr _ h).2.symm)
def f_X12_seed (v0 : Nat) (v1 : Int32) (M0 : sMem) : Option (Int32 × sMem) :=
  sRc 12 127 M0 v0 (
    if 0 ≤ v1 then
      (pJ 12 127 87 M0 v0 v1.toInt64).bind fun M1 =>
      some (((1 : Int32), M1))
    else
      (gR 12 127 9 M0 v0).bind fun x2 =>
      (ldI 14 M0 x2 ((5 : Int32))).bind fun x3 =>
      (stI M0 x2 ((5 : Int32)) ((x3 + (1 : Int32)))).bind fun M4 =>
      some (((0 : Int32), M4)))
set_option maxRecDepth 100000 in
set_option maxHeartbeats 4000000 in
theorem m_X12_seed (G : sG) (l : Launch) (v0 : Nat) (v1 : Int32) (M0 : sMem) : sC G l 1 yX12_seed cX12_seed 2 (some .boolean) [.ref v0, .int v1] M0 rvI (f_X12_seed v0 v1 M0) := by
  refine sC_m (ls := [some (.ref v0), some (.int v1)]) (by decide +kernel) rfl (Nat.le_of_ble_eq_true rfl) (fun r M' K hr => ?_)
  unfold f_X12_seed
  refine sX_rc ?_
  refine sX_iload_n (i := 1) (by decide +kernel) rfl ?_
  refine sX_ifge (o := 15) (t := 16) (by decide +kernel) (by decide) (fun _ => ?_) (fun _ => ?_)
  · refine sX_aload_n (i := 0) (by decide +kernel) rfl ?_
    refine sX_iload_n (i := 1) (by decide +kernel) rfl ?_
    refine sX_i2l (by decide +kernel) ?_
    refine sX_putJ lf_X12_200 tp_12_87 (by decide +kernel) (by decide) (fun M1 => ?_)
    refine sX_iconst (n := 1) (v := (1 : Int32)) (by decide +kernel) (by decide) ?_
    exact sX_some (fun h _ => sW_zret (by decide +kernel) rfl (by decide) (hr _ h).1.symm (hr _ h).2.symm)
  · refine sX_aload_n (i := 0) (by decide +kernel) rfl ?_
    refine sX_getR lf_X12_17 tk_12_9 (by decide +kernel) (fun x2 => ?_)
    refine sX_iconst (n := 5) (v := (5 : Int32)) (by decide +kernel) (by decide) ?_
    refine sX_dup2 (by decide +kernel) rfl rfl ?_
    refine sX_iaload (by decide +kernel) (fun x3 => ?_)
    refine sX_iconst (n := 1) (v := (1 : Int32)) (by decide +kernel) (by decide) ?_
    refine sX_iadd (by decide +kernel) ?_
    refine sX_iastore (by decide +kernel) (by decide) (fun M4 => ?_)
    refine sX_iconst (n := 0) (v := (0 : Int32)) (by decide +kernel) (by decide) ?_
    exact sX_some (fun h _ => sW_zret (by decide +kernel) rfl (by decide) (hr _ h).1.symm (hr _ h).2.symm)
def f_X12_drawOf (v0 : Nat) (v1 : Int32) (M0 : sMem) : Option (Int32 × sMem) :=
  sRc 12 127 M0 v0 (
    (gJ 12 127 87 M0 v0).bind fun x1 =>
    (pJ 12 127 87 M0 v0 (((((1103515245 : Int64) * x1) + (12345 : Int64)) - (((1103515245 : Int64) * x1) + (12345 : Int64)) / (2147483648 : Int64) * (2147483648 : Int64)))).bind fun M2 =>
    (gJ 12 127 87 M2 v0).bind fun x3 =>
    if v1.toInt64 = 0 then none else
    some (((((x3 / (64 : Int64)) - (x3 / (64 : Int64)) / v1.toInt64 * v1.toInt64)).toInt32, M2)))
set_option maxRecDepth 100000 in
set_option maxHeartbeats 4000000 in
theorem m_X12_drawOf (G : sG) (l : Launch) (v0 : Nat) (v1 : Int32) (M0 : sMem) : sC G l 1 yX12_drawOf cX12_drawOf 2 (some .int) [.ref v0, .int v1] M0 rvI (f_X12_drawOf v0 v1 M0) := by
  refine sC_m (ls := [some (.ref v0), some (.int v1)]) (by decide +kernel) rfl (Nat.le_of_ble_eq_true rfl) (fun r M' K hr => ?_)
  unfold f_X12_drawOf
  refine sX_rc ?_
  refine sX_aload_n (i := 0) (by decide +kernel) rfl ?_
  refine sX_ldc2 (v := (1103515245 : Int64)) (by decide +kernel) kl_X12_664 ?_
  refine sX_aload_n (i := 0) (by decide +kernel) rfl ?_
  refine sX_getJ lf_X12_200 tk_12_87 (by decide +kernel) (fun x1 => ?_)
  refine sX_lmul (by decide +kernel) ?_
  refine sX_ldc2 (v := (12345 : Int64)) (by decide +kernel) kl_X12_666 ?_
  refine sX_ladd (by decide +kernel) ?_
  refine sX_ldc2 (v := (2147483648 : Int64)) (by decide +kernel) kl_X12_668 ?_
  refine sX_lrem (by decide +kernel) (by decide) ?_
  refine sX_putJ lf_X12_200 tp_12_87 (by decide +kernel) (by decide) (fun M2 => ?_)
  refine sX_aload_n (i := 0) (by decide +kernel) rfl ?_
  refine sX_getJ lf_X12_200 tk_12_87 (by decide +kernel) (fun x3 => ?_)
  refine sX_ldc2 (v := (64 : Int64)) (by decide +kernel) kl_X12_670 ?_
  refine sX_ldiv (by decide +kernel) (by decide) ?_
  refine sX_iload_n (i := 1) (by decide +kernel) rfl ?_
  refine sX_i2l (by decide +kernel) ?_
  refine sX_if (fun _ => sX_none) (fun hz => ?_)
  refine sX_lrem (by decide +kernel) hz ?_
  refine sX_l2i (by decide +kernel) ?_
  exact sX_some (fun h _ => sW_iret (by decide +kernel) rfl (hr _ h).1.symm (hr _ h).2.symm)
def f_X12_chance_B94 (v0 : Nat) (v1 : Int32) (v2 : Int32) (v3 : Int32) (M : sMem) : Option ((Int32 × Int32 × sMem) ⊕ (((Int32 × sMem)))) :=
  (f_X12_dayGoes v0 M).bind fun M1 =>
  some (.inl ((v2, ((v3 + (1 : Int32))), M1)))
def f_X12_chance_K25 (v0 : Nat) (v1 : Int32) (v2 : Int32) (v3 : Int32) (M : sMem) : Option ((Int32 × Int32 × sMem) ⊕ (((Int32 × sMem)))) :=
  if v1 ≤ v3 then
    some (.inr ((v2, M)))
  else
    (f_X12_drawOf v0 ((100 : Int32)) M).bind fun (x2, M3) =>
    (gR 12 127 45 M3 v0).bind fun x4 =>
    (ldI 14 M3 x4 ((3 : Int32))).bind fun x5 =>
    if x5 ≤ x2 then
      f_X12_chance_B94 v0 v1 v2 v3 M3
    else
      (f_X12_eraMany v0 M3).bind fun x6 =>
      if x6 ≤ 0 then
        f_X12_chance_B94 v0 v1 v2 v3 M3
      else
        (f_X12_eraMany v0 M3).bind fun x7 =>
        (f_X12_drawOf v0 x7 M3).bind fun (x8, M9) =>
        (gR 12 127 59 M9 v0).bind fun x10 =>
        (f_X12_lateOf v0 x8 M9).bind fun x11 =>
        (f_X12_drawOf v0 ((20 : Int32)) M9).bind fun (x12, M13) =>
        (f_X12_cut (((x11 + x12)).toInt64) ((99 : Int32)) M13).bind fun x14 =>
        (stI M13 x10 (((7 : Int32) + x8)) x14).bind fun M15 =>
        f_X12_chance_B94 v0 v1 ((v2 + (1 : Int32))) v3 M15
def f_X12_chance_L25 (v0 : Nat) (v1 : Int32) (v2 : Int32) (v3 : Int32) (M : sMem) : Option (Int32 × sMem) :=
  (sItr (fun a : (Int32 × Int32 × sMem) => f_X12_chance_K25 v0 v1 a.1 a.2.1 a.2.2) sFuel (v2, v3, M)).bind (fun b => some b)
def f_X12_chance (v0 : Nat) (v1 : Int32) (M0 : sMem) : Option (Int32 × sMem) :=
  sRc 12 127 M0 v0 (
    (f_X12_isAhead v0 v1 ((1 : Int32)) ((40 : Int32)) M0).bind fun x16 =>
    if x16 = 0 then
      (f_X12_refuses v0 ((3 : Int32)) M0).bind fun (x17, M18) =>
      some ((x17, M18))
    else
      (f_X12_keeps v0 M0).bind fun M19 =>
      f_X12_chance_L25 v0 v1 ((0 : Int32)) ((0 : Int32)) M19)
set_option maxRecDepth 100000 in
set_option maxHeartbeats 4000000 in
theorem m_X12_chance (G : sG) (l : Launch) (v0 : Nat) (v1 : Int32) (M0 : sMem) : sC G l 8 yX12_chance cX12_chance 5 (some .int) [.ref v0, .int v1] M0 rvI (f_X12_chance v0 v1 M0) := by
  refine sC_m (ls := [some (.ref v0), some (.int v1), none, none, none]) (by decide +kernel) rfl (Nat.le_of_ble_eq_true rfl) (fun r M' K hr => ?_)
  unfold f_X12_chance
  have xL25 : ∀ (v0 : Nat) (v1 : Int32) (v2 : Int32) (v3 : Int32) (M : sMem), sX G l 8 yX12_chance cX12_chance 5 (some .int) M0 r M' 25 [some (.ref v0), some (.int v1), some (.int v2), some (.int v3), none] [] M (f_X12_chance_L25 v0 v1 v2 v3 M) K := by
    intro v0 v1 v2 v3 M
    unfold f_X12_chance_L25
    refine sX_bind ?_
    refine sX_loop (LS := fun a : (Int32 × Int32 × sMem) => [some (.ref v0), some (.int v1), some (.int a.1), some (.int a.2.1), none]) (MM := fun a => a.2.2) (fun K1 hb1 he1 => ?_) sFuel ((v2, v3, M))
    have xB94 : ∀ (v2 : Int32) (v3 : Int32) (M : sMem), sX G l 8 yX12_chance cX12_chance 5 (some .int) M0 r M' 94 [some (.ref v0), some (.int v1), some (.int v2), some (.int v3), none] [] M (f_X12_chance_B94 v0 v1 v2 v3 M) K1 := by
      intro v2 v3 M
      unfold f_X12_chance_B94
      refine sX_aload_n (i := 0) (by decide +kernel) rfl ?_
      refine sX_callVv (As := []) (by decide +kernel) lm_X12_579 mf_X12_dayGoes mi_X12_dayGoes mc_12 (m_X12_dayGoes G l v0 M) (fun _ h => sRc_some h) (by decide) rfl rfl (Nat.le_of_ble_eq_true rfl) (fun M1 => ?_)
      refine sX_iinc (i := 3) (n := 1) (v := v3 + (1 : Int32)) (ls2 := [some (.ref v0), some (.int v1), some (.int v2), some (.int (v3 + (1 : Int32))), none]) (by decide +kernel) rfl rfl (by decide) rfl ?_
      refine sX_goto (o := -76) (t := 25) (by decide +kernel) (by decide) ?_
      exact sX_back (a := (v2, ((v3 + (1 : Int32))), M1)) hb1 rfl (sLe_s (sLe_s (sLe_s (sLe_s (sLe_n sLe_e)))))
    have xK25 : ∀ (v2 : Int32) (v3 : Int32) (M : sMem), sX G l 8 yX12_chance cX12_chance 5 (some .int) M0 r M' 25 [some (.ref v0), some (.int v1), some (.int v2), some (.int v3), none] [] M (f_X12_chance_K25 v0 v1 v2 v3 M) K1 := by
      intro v2 v3 M
      unfold f_X12_chance_K25
      refine sX_iload_n (i := 3) (by decide +kernel) rfl ?_
      refine sX_iload_n (i := 1) (by decide +kernel) rfl ?_
      refine sX_icge (o := 77) (t := 104) (by decide +kernel) (by decide) (fun _ => ?_) (fun _ => ?_)
      · refine sX_iload_n (i := 2) (by decide +kernel) rfl ?_
        refine sX_exit he1 ?_
        exact sX_some (fun h _ => sW_iret (by decide +kernel) rfl (hr _ h).1.symm (hr _ h).2.symm)
      · refine sX_aload_n (i := 0) (by decide +kernel) rfl ?_
        refine sX_bipush (n := 100) (v := (100 : Int32)) (by decide +kernel) (by decide) ?_
        refine sX_callV (As := [.int (100 : Int32)]) (by decide +kernel) lm_X12_672 mf_X12_drawOf mi_X12_drawOf mc_12 (m_X12_drawOf G l v0 ((100 : Int32)) M) (fun _ h => sRc_some h) (by decide) rfl rfl (Nat.le_of_ble_eq_true rfl) (fun x2 M3 _ => ?_)
        refine sX_aload_n (i := 0) (by decide +kernel) rfl ?_
        refine sX_getR lf_X12_120 tk_12_45 (by decide +kernel) (fun x4 => ?_)
        refine sX_iconst (n := 3) (v := (3 : Int32)) (by decide +kernel) (by decide) ?_
        refine sX_iaload (by decide +kernel) (fun x5 => ?_)
        refine sX_icge (o := 52) (t := 94) (by decide +kernel) (by decide) (fun _ => ?_) (fun _ => ?_)
        · exact sX.le (xB94 v2 v3 M3) (sLe_s (sLe_s (sLe_s (sLe_s (sLe_n sLe_e)))))
        · refine sX_aload_n (i := 0) (by decide +kernel) rfl ?_
          refine sX_callVp (As := []) (by decide +kernel) lm_X12_466 mf_X12_eraMany mi_X12_eraMany mc_12 (m_X12_eraMany G l v0 M3) (fun _ h => sRc_some h) (by decide) rfl rfl (Nat.le_of_ble_eq_true rfl) (fun x6 => ?_)
          refine sX_ifle (o := 45) (t := 94) (by decide +kernel) (by decide) (fun _ => ?_) (fun _ => ?_)
          · exact sX.le (xB94 v2 v3 M3) (sLe_s (sLe_s (sLe_s (sLe_s (sLe_n sLe_e)))))
          · refine sX_aload_n (i := 0) (by decide +kernel) rfl ?_
            refine sX_aload_n (i := 0) (by decide +kernel) rfl ?_
            refine sX_callVp (As := []) (by decide +kernel) lm_X12_466 mf_X12_eraMany mi_X12_eraMany mc_12 (m_X12_eraMany G l v0 M3) (fun _ h => sRc_some h) (by decide) rfl rfl (Nat.le_of_ble_eq_true rfl) (fun x7 => ?_)
            refine sX_callV (As := [.int x7]) (by decide +kernel) lm_X12_672 mf_X12_drawOf mi_X12_drawOf mc_12 (m_X12_drawOf G l v0 x7 M3) (fun _ h => sRc_some h) (by decide) rfl rfl (Nat.le_of_ble_eq_true rfl) (fun x8 M9 _ => ?_)
            refine sX_istore (i := 4) (ls2 := [some (.ref v0), some (.int v1), some (.int v2), some (.int v3), some (.int x8)]) (by decide +kernel) (by decide) rfl ?_
            refine sX_aload_n (i := 0) (by decide +kernel) rfl ?_
            refine sX_getR lf_X12_151 tk_12_59 (by decide +kernel) (fun x10 => ?_)
            refine sX_bipush (n := 7) (v := (7 : Int32)) (by decide +kernel) (by decide) ?_
            refine sX_iload (i := 4) (by decide +kernel) rfl ?_
            refine sX_iadd (by decide +kernel) ?_
            refine sX_aload_n (i := 0) (by decide +kernel) rfl ?_
            refine sX_iload (i := 4) (by decide +kernel) rfl ?_
            refine sX_callVp (As := [.int x8]) (by decide +kernel) lm_X12_515 mf_X12_lateOf mi_X12_lateOf mc_12 (m_X12_lateOf G l v0 x8 M9) (fun _ h => sRc_some h) (by decide) rfl rfl (Nat.le_of_ble_eq_true rfl) (fun x11 => ?_)
            refine sX_aload_n (i := 0) (by decide +kernel) rfl ?_
            refine sX_bipush (n := 20) (v := (20 : Int32)) (by decide +kernel) (by decide) ?_
            refine sX_callV (As := [.int (20 : Int32)]) (by decide +kernel) lm_X12_672 mf_X12_drawOf mi_X12_drawOf mc_12 (m_X12_drawOf G l v0 ((20 : Int32)) M9) (fun _ h => sRc_some h) (by decide) rfl rfl (Nat.le_of_ble_eq_true rfl) (fun x12 M13 _ => ?_)
            refine sX_iadd (by decide +kernel) ?_
            refine sX_i2l (by decide +kernel) ?_
            refine sX_bipush (n := 99) (v := (99 : Int32)) (by decide +kernel) (by decide) ?_
            refine sX_callSp (As := [.long ((x11 + x12)).toInt64, .int (99 : Int32)]) (by decide +kernel) lm_X12_560 mf_X12_cut ms_X12_cut (m_X12_cut G l (((x11 + x12)).toInt64) ((99 : Int32)) M13) (by decide) rfl rfl (Nat.le_of_ble_eq_true rfl) (fun x14 => ?_)
            refine sX_iastore (by decide +kernel) (by decide) (fun M15 => ?_)
            refine sX_iinc (i := 2) (n := 1) (v := v2 + (1 : Int32)) (ls2 := [some (.ref v0), some (.int v1), some (.int (v2 + (1 : Int32))), some (.int v3), some (.int x8)]) (by decide +kernel) rfl rfl (by decide) rfl ?_
            exact sX.le (xB94 ((v2 + (1 : Int32))) v3 M15) (sLe_s (sLe_s (sLe_s (sLe_s (sLe_n sLe_e)))))
    exact fun a => xK25 a.1 a.2.1 a.2.2
  refine sX_rc ?_
  refine sX_aload_n (i := 0) (by decide +kernel) rfl ?_
  refine sX_iload_n (i := 1) (by decide +kernel) rfl ?_
  refine sX_iconst (n := 1) (v := (1 : Int32)) (by decide +kernel) (by decide) ?_
  refine sX_bipush (n := 40) (v := (40 : Int32)) (by decide +kernel) (by decide) ?_
  refine sX_callVp (As := [.int v1, .int (1 : Int32), .int (40 : Int32)]) (by decide +kernel) lm_X12_611 mf_X12_isAhead mi_X12_isAhead mc_12 (m_X12_isAhead G l v0 v1 ((1 : Int32)) ((40 : Int32)) M0) (fun _ h => sRc_some h) (by decide) rfl rfl (Nat.le_of_ble_eq_true rfl) (fun x16 => ?_)
  refine sX_ifne (o := 9) (t := 17) (by decide +kernel) (by decide) (fun _ => ?_) (fun _ => ?_)
  · refine sX_aload_n (i := 0) (by decide +kernel) rfl ?_
    refine sX_iconst (n := 3) (v := (3 : Int32)) (by decide +kernel) (by decide) ?_
    refine sX_callV (As := [.int (3 : Int32)]) (by decide +kernel) lm_X12_638 mf_X12_refuses mi_X12_refuses mc_12 (m_X12_refuses G l v0 ((3 : Int32)) M0) (fun _ h => sRc_some h) (by decide) rfl rfl (Nat.le_of_ble_eq_true rfl) (fun x17 M18 _ => ?_)
    exact sX_some (fun h _ => sW_iret (by decide +kernel) rfl (hr _ h).1.symm (hr _ h).2.symm)
  · refine sX_aload_n (i := 0) (by decide +kernel) rfl ?_
    refine sX_callVv (As := []) (by decide +kernel) lm_X12_659 mf_X12_keeps mi_X12_keeps mc_12 (m_X12_keeps G l v0 M0) (fun _ h => sRc_some h) (by decide) rfl rfl (Nat.le_of_ble_eq_true rfl) (fun M19 => ?_)
    refine sX_iconst (n := 0) (v := (0 : Int32)) (by decide +kernel) (by decide) ?_
    refine sX_istore_n (i := 2) (ls2 := [some (.ref v0), some (.int v1), some (.int (0 : Int32)), none, none]) (by decide +kernel) (by decide) rfl ?_
    refine sX_iconst (n := 0) (v := (0 : Int32)) (by decide +kernel) (by decide) ?_
    refine sX_istore_n (i := 3) (ls2 := [some (.ref v0), some (.int v1), some (.int (0 : Int32)), some (.int (0 : Int32)), none]) (by decide +kernel) (by decide) rfl ?_
    exact sX.le (xL25 v0 v1 ((0 : Int32)) ((0 : Int32)) M19) (sLe_s (sLe_s (sLe_s (sLe_s (sLe_n sLe_e)))))
def f_X12_qOf (v0 : Nat) (v1 : Int32) (v2 : Int64) (v4 : Int32) (M0 : sMem) : Option Int64 :=
  sRc 12 127 M0 v0 (
    if v1 = (0 : Int32) then
      (f_X12_isGate v0 v2 M0).bind fun x4 =>
      if x4 = 0 then
        some ((0 : Int64))
      else
        (f_X12_minuteOf v0 v4 M0).bind fun x5 =>
        (f_X12_isClosed v0 v2.toInt32 x5 M0).bind fun x6 =>
        if x6 = 0 then
          some ((0 : Int64))
        else
          some ((1 : Int64))
    else
    (f_X12_isPlace v0 v2 M0).bind fun x1 =>
    if x1 = 0 then
      some ((-1 : Int64))
    else
      (gR 12 127 67 M0 v0).bind fun x2 =>
      (ldI 14 M0 x2 ((((7 : Int32) * v4) + v2.toInt32))).bind fun x3 =>
      some x3.toInt64)
set_option maxRecDepth 100000 in
set_option maxHeartbeats 4000000 in
theorem m_X12_qOf (G : sG) (l : Launch) (v0 : Nat) (v1 : Int32) (v2 : Int64) (v4 : Int32) (M0 : sMem) : sCp G l 3 yX12_qOf cX12_qOf 5 (some .long) [.ref v0, .int v1, .long v2, .int v4] M0 rvJ (f_X12_qOf v0 v1 v2 v4 M0) := by
  refine sC_p (ls := [some (.ref v0), some (.int v1), some (.long v2), none, some (.int v4)]) (by decide +kernel) rfl (Nat.le_of_ble_eq_true rfl) (fun r M' K hr => ?_)
  unfold f_X12_qOf
  refine sX_rc ?_
  refine sX_iload_n (i := 1) (by decide +kernel) rfl ?_
  refine sX_if (fun hx => ?_) (fun n0 => ?_)
  · subst hx
    refine sX_look (dflt := 48) (ps := #[(0, 19)]) (len := 19) (t := 20) (off := 19) (by decide +kernel) (by decide +kernel) (by decide +kernel) (by decide) ?_
    refine sX_aload_n (i := 0) (by decide +kernel) rfl ?_
    refine sX_lload_n (i := 2) (by decide +kernel) rfl ?_
    refine sX_callVp (As := [.long v2]) (by decide +kernel) lm_X12_587 mf_X12_isGate mi_X12_isGate mc_12 (m_X12_isGate G l v0 v2 M0) (fun _ h => sRc_some h) (by decide) rfl rfl (Nat.le_of_ble_eq_true rfl) (fun x4 => ?_)
    refine sX_ifeq (o := 22) (t := 47) (by decide +kernel) (by decide) (fun _ => ?_) (fun _ => ?_)
    · refine sX_lconst (n := 0) (v := (0 : Int64)) (by decide +kernel) (by decide) ?_
      exact sX_some (fun h _ => sW_lret (by decide +kernel) rfl (hr _ h).1.symm (hr _ h).2.symm)
    · refine sX_aload_n (i := 0) (by decide +kernel) rfl ?_
      refine sX_lload_n (i := 2) (by decide +kernel) rfl ?_
      refine sX_l2i (by decide +kernel) ?_
      refine sX_aload_n (i := 0) (by decide +kernel) rfl ?_
      refine sX_iload (i := 4) (by decide +kernel) rfl ?_
      refine sX_callVp (As := [.int v4]) (by decide +kernel) lm_X12_541 mf_X12_minuteOf mi_X12_minuteOf mc_12 (m_X12_minuteOf G l v0 v4 M0) (fun _ h => sRc_some h) (by decide) rfl rfl (Nat.le_of_ble_eq_true rfl) (fun x5 => ?_)
      refine sX_callVp (As := [.int v2.toInt32, .int x5]) (by decide +kernel) lm_X12_604 mf_X12_isClosed mi_X12_isClosed mc_12 (m_X12_isClosed G l v0 v2.toInt32 x5 M0) (fun _ h => sRc_some h) (by decide) rfl rfl (Nat.le_of_ble_eq_true rfl) (fun x6 => ?_)
      refine sX_ifeq (o := 7) (t := 47) (by decide +kernel) (by decide) (fun _ => ?_) (fun _ => ?_)
      · refine sX_lconst (n := 0) (v := (0 : Int64)) (by decide +kernel) (by decide) ?_
        exact sX_some (fun h _ => sW_lret (by decide +kernel) rfl (hr _ h).1.symm (hr _ h).2.symm)
      · refine sX_lconst (n := 1) (v := (1 : Int64)) (by decide +kernel) (by decide) ?_
        refine sX_goto (o := 4) (t := 48) (by decide +kernel) (by decide) ?_
        exact sX_some (fun h _ => sW_lret (by decide +kernel) rfl (hr _ h).1.symm (hr _ h).2.symm)
  · refine sX_look (dflt := 48) (ps := #[(0, 19)]) (len := 19) (t := 49) (off := 48) (by decide +kernel) (by decide +kernel) (by show Op.lookupswitch.offset [(0, 19)] 48 _ = _; rw [lv_osw n0 (by decide)]; rfl) (by decide) ?_
    refine sX_aload_n (i := 0) (by decide +kernel) rfl ?_
    refine sX_lload_n (i := 2) (by decide +kernel) rfl ?_
    refine sX_callVp (As := [.long v2]) (by decide +kernel) lm_X12_608 mf_X12_isPlace mi_X12_isPlace mc_12 (m_X12_isPlace G l v0 v2 M0) (fun _ h => sRc_some h) (by decide) rfl rfl (Nat.le_of_ble_eq_true rfl) (fun x1 => ?_)
    refine sX_ifeq (o := 20) (t := 74) (by decide +kernel) (by decide) (fun _ => ?_) (fun _ => ?_)
    · refine sX_ldc2 (v := (-1 : Int64)) (by decide +kernel) kl_X12_741 ?_
      exact sX_some (fun h _ => sW_lret (by decide +kernel) rfl (hr _ h).1.symm (hr _ h).2.symm)
    · refine sX_aload_n (i := 0) (by decide +kernel) rfl ?_
      refine sX_getR lf_X12_160 tk_12_67 (by decide +kernel) (fun x2 => ?_)
      refine sX_bipush (n := 7) (v := (7 : Int32)) (by decide +kernel) (by decide) ?_
      refine sX_iload (i := 4) (by decide +kernel) rfl ?_
      refine sX_imul (by decide +kernel) ?_
      refine sX_lload_n (i := 2) (by decide +kernel) rfl ?_
      refine sX_l2i (by decide +kernel) ?_
      refine sX_iadd (by decide +kernel) ?_
      refine sX_iaload (by decide +kernel) (fun x3 => ?_)
      refine sX_i2l (by decide +kernel) ?_
      refine sX_goto (o := 6) (t := 77) (by decide +kernel) (by decide) ?_
      exact sX_some (fun h _ => sW_lret (by decide +kernel) rfl (hr _ h).1.symm (hr _ h).2.symm)
