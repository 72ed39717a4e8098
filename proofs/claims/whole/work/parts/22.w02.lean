def f_X0_answerOf_B207 (v0 : Nat) (v4 : Nat) (M : sMem) : Option (Int32 × sMem) :=
  (gR 0 7 0 M v0).bind fun x1 =>
  (f_X2_run x1 v4 M).bind fun (x2, M3) =>
  some ((x2, M3))
def f_X0_answerOf_K175 (v0 : Nat) (v4 : Nat) (v6 : Int32) (M : sMem) : Option ((Int32 × sMem) ⊕ ((sMem))) :=
  if (7 : Int32) ≤ v6 then
    some (.inr M)
  else
    (gR 0 7 0 M v0).bind fun x4 =>
    (gR 2 5 2 M x4).bind fun x5 =>
    (gR 0 7 2 M v0).bind fun x6 =>
    (f_X7_arrival x6 v6 M).bind fun x7 =>
    (stI M x5 v6 x7).bind fun M8 =>
    some (.inl ((((v6 + (1 : Int32))), M8)))
def f_X0_answerOf_L175 (v0 : Nat) (v4 : Nat) (v6 : Int32) (M : sMem) : Option (Int32 × sMem) :=
  (sItr (fun a : (Int32 × sMem) => f_X0_answerOf_K175 v0 v4 a.1 a.2) sFuel (v6, M)).bind (fun b => f_X0_answerOf_B207 v0 v4 b)
def f_X0_answerOf_B156 (v0 : Nat) (v1 : Nat) (v2 : Int32) (v3 : Nat) (v4 : Nat) (v5 : Int32) (M : sMem) : Option (Int32 × sMem) :=
  (gR 0 7 2 M v0).bind fun x9 =>
  (gR 8 8 3 M v1).bind fun x10 =>
  (ldI 14 M x10 v2).bind fun x11 =>
  (f_X7_go x9 x11 v5 v3 M).bind fun M12 =>
  f_X0_answerOf_L175 v0 v4 ((0 : Int32)) M12
def f_X0_answerOf_B149 (v0 : Nat) (v1 : Nat) (v2 : Int32) (v3 : Nat) (v4 : Nat) (v5 : Int32) (v6 : Int32) (s0 : Nat) (s1 : Int32) (s2 : Int32) (M : sMem) : Option ((Int32 × sMem) ⊕ ((sMem))) :=
  (stI M s0 s1 s2).bind fun M13 =>
  some (.inl ((((v6 + (1 : Int32))), M13)))
def f_X0_answerOf_K117 (v0 : Nat) (v1 : Nat) (v2 : Int32) (v3 : Nat) (v4 : Nat) (v5 : Int32) (v6 : Int32) (M : sMem) : Option ((Int32 × sMem) ⊕ ((sMem))) :=
  if (6 : Int32) ≤ v6 then
    some (.inr M)
  else
    (gR 0 7 0 M v0).bind fun x14 =>
    (gR 2 5 1 M x14).bind fun x15 =>
    (f_X11_isMarked v3 v6 v5 M).bind fun x16 =>
    if x16 = 0 then
      f_X0_answerOf_B149 v0 v1 v2 v3 v4 v5 v6 x15 v6 ((0 : Int32)) M
    else
      f_X0_answerOf_B149 v0 v1 v2 v3 v4 v5 v6 x15 v6 ((1 : Int32)) M
def f_X0_answerOf_L117 (v0 : Nat) (v1 : Nat) (v2 : Int32) (v3 : Nat) (v4 : Nat) (v5 : Int32) (v6 : Int32) (M : sMem) : Option (Int32 × sMem) :=
  (sItr (fun a : (Int32 × sMem) => f_X0_answerOf_K117 v0 v1 v2 v3 v4 v5 a.1 a.2) sFuel (v6, M)).bind (fun b => f_X0_answerOf_B156 v0 v1 v2 v3 v4 v5 b)
def f_X0_answerOf_B84 (v0 : Nat) (v1 : Nat) (v2 : Int32) (v3 : Nat) (v4 : Nat) (v5 : Int32) (M : sMem) : Option (Int32 × sMem) :=
  (gR 0 7 0 M v0).bind fun x17 =>
  (gR 2 5 0 M x17).bind fun x18 =>
  (gR 8 8 5 M v1).bind fun x19 =>
  (ldI 14 M x19 v2).bind fun x20 =>
  (stI M x18 ((23 : Int32)) x20).bind fun M21 =>
  (gR 0 7 0 M21 v0).bind fun x22 =>
  (gR 2 5 0 M21 x22).bind fun x23 =>
  (gI 8 8 0 M21 v1).bind fun x24 =>
  (stI M21 x23 ((21 : Int32)) x24).bind fun M25 =>
  f_X0_answerOf_L117 v0 v1 v2 v3 v4 v5 ((0 : Int32)) M25
def f_X0_answerOf (v0 : Nat) (v1 : Nat) (v2 : Int32) (v3 : Nat) (v4 : Nat) (M0 : sMem) : Option (Int32 × sMem) :=
  sRc 0 7 M0 v0 (
    (gR 0 7 3 M0 v0).bind fun x26 =>
    (gR 1 10 5 M0 x26).bind fun x27 =>
    (f_X9_cell x27 v2 ((2 : Int32)) M0).bind fun x28 =>
    (gR 0 7 0 M0 v0).bind fun x29 =>
    (gR 2 5 0 M0 x29).bind fun x30 =>
    (f_X0_waitOf v0 v1 v2 v3 M0).bind fun (x31, M32) =>
    (stI M32 x30 ((22 : Int32)) x31).bind fun M33 =>
    (gR 0 7 0 M33 v0).bind fun x34 =>
    (gR 2 5 0 M33 x34).bind fun x35 =>
    (stI M33 x35 ((24 : Int32)) v2).bind fun M36 =>
    (gR 0 7 0 M36 v0).bind fun x37 =>
    (gR 2 5 0 M36 x37).bind fun x38 =>
    (gR 8 8 3 M36 v1).bind fun x39 =>
    (ldI 14 M36 x39 v2).bind fun x40 =>
    (stI M36 x38 ((2 : Int32)) x40).bind fun M41 =>
    (gR 0 7 0 M41 v0).bind fun x42 =>
    (gR 2 5 0 M41 x42).bind fun x43 =>
    (gR 8 8 4 M41 v1).bind fun x44 =>
    (ldI 14 M41 x44 v2).bind fun x45 =>
    (stI M41 x43 ((5 : Int32)) x45).bind fun M46 =>
    (gR 0 7 0 M46 v0).bind fun x47 =>
    (gR 2 5 0 M46 x47).bind fun x48 =>
    (stI M46 x48 ((12 : Int32)) x28).bind fun M49 =>
    f_X0_answerOf_B84 v0 v1 v2 v3 v4 x28 M49)
set_option maxRecDepth 100000 in
set_option maxHeartbeats 4000000 in
theorem m_X0_answerOf (G : sG) (l : Launch) (v0 : Nat) (v1 : Nat) (v2 : Int32) (v3 : Nat) (v4 : Nat) (M0 : sMem) : sC G l 6 yX0_answerOf cX0_answerOf 7 (some .int) [.ref v0, .ref v1, .int v2, .ref v3, .ref v4] M0 rvI (f_X0_answerOf v0 v1 v2 v3 v4 M0) := by
  refine sC_m (ls := [some (.ref v0), some (.ref v1), some (.int v2), some (.ref v3), some (.ref v4), none, none]) (by decide +kernel) rfl (Nat.le_of_ble_eq_true rfl) (fun r M' K hr => ?_)
  unfold f_X0_answerOf
  have xB207 : ∀ (v0 : Nat) (v4 : Nat) (M : sMem), sX G l 6 yX0_answerOf cX0_answerOf 7 (some .int) M0 r M' 207 [some (.ref v0), none, none, none, some (.ref v4), none, none] [] M (f_X0_answerOf_B207 v0 v4 M) K := by
    intro v0 v4 M
    unfold f_X0_answerOf_B207
    refine sX_aload_n (i := 0) (by decide +kernel) rfl ?_
    refine sX_getR lf_X0_12 tk_0_0 (by decide +kernel) (fun x1 => ?_)
    refine sX_aload (i := 4) (by decide +kernel) rfl ?_
    refine sX_callV (As := [.ref v4]) (by decide +kernel) lm_X0_132 mf_X2_run mi_X2_run mc_2 (m_X2_run G l x1 v4 M) (fun _ h => sRc_some h) (by decide) rfl rfl (Nat.le_of_ble_eq_true rfl) (fun x2 M3 _ => ?_)
    exact sX_some (fun h _ => sW_iret (by decide +kernel) rfl (hr _ h).1.symm (hr _ h).2.symm)
  have xL175 : ∀ (v0 : Nat) (v4 : Nat) (v6 : Int32) (M : sMem), sX G l 6 yX0_answerOf cX0_answerOf 7 (some .int) M0 r M' 175 [some (.ref v0), none, none, none, some (.ref v4), none, some (.int v6)] [] M (f_X0_answerOf_L175 v0 v4 v6 M) K := by
    intro v0 v4 v6 M
    unfold f_X0_answerOf_L175
    refine sX_bind ?_
    refine sX_loop (LS := fun a : (Int32 × sMem) => [some (.ref v0), none, none, none, some (.ref v4), none, some (.int a.1)]) (MM := fun a => a.2) (fun K1 hb1 he1 => ?_) sFuel ((v6, M))
    have xK175 : ∀ (v6 : Int32) (M : sMem), sX G l 6 yX0_answerOf cX0_answerOf 7 (some .int) M0 r M' 175 [some (.ref v0), none, none, none, some (.ref v4), none, some (.int v6)] [] M (f_X0_answerOf_K175 v0 v4 v6 M) K1 := by
      intro v6 M
      unfold f_X0_answerOf_K175
      refine sX_iload (i := 6) (by decide +kernel) rfl ?_
      refine sX_bipush (n := 7) (v := (7 : Int32)) (by decide +kernel) (by decide) ?_
      refine sX_icge (o := 28) (t := 207) (by decide +kernel) (by decide) (fun _ => ?_) (fun _ => ?_)
      · refine sX_exit he1 ?_
        exact sX.le (xB207 v0 v4 M) (sLe_s (sLe_n (sLe_n (sLe_n (sLe_s (sLe_n (sLe_n sLe_e)))))))
      · refine sX_aload_n (i := 0) (by decide +kernel) rfl ?_
        refine sX_getR lf_X0_12 tk_0_0 (by decide +kernel) (fun x4 => ?_)
        refine sX_getR lf_X0_129 tk_2_2 (by decide +kernel) (fun x5 => ?_)
        refine sX_iload (i := 6) (by decide +kernel) rfl ?_
        refine sX_aload_n (i := 0) (by decide +kernel) rfl ?_
        refine sX_getR lf_X0_47 tk_0_2 (by decide +kernel) (fun x6 => ?_)
        refine sX_iload (i := 6) (by decide +kernel) rfl ?_
        refine sX_callVp (As := [.int v6]) (by decide +kernel) lm_X0_67 mf_X7_arrival mi_X7_arrival mc_7 (m_X7_arrival G l x6 v6 M) (fun _ h => sRc_some h) (by decide) rfl rfl (Nat.le_of_ble_eq_true rfl) (fun x7 => ?_)
        refine sX_iastore (by decide +kernel) (by decide) (fun M8 => ?_)
        refine sX_iinc (i := 6) (n := 1) (v := v6 + (1 : Int32)) (ls2 := [some (.ref v0), none, none, none, some (.ref v4), none, some (.int (v6 + (1 : Int32)))]) (by decide +kernel) rfl rfl (by decide) rfl ?_
        refine sX_goto (o := -29) (t := 175) (by decide +kernel) (by decide) ?_
        exact sX_back (a := (((v6 + (1 : Int32))), M8)) hb1 rfl (sLe_s (sLe_n (sLe_n (sLe_n (sLe_s (sLe_n (sLe_s sLe_e)))))))
    exact fun a => xK175 a.1 a.2
  have xB156 : ∀ (v0 : Nat) (v1 : Nat) (v2 : Int32) (v3 : Nat) (v4 : Nat) (v5 : Int32) (M : sMem), sX G l 6 yX0_answerOf cX0_answerOf 7 (some .int) M0 r M' 156 [some (.ref v0), some (.ref v1), some (.int v2), some (.ref v3), some (.ref v4), some (.int v5), none] [] M (f_X0_answerOf_B156 v0 v1 v2 v3 v4 v5 M) K := by
    intro v0 v1 v2 v3 v4 v5 M
    unfold f_X0_answerOf_B156
    refine sX_aload_n (i := 0) (by decide +kernel) rfl ?_
    refine sX_getR lf_X0_47 tk_0_2 (by decide +kernel) (fun x9 => ?_)
    refine sX_aload_n (i := 1) (by decide +kernel) rfl ?_
    refine sX_getR lf_X0_55 tk_8_3 (by decide +kernel) (fun x10 => ?_)
    refine sX_iload_n (i := 2) (by decide +kernel) rfl ?_
    refine sX_iaload (by decide +kernel) (fun x11 => ?_)
    refine sX_iload (i := 5) (by decide +kernel) rfl ?_
    refine sX_aload_n (i := 3) (by decide +kernel) rfl ?_
    refine sX_callVv (As := [.int x11, .int v5, .ref v3]) (by decide +kernel) lm_X0_60 mf_X7_go mi_X7_go mc_7 (m_X7_go G l x9 x11 v5 v3 M) (fun _ h => sRc_some h) (by decide) rfl rfl (Nat.le_of_ble_eq_true rfl) (fun M12 => ?_)
    refine sX_iconst (n := 0) (v := (0 : Int32)) (by decide +kernel) (by decide) ?_
    refine sX_istore (i := 6) (ls2 := [some (.ref v0), some (.ref v1), some (.int v2), some (.ref v3), some (.ref v4), some (.int v5), some (.int (0 : Int32))]) (by decide +kernel) (by decide) rfl ?_
    exact sX.le (xL175 v0 v4 ((0 : Int32)) M12) (sLe_s (sLe_n (sLe_n (sLe_n (sLe_s (sLe_n (sLe_s sLe_e)))))))
  have xL117 : ∀ (v0 : Nat) (v1 : Nat) (v2 : Int32) (v3 : Nat) (v4 : Nat) (v5 : Int32) (v6 : Int32) (M : sMem), sX G l 6 yX0_answerOf cX0_answerOf 7 (some .int) M0 r M' 117 [some (.ref v0), some (.ref v1), some (.int v2), some (.ref v3), some (.ref v4), some (.int v5), some (.int v6)] [] M (f_X0_answerOf_L117 v0 v1 v2 v3 v4 v5 v6 M) K := by
    intro v0 v1 v2 v3 v4 v5 v6 M
    unfold f_X0_answerOf_L117
    refine sX_bind ?_
    refine sX_loop (LS := fun a : (Int32 × sMem) => [some (.ref v0), some (.ref v1), some (.int v2), some (.ref v3), some (.ref v4), some (.int v5), some (.int a.1)]) (MM := fun a => a.2) (fun K1 hb1 he1 => ?_) sFuel ((v6, M))
    have xB149 : ∀ (v6 : Int32) (s0 : Nat) (s1 : Int32) (s2 : Int32) (M : sMem), sX G l 6 yX0_answerOf cX0_answerOf 7 (some .int) M0 r M' 149 [some (.ref v0), some (.ref v1), some (.int v2), some (.ref v3), some (.ref v4), some (.int v5), some (.int v6)] [.int s2, .int s1, .ref s0] M (f_X0_answerOf_B149 v0 v1 v2 v3 v4 v5 v6 s0 s1 s2 M) K1 := by
      intro v6 s0 s1 s2 M
      unfold f_X0_answerOf_B149
      refine sX_iastore (by decide +kernel) (by decide) (fun M13 => ?_)
      refine sX_iinc (i := 6) (n := 1) (v := v6 + (1 : Int32)) (ls2 := [some (.ref v0), some (.ref v1), some (.int v2), some (.ref v3), some (.ref v4), some (.int v5), some (.int (v6 + (1 : Int32)))]) (by decide +kernel) rfl rfl (by decide) rfl ?_
      refine sX_goto (o := -36) (t := 117) (by decide +kernel) (by decide) ?_
      exact sX_back (a := (((v6 + (1 : Int32))), M13)) hb1 rfl (sLe_s (sLe_s (sLe_s (sLe_s (sLe_s (sLe_s (sLe_s sLe_e)))))))
    have xK117 : ∀ (v6 : Int32) (M : sMem), sX G l 6 yX0_answerOf cX0_answerOf 7 (some .int) M0 r M' 117 [some (.ref v0), some (.ref v1), some (.int v2), some (.ref v3), some (.ref v4), some (.int v5), some (.int v6)] [] M (f_X0_answerOf_K117 v0 v1 v2 v3 v4 v5 v6 M) K1 := by
      intro v6 M
      unfold f_X0_answerOf_K117
      refine sX_iload (i := 6) (by decide +kernel) rfl ?_
      refine sX_bipush (n := 6) (v := (6 : Int32)) (by decide +kernel) (by decide) ?_
      refine sX_icge (o := 35) (t := 156) (by decide +kernel) (by decide) (fun _ => ?_) (fun _ => ?_)
      · refine sX_exit he1 ?_
        exact sX.le (xB156 v0 v1 v2 v3 v4 v5 M) (sLe_s (sLe_s (sLe_s (sLe_s (sLe_s (sLe_s (sLe_n sLe_e)))))))
      · refine sX_aload_n (i := 0) (by decide +kernel) rfl ?_
        refine sX_getR lf_X0_12 tk_0_0 (by decide +kernel) (fun x14 => ?_)
        refine sX_getR lf_X0_123 tk_2_1 (by decide +kernel) (fun x15 => ?_)
        refine sX_iload (i := 6) (by decide +kernel) rfl ?_
        refine sX_aload_n (i := 3) (by decide +kernel) rfl ?_
        refine sX_iload (i := 6) (by decide +kernel) rfl ?_
        refine sX_iload (i := 5) (by decide +kernel) rfl ?_
        refine sX_callSp (As := [.ref v3, .int v6, .int v5]) (by decide +kernel) lm_X0_125 mf_X11_isMarked ms_X11_isMarked (m_X11_isMarked G l v3 v6 v5 M) (by decide) rfl rfl (Nat.le_of_ble_eq_true rfl) (fun x16 => ?_)
        refine sX_ifeq (o := 7) (t := 148) (by decide +kernel) (by decide) (fun _ => ?_) (fun _ => ?_)
        · refine sX_iconst (n := 0) (v := (0 : Int32)) (by decide +kernel) (by decide) ?_
          exact sX.le (xB149 v6 x15 v6 ((0 : Int32)) M) (sLe_s (sLe_s (sLe_s (sLe_s (sLe_s (sLe_s (sLe_s sLe_e)))))))
        · refine sX_iconst (n := 1) (v := (1 : Int32)) (by decide +kernel) (by decide) ?_
          refine sX_goto (o := 4) (t := 149) (by decide +kernel) (by decide) ?_
          exact sX.le (xB149 v6 x15 v6 ((1 : Int32)) M) (sLe_s (sLe_s (sLe_s (sLe_s (sLe_s (sLe_s (sLe_s sLe_e)))))))
    exact fun a => xK117 a.1 a.2
  have xB84 : ∀ (v0 : Nat) (v1 : Nat) (v2 : Int32) (v3 : Nat) (v4 : Nat) (v5 : Int32) (M : sMem), sX G l 6 yX0_answerOf cX0_answerOf 7 (some .int) M0 r M' 84 [some (.ref v0), some (.ref v1), some (.int v2), some (.ref v3), some (.ref v4), some (.int v5), none] [] M (f_X0_answerOf_B84 v0 v1 v2 v3 v4 v5 M) K := by
    intro v0 v1 v2 v3 v4 v5 M
    unfold f_X0_answerOf_B84
    refine sX_aload_n (i := 0) (by decide +kernel) rfl ?_
    refine sX_getR lf_X0_12 tk_0_0 (by decide +kernel) (fun x17 => ?_)
    refine sX_getR lf_X0_103 tk_2_0 (by decide +kernel) (fun x18 => ?_)
    refine sX_bipush (n := 23) (v := (23 : Int32)) (by decide +kernel) (by decide) ?_
    refine sX_aload_n (i := 1) (by decide +kernel) rfl ?_
    refine sX_getR lf_X0_120 tk_8_5 (by decide +kernel) (fun x19 => ?_)
    refine sX_iload_n (i := 2) (by decide +kernel) rfl ?_
    refine sX_iaload (by decide +kernel) (fun x20 => ?_)
    refine sX_iastore (by decide +kernel) (by decide) (fun M21 => ?_)
    refine sX_aload_n (i := 0) (by decide +kernel) rfl ?_
    refine sX_getR lf_X0_12 tk_0_0 (by decide +kernel) (fun x22 => ?_)
    refine sX_getR lf_X0_103 tk_2_0 (by decide +kernel) (fun x23 => ?_)
    refine sX_bipush (n := 21) (v := (21 : Int32)) (by decide +kernel) (by decide) ?_
    refine sX_aload_n (i := 1) (by decide +kernel) rfl ?_
    refine sX_getI lf_X0_106 tk_8_0 (by decide +kernel) (fun x24 => ?_)
    refine sX_iastore (by decide +kernel) (by decide) (fun M25 => ?_)
    refine sX_iconst (n := 0) (v := (0 : Int32)) (by decide +kernel) (by decide) ?_
    refine sX_istore (i := 6) (ls2 := [some (.ref v0), some (.ref v1), some (.int v2), some (.ref v3), some (.ref v4), some (.int v5), some (.int (0 : Int32))]) (by decide +kernel) (by decide) rfl ?_
    exact sX.le (xL117 v0 v1 v2 v3 v4 v5 ((0 : Int32)) M25) (sLe_s (sLe_s (sLe_s (sLe_s (sLe_s (sLe_s (sLe_s sLe_e)))))))
  refine sX_rc ?_
  refine sX_aload_n (i := 0) (by decide +kernel) rfl ?_
  refine sX_getR lf_X0_29 tk_0_3 (by decide +kernel) (fun x26 => ?_)
  refine sX_getR lf_X0_71 tk_1_5 (by decide +kernel) (fun x27 => ?_)
  refine sX_iload_n (i := 2) (by decide +kernel) rfl ?_
  refine sX_iconst (n := 2) (v := (2 : Int32)) (by decide +kernel) (by decide) ?_
  refine sX_callVp (As := [.int v2, .int (2 : Int32)]) (by decide +kernel) lm_X0_77 mf_X9_cell mi_X9_cell mc_9 (m_X9_cell G l x27 v2 ((2 : Int32)) M0) (fun _ h => sRc_some h) (by decide) rfl rfl (Nat.le_of_ble_eq_true rfl) (fun x28 => ?_)
  refine sX_istore (i := 5) (ls2 := [some (.ref v0), some (.ref v1), some (.int v2), some (.ref v3), some (.ref v4), some (.int x28), none]) (by decide +kernel) (by decide) rfl ?_
  refine sX_aload_n (i := 0) (by decide +kernel) rfl ?_
  refine sX_getR lf_X0_12 tk_0_0 (by decide +kernel) (fun x29 => ?_)
  refine sX_getR lf_X0_103 tk_2_0 (by decide +kernel) (fun x30 => ?_)
  refine sX_bipush (n := 22) (v := (22 : Int32)) (by decide +kernel) (by decide) ?_
  refine sX_aload_n (i := 0) (by decide +kernel) rfl ?_
  refine sX_aload_n (i := 1) (by decide +kernel) rfl ?_
  refine sX_iload_n (i := 2) (by decide +kernel) rfl ?_
  refine sX_aload_n (i := 3) (by decide +kernel) rfl ?_
  refine sX_callV (As := [.ref v1, .int v2, .ref v3]) (by decide +kernel) lm_X0_94 mf_X0_waitOf mi_X0_waitOf mc_0 (m_X0_waitOf G l v0 v1 v2 v3 M0) (fun _ h => sRc_some h) (by decide) rfl rfl (Nat.le_of_ble_eq_true rfl) (fun x31 M32 _ => ?_)
  refine sX_iastore (by decide +kernel) (by decide) (fun M33 => ?_)
  refine sX_aload_n (i := 0) (by decide +kernel) rfl ?_
  refine sX_getR lf_X0_12 tk_0_0 (by decide +kernel) (fun x34 => ?_)
  refine sX_getR lf_X0_103 tk_2_0 (by decide +kernel) (fun x35 => ?_)
  refine sX_bipush (n := 24) (v := (24 : Int32)) (by decide +kernel) (by decide) ?_
  refine sX_iload_n (i := 2) (by decide +kernel) rfl ?_
  refine sX_iastore (by decide +kernel) (by decide) (fun M36 => ?_)
  refine sX_aload_n (i := 0) (by decide +kernel) rfl ?_
  refine sX_getR lf_X0_12 tk_0_0 (by decide +kernel) (fun x37 => ?_)
  refine sX_getR lf_X0_103 tk_2_0 (by decide +kernel) (fun x38 => ?_)
  refine sX_iconst (n := 2) (v := (2 : Int32)) (by decide +kernel) (by decide) ?_
  refine sX_aload_n (i := 1) (by decide +kernel) rfl ?_
  refine sX_getR lf_X0_55 tk_8_3 (by decide +kernel) (fun x39 => ?_)
  refine sX_iload_n (i := 2) (by decide +kernel) rfl ?_
  refine sX_iaload (by decide +kernel) (fun x40 => ?_)
  refine sX_iastore (by decide +kernel) (by decide) (fun M41 => ?_)
  refine sX_aload_n (i := 0) (by decide +kernel) rfl ?_
  refine sX_getR lf_X0_12 tk_0_0 (by decide +kernel) (fun x42 => ?_)
  refine sX_getR lf_X0_103 tk_2_0 (by decide +kernel) (fun x43 => ?_)
  refine sX_iconst (n := 5) (v := (5 : Int32)) (by decide +kernel) (by decide) ?_
  refine sX_aload_n (i := 1) (by decide +kernel) rfl ?_
  refine sX_getR lf_X0_64 tk_8_4 (by decide +kernel) (fun x44 => ?_)
  refine sX_iload_n (i := 2) (by decide +kernel) rfl ?_
  refine sX_iaload (by decide +kernel) (fun x45 => ?_)
  refine sX_iastore (by decide +kernel) (by decide) (fun M46 => ?_)
  refine sX_aload_n (i := 0) (by decide +kernel) rfl ?_
  refine sX_getR lf_X0_12 tk_0_0 (by decide +kernel) (fun x47 => ?_)
  refine sX_getR lf_X0_103 tk_2_0 (by decide +kernel) (fun x48 => ?_)
  refine sX_bipush (n := 12) (v := (12 : Int32)) (by decide +kernel) (by decide) ?_
  refine sX_iload (i := 5) (by decide +kernel) rfl ?_
  refine sX_iastore (by decide +kernel) (by decide) (fun M49 => ?_)
  exact sX.le (xB84 v0 v1 v2 v3 v4 x28 M49) (sLe_s (sLe_s (sLe_s (sLe_s (sLe_s (sLe_s (sLe_n sLe_e)))))))
def f_X9_init (v0 : Nat) (v1 : Int32) (M0 : sMem) : Option sMem :=
  (pI 9 4 0 M0 v0 v1).bind fun M1 =>
  (nA 14 M1 v1).bind fun (q2, M3) =>
  (pR 9 4 1 M3 v0 q2).bind fun M4 =>
  (nA 14 M4 ((v1 * (4 : Int32)))).bind fun (q5, M6) =>
  (pR 9 4 2 M6 v0 q5).bind fun M7 =>
  some M7
set_option maxRecDepth 100000 in
set_option maxHeartbeats 4000000 in
theorem m_X9_init (G : sG) (l : Launch) (v0 : Nat) (v1 : Int32) (M0 : sMem) : sCv G l 1 yX9_init cX9_init 2 none [.ref v0, .int v1] M0 (f_X9_init v0 v1 M0) := by
  refine sC_v (ls := [some (.ref v0), some (.int v1)]) (by decide +kernel) rfl (Nat.le_of_ble_eq_true rfl) (fun r M' K hr => ?_)
  unfold f_X9_init
  refine sX_aload_n (i := 0) (by decide +kernel) rfl ?_
  refine sX_objI (by decide +kernel) lo_X9_3 oi_ok (by decide) (Nat.le_of_ble_eq_true rfl) ?_
  refine sX_aload_n (i := 0) (by decide +kernel) rfl ?_
  refine sX_iload_n (i := 1) (by decide +kernel) rfl ?_
  refine sX_putFI lg_X9_9 rfl tp_9_0 (by decide +kernel) (by decide) (fun M1 => ?_)
  refine sX_aload_n (i := 0) (by decide +kernel) rfl ?_
  refine sX_iload_n (i := 1) (by decide +kernel) rfl ?_
  refine sX_newa ak_int (by decide +kernel) (by decide) (fun q2 M3 => ?_)
  refine sX_putFR lg_X9_15 rfl tk_9_1 (by decide +kernel) (by decide) (fun M4 => ?_)
  refine sX_aload_n (i := 0) (by decide +kernel) rfl ?_
  refine sX_iload_n (i := 1) (by decide +kernel) rfl ?_
  refine sX_iconst (n := 4) (v := (4 : Int32)) (by decide +kernel) (by decide) ?_
  refine sX_imul (by decide +kernel) ?_
  refine sX_newa ak_int (by decide +kernel) (by decide) (fun q5 M6 => ?_)
  refine sX_putFR lg_X9_19 rfl tk_9_2 (by decide +kernel) (by decide) (fun M7 => ?_)
  exact sX_some (fun h _ => sW_vret (by decide +kernel) rfl (hr _ h).1.symm (hr _ h).2.symm)
def f_X6_init (v0 : Nat) (M0 : sMem) : Option sMem :=
  (nA 14 M0 ((64 : Int32))).bind fun (q1, M2) =>
  (pR 6 2 0 M2 v0 q1).bind fun M3 =>
  some M3
set_option maxRecDepth 100000 in
set_option maxHeartbeats 4000000 in
theorem m_X6_init (G : sG) (l : Launch) (v0 : Nat) (M0 : sMem) : sCv G l 1 yX6_init cX6_init 1 none [.ref v0] M0 (f_X6_init v0 M0) := by
  refine sC_v (ls := [some (.ref v0)]) (by decide +kernel) rfl (Nat.le_of_ble_eq_true rfl) (fun r M' K hr => ?_)
  unfold f_X6_init
  refine sX_aload_n (i := 0) (by decide +kernel) rfl ?_
  refine sX_objI (by decide +kernel) lo_X6_3 oi_ok (by decide) (Nat.le_of_ble_eq_true rfl) ?_
  refine sX_aload_n (i := 0) (by decide +kernel) rfl ?_
  refine sX_bipush (n := 64) (v := (64 : Int32)) (by decide +kernel) (by decide) ?_
  refine sX_newa ak_int (by decide +kernel) (by decide) (fun q1 M2 => ?_)
  refine sX_putR lf_X6_9 tk_6_0 (by decide +kernel) (by decide) (fun M3 => ?_)
  exact sX_some (fun h _ => sW_vret (by decide +kernel) rfl (hr _ h).1.symm (hr _ h).2.symm)
def f_X1_init_B100 (M : sMem) : Option sMem :=
  some M
def f_X1_init (v0 : Nat) (M0 : sMem) : Option sMem :=
  (f_X9_init ((sLen M0)) ((6 : Int32)) (sNew 9 4 M0)).bind fun M1 =>
  (pR 1 10 1 M1 v0 ((sLen M0))).bind fun M2 =>
  (f_X9_init ((sLen M2)) ((7 : Int32)) (sNew 9 4 M2)).bind fun M3 =>
  (pR 1 10 2 M3 v0 ((sLen M2))).bind fun M4 =>
  (f_X9_init ((sLen M4)) ((12 : Int32)) (sNew 9 4 M4)).bind fun M5 =>
  (pR 1 10 3 M5 v0 ((sLen M4))).bind fun M6 =>
  (f_X9_init ((sLen M6)) ((5 : Int32)) (sNew 9 4 M6)).bind fun M7 =>
  (pR 1 10 4 M7 v0 ((sLen M6))).bind fun M8 =>
  (f_X9_init ((sLen M8)) ((5 : Int32)) (sNew 9 4 M8)).bind fun M9 =>
  (pR 1 10 5 M9 v0 ((sLen M8))).bind fun M10 =>
  (f_X6_init ((sLen M10)) (sNew 6 2 M10)).bind fun M11 =>
  (pR 1 10 6 M11 v0 ((sLen M10))).bind fun M12 =>
  (f_X6_init ((sLen M12)) (sNew 6 2 M12)).bind fun M13 =>
  (pR 1 10 7 M13 v0 ((sLen M12))).bind fun M14 =>
  (f_X6_init ((sLen M14)) (sNew 6 2 M14)).bind fun M15 =>
  (pR 1 10 8 M15 v0 ((sLen M14))).bind fun M16 =>
  f_X1_init_B100 M16
set_option maxRecDepth 100000 in
set_option maxHeartbeats 4000000 in
theorem m_X1_init (G : sG) (l : Launch) (v0 : Nat) (M0 : sMem) : sCv G l 2 yX1_init cX1_init 1 none [.ref v0] M0 (f_X1_init v0 M0) := by
  refine sC_v (ls := [some (.ref v0)]) (by decide +kernel) rfl (Nat.le_of_ble_eq_true rfl) (fun r M' K hr => ?_)
  unfold f_X1_init
  have xB100 : ∀ (M : sMem), sX G l 2 yX1_init cX1_init 1 none M0 r M' 100 [none] [] M (f_X1_init_B100 M) K := by
    intro M
    unfold f_X1_init_B100
    exact sX_some (fun h _ => sW_vret (by decide +kernel) rfl (hr _ h).1.symm (hr _ h).2.symm)
  refine sX_aload_n (i := 0) (by decide +kernel) rfl ?_
  refine sX_objI (by decide +kernel) lo_X1_3 oi_ok (by decide) (Nat.le_of_ble_eq_true rfl) ?_
  refine sX_aload_n (i := 0) (by decide +kernel) rfl ?_
  refine sX_new cw_X1_9 (by decide +kernel) (by decide) ?_
  refine sX_dup (by decide +kernel) rfl ?_
  refine sX_bipush (n := 6) (v := (6 : Int32)) (by decide +kernel) (by decide) ?_
  refine sX_callIv (As := [.int (6 : Int32)]) (by decide +kernel) lm_X1_11 mf_X9_init mj_X9_init (m_X9_init G l ((sLen M0)) ((6 : Int32)) (sNew 9 4 M0)) (by decide) rfl rfl (Nat.le_of_ble_eq_true rfl) (fun M1 => ?_)
  refine sX_putFR lg_X1_14 rfl tk_1_1 (by decide +kernel) (by decide) (fun M2 => ?_)
  refine sX_aload_n (i := 0) (by decide +kernel) rfl ?_
  refine sX_new cw_X1_9 (by decide +kernel) (by decide) ?_
  refine sX_dup (by decide +kernel) rfl ?_
  refine sX_bipush (n := 7) (v := (7 : Int32)) (by decide +kernel) (by decide) ?_
  refine sX_callIv (As := [.int (7 : Int32)]) (by decide +kernel) lm_X1_11 mf_X9_init mj_X9_init (m_X9_init G l ((sLen M2)) ((7 : Int32)) (sNew 9 4 M2)) (by decide) rfl rfl (Nat.le_of_ble_eq_true rfl) (fun M3 => ?_)
  refine sX_putFR lg_X1_20 rfl tk_1_2 (by decide +kernel) (by decide) (fun M4 => ?_)
  refine sX_aload_n (i := 0) (by decide +kernel) rfl ?_
  refine sX_new cw_X1_9 (by decide +kernel) (by decide) ?_
  refine sX_dup (by decide +kernel) rfl ?_
  refine sX_bipush (n := 12) (v := (12 : Int32)) (by decide +kernel) (by decide) ?_
  refine sX_callIv (As := [.int (12 : Int32)]) (by decide +kernel) lm_X1_11 mf_X9_init mj_X9_init (m_X9_init G l ((sLen M4)) ((12 : Int32)) (sNew 9 4 M4)) (by decide) rfl rfl (Nat.le_of_ble_eq_true rfl) (fun M5 => ?_)
  refine sX_putFR lg_X1_23 rfl tk_1_3 (by decide +kernel) (by decide) (fun M6 => ?_)
  refine sX_aload_n (i := 0) (by decide +kernel) rfl ?_
  refine sX_new cw_X1_9 (by decide +kernel) (by decide) ?_
  refine sX_dup (by decide +kernel) rfl ?_
  refine sX_iconst (n := 5) (v := (5 : Int32)) (by decide +kernel) (by decide) ?_
  refine sX_callIv (As := [.int (5 : Int32)]) (by decide +kernel) lm_X1_11 mf_X9_init mj_X9_init (m_X9_init G l ((sLen M6)) ((5 : Int32)) (sNew 9 4 M6)) (by decide) rfl rfl (Nat.le_of_ble_eq_true rfl) (fun M7 => ?_)
  refine sX_putFR lg_X1_26 rfl tk_1_4 (by decide +kernel) (by decide) (fun M8 => ?_)
  refine sX_aload_n (i := 0) (by decide +kernel) rfl ?_
  refine sX_new cw_X1_9 (by decide +kernel) (by decide) ?_
  refine sX_dup (by decide +kernel) rfl ?_
  refine sX_iconst (n := 5) (v := (5 : Int32)) (by decide +kernel) (by decide) ?_
  refine sX_callIv (As := [.int (5 : Int32)]) (by decide +kernel) lm_X1_11 mf_X9_init mj_X9_init (m_X9_init G l ((sLen M8)) ((5 : Int32)) (sNew 9 4 M8)) (by decide) rfl rfl (Nat.le_of_ble_eq_true rfl) (fun M9 => ?_)
  refine sX_putFR lg_X1_29 rfl tk_1_5 (by decide +kernel) (by decide) (fun M10 => ?_)
  refine sX_aload_n (i := 0) (by decide +kernel) rfl ?_
  refine sX_new cw_X1_32 (by decide +kernel) (by decide) ?_
  refine sX_dup (by decide +kernel) rfl ?_
  refine sX_callIv (As := []) (by decide +kernel) lm_X1_34 mf_X6_init mj_X6_init (m_X6_init G l ((sLen M10)) (sNew 6 2 M10)) (by decide) rfl rfl (Nat.le_of_ble_eq_true rfl) (fun M11 => ?_)
  refine sX_putFR lg_X1_35 rfl tk_1_6 (by decide +kernel) (by decide) (fun M12 => ?_)
  refine sX_aload_n (i := 0) (by decide +kernel) rfl ?_
  refine sX_new cw_X1_32 (by decide +kernel) (by decide) ?_
  refine sX_dup (by decide +kernel) rfl ?_
  refine sX_callIv (As := []) (by decide +kernel) lm_X1_34 mf_X6_init mj_X6_init (m_X6_init G l ((sLen M12)) (sNew 6 2 M12)) (by decide) rfl rfl (Nat.le_of_ble_eq_true rfl) (fun M13 => ?_)
  refine sX_putFR lg_X1_39 rfl tk_1_7 (by decide +kernel) (by decide) (fun M14 => ?_)
  refine sX_aload_n (i := 0) (by decide +kernel) rfl ?_
  refine sX_new cw_X1_32 (by decide +kernel) (by decide) ?_
  refine sX_dup (by decide +kernel) rfl ?_
  refine sX_callIv (As := []) (by decide +kernel) lm_X1_34 mf_X6_init mj_X6_init (m_X6_init G l ((sLen M14)) (sNew 6 2 M14)) (by decide) rfl rfl (Nat.le_of_ble_eq_true rfl) (fun M15 => ?_)
  refine sX_putFR lg_X1_42 rfl tk_1_8 (by decide +kernel) (by decide) (fun M16 => ?_)
  exact sX.le (xB100 M16) (sLe_n sLe_e)
def f_X1_clear (v0 : Nat) (M0 : sMem) : Option sMem :=
  sRc 1 10 M0 v0 (
    (pI 1 10 0 M0 v0 ((0 : Int32))).bind fun M1 =>
    (gR 1 10 1 M1 v0).bind fun x2 =>
    (pI 9 4 3 M1 x2 ((0 : Int32))).bind fun M3 =>
    (gR 1 10 2 M3 v0).bind fun x4 =>
    (pI 9 4 3 M3 x4 ((0 : Int32))).bind fun M5 =>
    (gR 1 10 3 M5 v0).bind fun x6 =>
    (pI 9 4 3 M5 x6 ((0 : Int32))).bind fun M7 =>
    (gR 1 10 4 M7 v0).bind fun x8 =>
    (pI 9 4 3 M7 x8 ((0 : Int32))).bind fun M9 =>
    (gR 1 10 5 M9 v0).bind fun x10 =>
    (pI 9 4 3 M9 x10 ((0 : Int32))).bind fun M11 =>
    (gR 1 10 6 M11 v0).bind fun x12 =>
    (pI 6 2 1 M11 x12 ((0 : Int32))).bind fun M13 =>
    (gR 1 10 7 M13 v0).bind fun x14 =>
    (pI 6 2 1 M13 x14 ((0 : Int32))).bind fun M15 =>
    (gR 1 10 8 M15 v0).bind fun x16 =>
    (pI 6 2 1 M15 x16 ((0 : Int32))).bind fun M17 =>
    (pI 1 10 9 M17 v0 ((0 : Int32))).bind fun M18 =>
    some M18)
set_option maxRecDepth 100000 in
set_option maxHeartbeats 4000000 in
theorem m_X1_clear (G : sG) (l : Launch) (v0 : Nat) (M0 : sMem) : sCv G l 1 yX1_clear cX1_clear 1 none [.ref v0] M0 (f_X1_clear v0 M0) := by
  refine sC_v (ls := [some (.ref v0)]) (by decide +kernel) rfl (Nat.le_of_ble_eq_true rfl) (fun r M' K hr => ?_)
  unfold f_X1_clear
  refine sX_rc ?_
  refine sX_aload_n (i := 0) (by decide +kernel) rfl ?_
  refine sX_iconst (n := 0) (v := (0 : Int32)) (by decide +kernel) (by decide) ?_
  refine sX_putI lf_X1_45 tp_1_0 (by decide +kernel) (by decide) (fun M1 => ?_)
  refine sX_aload_n (i := 0) (by decide +kernel) rfl ?_
  refine sX_getR lf_X1_14 tk_1_1 (by decide +kernel) (fun x2 => ?_)
  refine sX_iconst (n := 0) (v := (0 : Int32)) (by decide +kernel) (by decide) ?_
  refine sX_putI lf_X1_49 tp_9_3 (by decide +kernel) (by decide) (fun M3 => ?_)
  refine sX_aload_n (i := 0) (by decide +kernel) rfl ?_
  refine sX_getR lf_X1_20 tk_1_2 (by decide +kernel) (fun x4 => ?_)
  refine sX_iconst (n := 0) (v := (0 : Int32)) (by decide +kernel) (by decide) ?_
  refine sX_putI lf_X1_49 tp_9_3 (by decide +kernel) (by decide) (fun M5 => ?_)
  refine sX_aload_n (i := 0) (by decide +kernel) rfl ?_
  refine sX_getR lf_X1_23 tk_1_3 (by decide +kernel) (fun x6 => ?_)
  refine sX_iconst (n := 0) (v := (0 : Int32)) (by decide +kernel) (by decide) ?_
  refine sX_putI lf_X1_49 tp_9_3 (by decide +kernel) (by decide) (fun M7 => ?_)
  refine sX_aload_n (i := 0) (by decide +kernel) rfl ?_
  refine sX_getR lf_X1_26 tk_1_4 (by decide +kernel) (fun x8 => ?_)
  refine sX_iconst (n := 0) (v := (0 : Int32)) (by decide +kernel) (by decide) ?_
  refine sX_putI lf_X1_49 tp_9_3 (by decide +kernel) (by decide) (fun M9 => ?_)
  refine sX_aload_n (i := 0) (by decide +kernel) rfl ?_
  refine sX_getR lf_X1_29 tk_1_5 (by decide +kernel) (fun x10 => ?_)
  refine sX_iconst (n := 0) (v := (0 : Int32)) (by decide +kernel) (by decide) ?_
  refine sX_putI lf_X1_49 tp_9_3 (by decide +kernel) (by decide) (fun M11 => ?_)
  refine sX_aload_n (i := 0) (by decide +kernel) rfl ?_
  refine sX_getR lf_X1_35 tk_1_6 (by decide +kernel) (fun x12 => ?_)
  refine sX_iconst (n := 0) (v := (0 : Int32)) (by decide +kernel) (by decide) ?_
  refine sX_putI lf_X1_52 tp_6_1 (by decide +kernel) (by decide) (fun M13 => ?_)
  refine sX_aload_n (i := 0) (by decide +kernel) rfl ?_
  refine sX_getR lf_X1_39 tk_1_7 (by decide +kernel) (fun x14 => ?_)
  refine sX_iconst (n := 0) (v := (0 : Int32)) (by decide +kernel) (by decide) ?_
  refine sX_putI lf_X1_52 tp_6_1 (by decide +kernel) (by decide) (fun M15 => ?_)
  refine sX_aload_n (i := 0) (by decide +kernel) rfl ?_
  refine sX_getR lf_X1_42 tk_1_8 (by decide +kernel) (fun x16 => ?_)
  refine sX_iconst (n := 0) (v := (0 : Int32)) (by decide +kernel) (by decide) ?_
  refine sX_putI lf_X1_52 tp_6_1 (by decide +kernel) (by decide) (fun M17 => ?_)
  refine sX_aload_n (i := 0) (by decide +kernel) rfl ?_
  refine sX_iconst (n := 0) (v := (0 : Int32)) (by decide +kernel) (by decide) ?_
  refine sX_putI lf_X1_55 tp_1_9 (by decide +kernel) (by decide) (fun M18 => ?_)
  exact sX_some (fun h _ => sW_vret (by decide +kernel) rfl (hr _ h).1.symm (hr _ h).2.symm)
def f_J7_copyOf_59c91 (v0 : Nat) (v1 : Int32) (M0 : sMem) : Option (Nat × sMem) :=
  (aL 14 M0 v0).bind fun x1 =>
  if v1 = x1 then
    none
  else
    (nA 14 M0 v1).bind fun (q2, M3) =>
    (aL 14 M3 v0).bind fun x4 =>
    (f_J9_min_7cf53 x4 v1 M3).bind fun x5 =>
    (cpI M3 v0 ((0 : Int32)) q2 ((0 : Int32)) x5).bind fun M6 =>
    some ((q2, M6))
set_option maxRecDepth 100000 in
set_option maxHeartbeats 4000000 in
theorem m_J7_copyOf_59c91 (G : sG) (l : Launch) (v0 : Nat) (v1 : Int32) (M0 : sMem) : sC G l 2 yJ7_copyOf_59c91 cJ7_copyOf_59c91 3 (some (.array .int)) [.ref v0, .int v1] M0 rvR (f_J7_copyOf_59c91 v0 v1 M0) := by
  refine sC_m (ls := [some (.ref v0), some (.int v1), none]) (by decide +kernel) rfl (Nat.le_of_ble_eq_true rfl) (fun r M' K hr => ?_)
  unfold f_J7_copyOf_59c91
  refine sX_iload_n (i := 1) (by decide +kernel) rfl ?_
  refine sX_aload_n (i := 0) (by decide +kernel) rfl ?_
  refine sX_alen (by decide) (by decide) (by decide +kernel) (fun x1 => ?_)
  refine sX_icne (o := 11) (t := 14) (by decide +kernel) (by decide) (fun _ => ?_) (fun _ => ?_)
  · refine sX_aload_n (i := 0) (by decide +kernel) rfl ?_
    exact sX_none
  · refine sX_iload_n (i := 1) (by decide +kernel) rfl ?_
    refine sX_newa ak_int (by decide +kernel) (by decide) (fun q2 M3 => ?_)
    refine sX_astore_n (i := 2) (ls2 := [some (.ref v0), some (.int v1), some (.ref q2)]) (by decide +kernel) (by decide) rfl ?_
    refine sX_aload_n (i := 0) (by decide +kernel) rfl ?_
    refine sX_iconst (n := 0) (v := (0 : Int32)) (by decide +kernel) (by decide) ?_
    refine sX_aload_n (i := 2) (by decide +kernel) rfl ?_
    refine sX_iconst (n := 0) (v := (0 : Int32)) (by decide +kernel) (by decide) ?_
    refine sX_aload_n (i := 0) (by decide +kernel) rfl ?_
    refine sX_alen (by decide) (by decide) (by decide +kernel) (fun x4 => ?_)
    refine sX_iload_n (i := 1) (by decide +kernel) rfl ?_
    refine sX_callSp (As := [.int x4, .int v1]) (by decide +kernel) lm_J7_304 mf_J9_min_7cf53 ms_J9_min_7cf53 (m_J9_min_7cf53 G l x4 v1 M3) (by decide) rfl rfl (Nat.le_of_ble_eq_true rfl) (fun x5 => ?_)
    refine sX_copy (by decide +kernel) la_J7_150 ac_ok (by decide) (Nat.le_of_ble_eq_true rfl) (fun M6 => ?_)
    refine sX_aload_n (i := 2) (by decide +kernel) rfl ?_
    exact sX_some (fun h _ => sW_aret (by decide +kernel) rfl (Or.inr ⟨_, rfl⟩) (hr _ h).1.symm (hr _ h).2.symm)
def f_X6_add_B39 (v0 : Nat) (v1 : Int32) (M : sMem) : Option sMem :=
  (gI 6 2 1 M v0).bind fun x1 =>
  (gR 6 2 0 M v0).bind fun x2 =>
  (aL 14 M x2).bind fun x3 =>
  if x3 ≤ x1 then
    some M
  else
    (gR 6 2 0 M v0).bind fun x4 =>
    (gI 6 2 1 M v0).bind fun x5 =>
    (stI M x4 x5 v1).bind fun M6 =>
    (gI 6 2 1 M6 v0).bind fun x7 =>
    (pI 6 2 1 M6 v0 ((x7 + (1 : Int32)))).bind fun M8 =>
    some M8
def f_X6_add (v0 : Nat) (v1 : Int32) (M0 : sMem) : Option sMem :=
  sRc 6 2 M0 v0 (
    (gI 6 2 1 M0 v0).bind fun x9 =>
    (gR 6 2 0 M0 v0).bind fun x10 =>
    (aL 14 M0 x10).bind fun x11 =>
    if x9 = x11 then
      (gI 6 2 1 M0 v0).bind fun x12 =>
      if (1600 : Int32) ≤ x12 then
        f_X6_add_B39 v0 v1 M0
      else
        (gR 6 2 0 M0 v0).bind fun x13 =>
        (gI 6 2 1 M0 v0).bind fun x14 =>
        (f_J7_copyOf_59c91 x13 (((2 : Int32) * x14)) M0).bind fun (x15, M16) =>
        (pR 6 2 0 M16 v0 x15).bind fun M17 =>
        f_X6_add_B39 v0 v1 M17
    else
      f_X6_add_B39 v0 v1 M0)
set_option maxRecDepth 100000 in
set_option maxHeartbeats 4000000 in
theorem m_X6_add (G : sG) (l : Launch) (v0 : Nat) (v1 : Int32) (M0 : sMem) : sCv G l 3 yX6_add cX6_add 2 none [.ref v0, .int v1] M0 (f_X6_add v0 v1 M0) := by
  refine sC_v (ls := [some (.ref v0), some (.int v1)]) (by decide +kernel) rfl (Nat.le_of_ble_eq_true rfl) (fun r M' K hr => ?_)
  unfold f_X6_add
  have xB39 : ∀ (v0 : Nat) (v1 : Int32) (M : sMem), sX G l 3 yX6_add cX6_add 2 none M0 r M' 39 [some (.ref v0), some (.int v1)] [] M (f_X6_add_B39 v0 v1 M) K := by
    intro v0 v1 M
    unfold f_X6_add_B39
    refine sX_aload_n (i := 0) (by decide +kernel) rfl ?_
    refine sX_getI lf_X6_15 tk_6_1 (by decide +kernel) (fun x1 => ?_)
    refine sX_aload_n (i := 0) (by decide +kernel) rfl ?_
    refine sX_getR lf_X6_9 tk_6_0 (by decide +kernel) (fun x2 => ?_)
    refine sX_alen (by decide) (by decide) (by decide +kernel) (fun x3 => ?_)
    refine sX_icge (o := 23) (t := 71) (by decide +kernel) (by decide) (fun _ => ?_) (fun _ => ?_)
    · exact sX_some (fun h _ => sW_vret (by decide +kernel) rfl (hr _ h).1.symm (hr _ h).2.symm)
    · refine sX_aload_n (i := 0) (by decide +kernel) rfl ?_
      refine sX_getR lf_X6_9 tk_6_0 (by decide +kernel) (fun x4 => ?_)
      refine sX_aload_n (i := 0) (by decide +kernel) rfl ?_
      refine sX_getI lf_X6_15 tk_6_1 (by decide +kernel) (fun x5 => ?_)
      refine sX_iload_n (i := 1) (by decide +kernel) rfl ?_
      refine sX_iastore (by decide +kernel) (by decide) (fun M6 => ?_)
      refine sX_aload_n (i := 0) (by decide +kernel) rfl ?_
      refine sX_dup (by decide +kernel) rfl ?_
      refine sX_getI lf_X6_15 tk_6_1 (by decide +kernel) (fun x7 => ?_)
      refine sX_iconst (n := 1) (v := (1 : Int32)) (by decide +kernel) (by decide) ?_
      refine sX_iadd (by decide +kernel) ?_
      refine sX_putI lf_X6_15 tp_6_1 (by decide +kernel) (by decide) (fun M8 => ?_)
      exact sX_some (fun h _ => sW_vret (by decide +kernel) rfl (hr _ h).1.symm (hr _ h).2.symm)
  refine sX_rc ?_
  refine sX_aload_n (i := 0) (by decide +kernel) rfl ?_
  refine sX_getI lf_X6_15 tk_6_1 (by decide +kernel) (fun x9 => ?_)
  refine sX_aload_n (i := 0) (by decide +kernel) rfl ?_
  refine sX_getR lf_X6_9 tk_6_0 (by decide +kernel) (fun x10 => ?_)
  refine sX_alen (by decide) (by decide) (by decide +kernel) (fun x11 => ?_)
  refine sX_icne (o := 30) (t := 39) (by decide +kernel) (by decide) (fun _ => ?_) (fun _ => ?_)
  · refine sX_aload_n (i := 0) (by decide +kernel) rfl ?_
    refine sX_getI lf_X6_15 tk_6_1 (by decide +kernel) (fun x12 => ?_)
    refine sX_sipush (n := 1600) (v := (1600 : Int32)) (by decide +kernel) (by decide) ?_
    refine sX_icge (o := 20) (t := 39) (by decide +kernel) (by decide) (fun _ => ?_) (fun _ => ?_)
    · exact sX.le (xB39 v0 v1 M0) (sLe_s (sLe_s sLe_e))
    · refine sX_aload_n (i := 0) (by decide +kernel) rfl ?_
      refine sX_aload_n (i := 0) (by decide +kernel) rfl ?_
      refine sX_getR lf_X6_9 tk_6_0 (by decide +kernel) (fun x13 => ?_)
      refine sX_iconst (n := 2) (v := (2 : Int32)) (by decide +kernel) (by decide) ?_
      refine sX_aload_n (i := 0) (by decide +kernel) rfl ?_
      refine sX_getI lf_X6_15 tk_6_1 (by decide +kernel) (fun x14 => ?_)
      refine sX_imul (by decide +kernel) ?_
      refine sX_callS (As := [.ref x13, .int ((2 : Int32) * x14)]) (by decide +kernel) lm_X6_19 mf_J7_copyOf_59c91 ms_J7_copyOf_59c91 (m_J7_copyOf_59c91 G l x13 (((2 : Int32) * x14)) M0) (by decide) rfl rfl (Nat.le_of_ble_eq_true rfl) (fun x15 M16 _ => ?_)
      refine sX_putR lf_X6_9 tk_6_0 (by decide +kernel) (by decide) (fun M17 => ?_)
      exact sX.le (xB39 v0 v1 M17) (sLe_s (sLe_s sLe_e))
  · exact sX.le (xB39 v0 v1 M0) (sLe_s (sLe_s sLe_e))
def f_X1_fillIn_B93 (v0 : Nat) (M : sMem) : Option sMem :=
  (gR 1 10 8 M v0).bind fun x1 =>
  (gI 6 2 1 M x1).bind fun x2 =>
  if x2 = 0 then
    (gR 1 10 8 M v0).bind fun x3 =>
    (f_X6_add x3 ((10022 : Int32)) M).bind fun M4 =>
    some M4
  else
    some M
def f_X1_fillIn_B73 (v0 : Nat) (M : sMem) : Option sMem :=
  (gR 1 10 7 M v0).bind fun x5 =>
  (gI 6 2 1 M x5).bind fun x6 =>
  if x6 = 0 then
    (gR 1 10 7 M v0).bind fun x7 =>
    (f_X6_add x7 ((10015 : Int32)) M).bind fun M8 =>
    f_X1_fillIn_B93 v0 M8
  else
    f_X1_fillIn_B93 v0 M
def f_X1_fillIn (v0 : Nat) (M0 : sMem) : Option sMem :=
  sRc 1 10 M0 v0 (
    (gR 1 10 6 M0 v0).bind fun x9 =>
    (gI 6 2 1 M0 x9).bind fun x10 =>
    if x10 = 0 then
      (gR 1 10 6 M0 v0).bind fun x11 =>
      (f_X6_add x11 ((10018 : Int32)) M0).bind fun M12 =>
      (gR 1 10 6 M12 v0).bind fun x13 =>
      (f_X6_add x13 ((3 : Int32)) M12).bind fun M14 =>
      (gR 1 10 6 M14 v0).bind fun x15 =>
      (f_X6_add x15 ((-3 : Int32)) M14).bind fun M16 =>
      (gR 1 10 6 M16 v0).bind fun x17 =>
      (f_X6_add x17 ((10019 : Int32)) M16).bind fun M18 =>
      (gR 1 10 6 M18 v0).bind fun x19 =>
      (f_X6_add x19 ((1 : Int32)) M18).bind fun M20 =>
      (gR 1 10 6 M20 v0).bind fun x21 =>
      (f_X6_add x21 ((-3 : Int32)) M20).bind fun M22 =>
      (gR 1 10 6 M22 v0).bind fun x23 =>
      (f_X6_add x23 ((-2 : Int32)) M22).bind fun M24 =>
      f_X1_fillIn_B73 v0 M24
    else
      f_X1_fillIn_B73 v0 M0)
set_option maxRecDepth 100000 in
set_option maxHeartbeats 4000000 in
theorem m_X1_fillIn (G : sG) (l : Launch) (v0 : Nat) (M0 : sMem) : sCv G l 4 yX1_fillIn cX1_fillIn 1 none [.ref v0] M0 (f_X1_fillIn v0 M0) := by
  refine sC_v (ls := [some (.ref v0)]) (by decide +kernel) rfl (Nat.le_of_ble_eq_true rfl) (fun r M' K hr => ?_)
  unfold f_X1_fillIn
  have xB93 : ∀ (v0 : Nat) (M : sMem), sX G l 4 yX1_fillIn cX1_fillIn 1 none M0 r M' 93 [some (.ref v0)] [] M (f_X1_fillIn_B93 v0 M) K := by
    intro v0 M
    unfold f_X1_fillIn_B93
    refine sX_aload_n (i := 0) (by decide +kernel) rfl ?_
    refine sX_getR lf_X1_42 tk_1_8 (by decide +kernel) (fun x1 => ?_)
    refine sX_getI lf_X1_52 tk_6_1 (by decide +kernel) (fun x2 => ?_)
    refine sX_ifne (o := 13) (t := 113) (by decide +kernel) (by decide) (fun _ => ?_) (fun _ => ?_)
    · refine sX_aload_n (i := 0) (by decide +kernel) rfl ?_
      refine sX_getR lf_X1_42 tk_1_8 (by decide +kernel) (fun x3 => ?_)
      refine sX_sipush (n := 10022) (v := (10022 : Int32)) (by decide +kernel) (by decide) ?_
      refine sX_callVv (As := [.int (10022 : Int32)]) (by decide +kernel) lm_X1_58 mf_X6_add mi_X6_add mc_6 (m_X6_add G l x3 ((10022 : Int32)) M) (fun _ h => sRc_some h) (by decide) rfl rfl (Nat.le_of_ble_eq_true rfl) (fun M4 => ?_)
      exact sX_some (fun h _ => sW_vret (by decide +kernel) rfl (hr _ h).1.symm (hr _ h).2.symm)
    · exact sX_some (fun h _ => sW_vret (by decide +kernel) rfl (hr _ h).1.symm (hr _ h).2.symm)
  have xB73 : ∀ (v0 : Nat) (M : sMem), sX G l 4 yX1_fillIn cX1_fillIn 1 none M0 r M' 73 [some (.ref v0)] [] M (f_X1_fillIn_B73 v0 M) K := by
    intro v0 M
    unfold f_X1_fillIn_B73
    refine sX_aload_n (i := 0) (by decide +kernel) rfl ?_
    refine sX_getR lf_X1_39 tk_1_7 (by decide +kernel) (fun x5 => ?_)
    refine sX_getI lf_X1_52 tk_6_1 (by decide +kernel) (fun x6 => ?_)
    refine sX_ifne (o := 13) (t := 93) (by decide +kernel) (by decide) (fun _ => ?_) (fun _ => ?_)
    · refine sX_aload_n (i := 0) (by decide +kernel) rfl ?_
      refine sX_getR lf_X1_39 tk_1_7 (by decide +kernel) (fun x7 => ?_)
      refine sX_sipush (n := 10015) (v := (10015 : Int32)) (by decide +kernel) (by decide) ?_
      refine sX_callVv (As := [.int (10015 : Int32)]) (by decide +kernel) lm_X1_58 mf_X6_add mi_X6_add mc_6 (m_X6_add G l x7 ((10015 : Int32)) M) (fun _ h => sRc_some h) (by decide) rfl rfl (Nat.le_of_ble_eq_true rfl) (fun M8 => ?_)
      exact sX.le (xB93 v0 M8) (sLe_s sLe_e)
    · exact sX.le (xB93 v0 M) (sLe_s sLe_e)
  refine sX_rc ?_
  refine sX_aload_n (i := 0) (by decide +kernel) rfl ?_
  refine sX_getR lf_X1_35 tk_1_6 (by decide +kernel) (fun x9 => ?_)
  refine sX_getI lf_X1_52 tk_6_1 (by decide +kernel) (fun x10 => ?_)
  refine sX_ifne (o := 66) (t := 73) (by decide +kernel) (by decide) (fun _ => ?_) (fun _ => ?_)
  · refine sX_aload_n (i := 0) (by decide +kernel) rfl ?_
    refine sX_getR lf_X1_35 tk_1_6 (by decide +kernel) (fun x11 => ?_)
    refine sX_sipush (n := 10018) (v := (10018 : Int32)) (by decide +kernel) (by decide) ?_
    refine sX_callVv (As := [.int (10018 : Int32)]) (by decide +kernel) lm_X1_58 mf_X6_add mi_X6_add mc_6 (m_X6_add G l x11 ((10018 : Int32)) M0) (fun _ h => sRc_some h) (by decide) rfl rfl (Nat.le_of_ble_eq_true rfl) (fun M12 => ?_)
    refine sX_aload_n (i := 0) (by decide +kernel) rfl ?_
    refine sX_getR lf_X1_35 tk_1_6 (by decide +kernel) (fun x13 => ?_)
    refine sX_iconst (n := 3) (v := (3 : Int32)) (by decide +kernel) (by decide) ?_
    refine sX_callVv (As := [.int (3 : Int32)]) (by decide +kernel) lm_X1_58 mf_X6_add mi_X6_add mc_6 (m_X6_add G l x13 ((3 : Int32)) M12) (fun _ h => sRc_some h) (by decide) rfl rfl (Nat.le_of_ble_eq_true rfl) (fun M14 => ?_)
    refine sX_aload_n (i := 0) (by decide +kernel) rfl ?_
    refine sX_getR lf_X1_35 tk_1_6 (by decide +kernel) (fun x15 => ?_)
    refine sX_bipush (n := -3) (v := (-3 : Int32)) (by decide +kernel) (by decide) ?_
    refine sX_callVv (As := [.int (-3 : Int32)]) (by decide +kernel) lm_X1_58 mf_X6_add mi_X6_add mc_6 (m_X6_add G l x15 ((-3 : Int32)) M14) (fun _ h => sRc_some h) (by decide) rfl rfl (Nat.le_of_ble_eq_true rfl) (fun M16 => ?_)
    refine sX_aload_n (i := 0) (by decide +kernel) rfl ?_
    refine sX_getR lf_X1_35 tk_1_6 (by decide +kernel) (fun x17 => ?_)
    refine sX_sipush (n := 10019) (v := (10019 : Int32)) (by decide +kernel) (by decide) ?_
    refine sX_callVv (As := [.int (10019 : Int32)]) (by decide +kernel) lm_X1_58 mf_X6_add mi_X6_add mc_6 (m_X6_add G l x17 ((10019 : Int32)) M16) (fun _ h => sRc_some h) (by decide) rfl rfl (Nat.le_of_ble_eq_true rfl) (fun M18 => ?_)
    refine sX_aload_n (i := 0) (by decide +kernel) rfl ?_
    refine sX_getR lf_X1_35 tk_1_6 (by decide +kernel) (fun x19 => ?_)
    refine sX_iconst (n := 1) (v := (1 : Int32)) (by decide +kernel) (by decide) ?_
    refine sX_callVv (As := [.int (1 : Int32)]) (by decide +kernel) lm_X1_58 mf_X6_add mi_X6_add mc_6 (m_X6_add G l x19 ((1 : Int32)) M18) (fun _ h => sRc_some h) (by decide) rfl rfl (Nat.le_of_ble_eq_true rfl) (fun M20 => ?_)
    refine sX_aload_n (i := 0) (by decide +kernel) rfl ?_
    refine sX_getR lf_X1_35 tk_1_6 (by decide +kernel) (fun x21 => ?_)
    refine sX_bipush (n := -3) (v := (-3 : Int32)) (by decide +kernel) (by decide) ?_
    refine sX_callVv (As := [.int (-3 : Int32)]) (by decide +kernel) lm_X1_58 mf_X6_add mi_X6_add mc_6 (m_X6_add G l x21 ((-3 : Int32)) M20) (fun _ h => sRc_some h) (by decide) rfl rfl (Nat.le_of_ble_eq_true rfl) (fun M22 => ?_)
    refine sX_aload_n (i := 0) (by decide +kernel) rfl ?_
    refine sX_getR lf_X1_35 tk_1_6 (by decide +kernel) (fun x23 => ?_)
    refine sX_bipush (n := -2) (v := (-2 : Int32)) (by decide +kernel) (by decide) ?_
    refine sX_callVv (As := [.int (-2 : Int32)]) (by decide +kernel) lm_X1_58 mf_X6_add mi_X6_add mc_6 (m_X6_add G l x23 ((-2 : Int32)) M22) (fun _ h => sRc_some h) (by decide) rfl rfl (Nat.le_of_ble_eq_true rfl) (fun M24 => ?_)
    exact sX.le (xB73 v0 M24) (sLe_s sLe_e)
  · exact sX.le (xB73 v0 M0) (sLe_s sLe_e)
def f_X3_init (v0 : Nat) (M0 : sMem) : Option sMem :=
  (nA 14 M0 ((40 : Int32))).bind fun (q1, M2) =>
  (pR 3 6 0 M2 v0 q1).bind fun M3 =>
  (nA 14 M3 ((40 : Int32))).bind fun (q4, M5) =>
  (pR 3 6 1 M5 v0 q4).bind fun M6 =>
  (nA 14 M6 ((40 : Int32))).bind fun (q7, M8) =>
  (pR 3 6 2 M8 v0 q7).bind fun M9 =>
  (nA 14 M9 ((40 : Int32))).bind fun (q10, M11) =>
  (pR 3 6 3 M11 v0 q10).bind fun M12 =>
  (nA 14 M12 ((40 : Int32))).bind fun (q13, M14) =>
  (pR 3 6 4 M14 v0 q13).bind fun M15 =>
  some M15
set_option maxRecDepth 100000 in
set_option maxHeartbeats 4000000 in
theorem m_X3_init (G : sG) (l : Launch) (v0 : Nat) (M0 : sMem) : sCv G l 1 yX3_init cX3_init 1 none [.ref v0] M0 (f_X3_init v0 M0) := by
  refine sC_v (ls := [some (.ref v0)]) (by decide +kernel) rfl (Nat.le_of_ble_eq_true rfl) (fun r M' K hr => ?_)
  unfold f_X3_init
  refine sX_aload_n (i := 0) (by decide +kernel) rfl ?_
  refine sX_objI (by decide +kernel) lo_X3_3 oi_ok (by decide) (Nat.le_of_ble_eq_true rfl) ?_
  refine sX_aload_n (i := 0) (by decide +kernel) rfl ?_
  refine sX_bipush (n := 40) (v := (40 : Int32)) (by decide +kernel) (by decide) ?_
  refine sX_newa ak_int (by decide +kernel) (by decide) (fun q1 M2 => ?_)
  refine sX_putFR lg_X3_9 rfl tk_3_0 (by decide +kernel) (by decide) (fun M3 => ?_)
  refine sX_aload_n (i := 0) (by decide +kernel) rfl ?_
  refine sX_bipush (n := 40) (v := (40 : Int32)) (by decide +kernel) (by decide) ?_
  refine sX_newa ak_int (by decide +kernel) (by decide) (fun q4 M5 => ?_)
  refine sX_putFR lg_X3_15 rfl tk_3_1 (by decide +kernel) (by decide) (fun M6 => ?_)
  refine sX_aload_n (i := 0) (by decide +kernel) rfl ?_
  refine sX_bipush (n := 40) (v := (40 : Int32)) (by decide +kernel) (by decide) ?_
  refine sX_newa ak_int (by decide +kernel) (by decide) (fun q7 M8 => ?_)
  refine sX_putFR lg_X3_18 rfl tk_3_2 (by decide +kernel) (by decide) (fun M9 => ?_)
  refine sX_aload_n (i := 0) (by decide +kernel) rfl ?_
  refine sX_bipush (n := 40) (v := (40 : Int32)) (by decide +kernel) (by decide) ?_
  refine sX_newa ak_int (by decide +kernel) (by decide) (fun q10 M11 => ?_)
  refine sX_putFR lg_X3_21 rfl tk_3_3 (by decide +kernel) (by decide) (fun M12 => ?_)
  refine sX_aload_n (i := 0) (by decide +kernel) rfl ?_
  refine sX_bipush (n := 40) (v := (40 : Int32)) (by decide +kernel) (by decide) ?_
  refine sX_newa ak_int (by decide +kernel) (by decide) (fun q13 M14 => ?_)
  refine sX_putFR lg_X3_24 rfl tk_3_4 (by decide +kernel) (by decide) (fun M15 => ?_)
  exact sX_some (fun h _ => sW_vret (by decide +kernel) rfl (hr _ h).1.symm (hr _ h).2.symm)
def f_X3_addClosing (v0 : Nat) (v1 : Int32) (v2 : Int32) (v3 : Int32) (M0 : sMem) : Option (Int32 × sMem) :=
  sRc 3 6 M0 v0 (
    (gI 3 6 5 M0 v0).bind fun x1 =>
    if x1 < (40 : Int32) then
      (gR 3 6 0 M0 v0).bind fun x2 =>
      (gI 3 6 5 M0 v0).bind fun x3 =>
      (stI M0 x2 x3 v1).bind fun M4 =>
      (gR 3 6 1 M4 v0).bind fun x5 =>
      (gI 3 6 5 M4 v0).bind fun x6 =>
      (stI M4 x5 x6 v2).bind fun M7 =>
      (gR 3 6 2 M7 v0).bind fun x8 =>
      (gI 3 6 5 M7 v0).bind fun x9 =>
      (stI M7 x8 x9 v3).bind fun M10 =>
      (gI 3 6 5 M10 v0).bind fun x11 =>
      (pI 3 6 5 M10 v0 ((x11 + (1 : Int32)))).bind fun M12 =>
      some (((1 : Int32), M12))
    else
      some (((0 : Int32), M0)))
set_option maxRecDepth 100000 in
set_option maxHeartbeats 4000000 in
theorem m_X3_addClosing (G : sG) (l : Launch) (v0 : Nat) (v1 : Int32) (v2 : Int32) (v3 : Int32) (M0 : sMem) : sC G l 1 yX3_addClosing cX3_addClosing 4 (some .boolean) [.ref v0, .int v1, .int v2, .int v3] M0 rvI (f_X3_addClosing v0 v1 v2 v3 M0) := by
  refine sC_m (ls := [some (.ref v0), some (.int v1), some (.int v2), some (.int v3)]) (by decide +kernel) rfl (Nat.le_of_ble_eq_true rfl) (fun r M' K hr => ?_)
  unfold f_X3_addClosing
  refine sX_rc ?_
  refine sX_aload_n (i := 0) (by decide +kernel) rfl ?_
  refine sX_getI lf_X3_27 tk_3_5 (by decide +kernel) (fun x1 => ?_)
  refine sX_bipush (n := 40) (v := (40 : Int32)) (by decide +kernel) (by decide) ?_
  refine sX_iclt (o := 5) (t := 11) (by decide +kernel) (by decide) (fun _ => ?_) (fun _ => ?_)
  · refine sX_aload_n (i := 0) (by decide +kernel) rfl ?_
    refine sX_getR lf_X3_9 tk_3_0 (by decide +kernel) (fun x2 => ?_)
    refine sX_aload_n (i := 0) (by decide +kernel) rfl ?_
    refine sX_getI lf_X3_27 tk_3_5 (by decide +kernel) (fun x3 => ?_)
    refine sX_iload_n (i := 1) (by decide +kernel) rfl ?_
    refine sX_iastore (by decide +kernel) (by decide) (fun M4 => ?_)
    refine sX_aload_n (i := 0) (by decide +kernel) rfl ?_
    refine sX_getR lf_X3_15 tk_3_1 (by decide +kernel) (fun x5 => ?_)
    refine sX_aload_n (i := 0) (by decide +kernel) rfl ?_
    refine sX_getI lf_X3_27 tk_3_5 (by decide +kernel) (fun x6 => ?_)
    refine sX_iload_n (i := 2) (by decide +kernel) rfl ?_
    refine sX_iastore (by decide +kernel) (by decide) (fun M7 => ?_)
    refine sX_aload_n (i := 0) (by decide +kernel) rfl ?_
    refine sX_getR lf_X3_18 tk_3_2 (by decide +kernel) (fun x8 => ?_)
    refine sX_aload_n (i := 0) (by decide +kernel) rfl ?_
    refine sX_getI lf_X3_27 tk_3_5 (by decide +kernel) (fun x9 => ?_)
    refine sX_iload_n (i := 3) (by decide +kernel) rfl ?_
    refine sX_iastore (by decide +kernel) (by decide) (fun M10 => ?_)
    refine sX_aload_n (i := 0) (by decide +kernel) rfl ?_
    refine sX_dup (by decide +kernel) rfl ?_
    refine sX_getI lf_X3_27 tk_3_5 (by decide +kernel) (fun x11 => ?_)
    refine sX_iconst (n := 1) (v := (1 : Int32)) (by decide +kernel) (by decide) ?_
    refine sX_iadd (by decide +kernel) ?_
    refine sX_putI lf_X3_27 tp_3_5 (by decide +kernel) (by decide) (fun M12 => ?_)
    refine sX_iconst (n := 1) (v := (1 : Int32)) (by decide +kernel) (by decide) ?_
    exact sX_some (fun h _ => sW_zret (by decide +kernel) rfl (by decide) (hr _ h).1.symm (hr _ h).2.symm)
  · refine sX_iconst (n := 0) (v := (0 : Int32)) (by decide +kernel) (by decide) ?_
    exact sX_some (fun h _ => sW_zret (by decide +kernel) rfl (by decide) (hr _ h).1.symm (hr _ h).2.symm)
def f_J9_abs_0f7a4 (v0 : Int32) (M0 : sMem) : Option Int32 :=
  if 0 ≤ v0 then
    some v0
  else
    some ((-v0))
set_option maxRecDepth 100000 in
set_option maxHeartbeats 4000000 in
theorem m_J9_abs_0f7a4 (G : sG) (l : Launch) (v0 : Int32) (M0 : sMem) : sCp G l 1 yJ9_abs_0f7a4 cJ9_abs_0f7a4 1 (some .int) [.int v0] M0 rvI (f_J9_abs_0f7a4 v0 M0) := by
  refine sC_p (ls := [some (.int v0)]) (by decide +kernel) rfl (Nat.le_of_ble_eq_true rfl) (fun r M' K hr => ?_)
  unfold f_J9_abs_0f7a4
  refine sX_iload_n (i := 0) (by decide +kernel) rfl ?_
  refine sX_ifge (o := 8) (t := 9) (by decide +kernel) (by decide) (fun _ => ?_) (fun _ => ?_)
  · refine sX_iload_n (i := 0) (by decide +kernel) rfl ?_
    exact sX_some (fun h _ => sW_iret (by decide +kernel) rfl (hr _ h).1.symm (hr _ h).2.symm)
  · refine sX_iload_n (i := 0) (by decide +kernel) rfl ?_
    refine sX_ineg (by decide +kernel) ?_
    refine sX_goto (o := 4) (t := 10) (by decide +kernel) (by decide) ?_
    exact sX_some (fun h _ => sW_iret (by decide +kernel) rfl (hr _ h).1.symm (hr _ h).2.symm)
def f_X3_canGo (v0 : Nat) (v1 : Int32) (v2 : Int32) (M0 : sMem) : Option Int32 :=
  sRc 3 6 M0 v0 (
    (gR 3 6 0 M0 v0).bind fun x1 =>
    (ldI 14 M0 x1 v2).bind fun x2 =>
    (gR 3 6 1 M0 v0).bind fun x3 =>
    (ldI 14 M0 x3 v1).bind fun x4 =>
    (gR 3 6 2 M0 v0).bind fun x5 =>
    (ldI 14 M0 x5 v1).bind fun x6 =>
    (gR 3 6 2 M0 v0).bind fun x7 =>
    (ldI 14 M0 x7 v2).bind fun x8 =>
    (f_J9_abs_0f7a4 ((x6 - x8)) M0).bind fun x9 =>
    if x2 < ((x4 + (1 : Int32)) + x9) then
      some ((0 : Int32))
    else
      some ((1 : Int32)))
set_option maxRecDepth 100000 in
set_option maxHeartbeats 4000000 in
theorem m_X3_canGo (G : sG) (l : Launch) (v0 : Nat) (v1 : Int32) (v2 : Int32) (M0 : sMem) : sCp G l 2 yX3_canGo cX3_canGo 3 (some .boolean) [.ref v0, .int v1, .int v2] M0 rvI (f_X3_canGo v0 v1 v2 M0) := by
  refine sC_p (ls := [some (.ref v0), some (.int v1), some (.int v2)]) (by decide +kernel) rfl (Nat.le_of_ble_eq_true rfl) (fun r M' K hr => ?_)
  unfold f_X3_canGo
  refine sX_rc ?_
  refine sX_aload_n (i := 0) (by decide +kernel) rfl ?_
  refine sX_getR lf_X3_9 tk_3_0 (by decide +kernel) (fun x1 => ?_)
  refine sX_iload_n (i := 2) (by decide +kernel) rfl ?_
  refine sX_iaload (by decide +kernel) (fun x2 => ?_)
  refine sX_aload_n (i := 0) (by decide +kernel) rfl ?_
  refine sX_getR lf_X3_15 tk_3_1 (by decide +kernel) (fun x3 => ?_)
  refine sX_iload_n (i := 1) (by decide +kernel) rfl ?_
  refine sX_iaload (by decide +kernel) (fun x4 => ?_)
  refine sX_iconst (n := 1) (v := (1 : Int32)) (by decide +kernel) (by decide) ?_
  refine sX_iadd (by decide +kernel) ?_
  refine sX_aload_n (i := 0) (by decide +kernel) rfl ?_
  refine sX_getR lf_X3_18 tk_3_2 (by decide +kernel) (fun x5 => ?_)
  refine sX_iload_n (i := 1) (by decide +kernel) rfl ?_
  refine sX_iaload (by decide +kernel) (fun x6 => ?_)
  refine sX_aload_n (i := 0) (by decide +kernel) rfl ?_
  refine sX_getR lf_X3_18 tk_3_2 (by decide +kernel) (fun x7 => ?_)
  refine sX_iload_n (i := 2) (by decide +kernel) rfl ?_
  refine sX_iaload (by decide +kernel) (fun x8 => ?_)
  refine sX_isub (by decide +kernel) ?_
  refine sX_callSp (As := [.int (x6 - x8)]) (by decide +kernel) lm_X3_44 mf_J9_abs_0f7a4 ms_J9_abs_0f7a4 (m_J9_abs_0f7a4 G l ((x6 - x8)) M0) (by decide) rfl rfl (Nat.le_of_ble_eq_true rfl) (fun x9 => ?_)
  refine sX_iadd (by decide +kernel) ?_
  refine sX_iclt (o := 7) (t := 38) (by decide +kernel) (by decide) (fun _ => ?_) (fun _ => ?_)
  · refine sX_iconst (n := 0) (v := (0 : Int32)) (by decide +kernel) (by decide) ?_
    exact sX_some (fun h _ => sW_zret (by decide +kernel) rfl (by decide) (hr _ h).1.symm (hr _ h).2.symm)
  · refine sX_iconst (n := 1) (v := (1 : Int32)) (by decide +kernel) (by decide) ?_
    refine sX_goto (o := 4) (t := 39) (by decide +kernel) (by decide) ?_
    exact sX_some (fun h _ => sW_zret (by decide +kernel) rfl (by decide) (hr _ h).1.symm (hr _ h).2.symm)
def f_X3_goesOn_B79 (F : Nat → Int32 → Int32 → sMem → Option (Int32 × sMem)) (v0 : Nat) (v1 : Int32) (v3 : Int32) (M : sMem) : Option (Int32 × sMem) :=
  (gR 3 6 3 M v0).bind fun x1 =>
  (stI M x1 v3 v1).bind fun M2 =>
  some (((1 : Int32), M2))
def f_X3_goesOn_B88 (F : Nat → Int32 → Int32 → sMem → Option (Int32 × sMem)) (v0 : Nat) (v1 : Int32) (v2 : Int32) (v3 : Int32) (M : sMem) : Option ((Int32 × sMem) ⊕ ((Int32 × sMem) ⊕ (((Int32 × sMem))))) :=
  some (.inl ((((v3 + (1 : Int32))), M)))
def f_X3_goesOn_K20 (F : Nat → Int32 → Int32 → sMem → Option (Int32 × sMem)) (v0 : Nat) (v1 : Int32) (v2 : Int32) (v3 : Int32) (M : sMem) : Option ((Int32 × sMem) ⊕ ((Int32 × sMem) ⊕ (((Int32 × sMem))))) :=
  (gI 3 6 5 M v0).bind fun x3 =>
  if x3 ≤ v3 then
    some (.inr (.inr (((0 : Int32), M))))
  else
    (gR 3 6 4 M v0).bind fun x4 =>
    (ldI 14 M x4 v3).bind fun x5 =>
    if x5 = 0 then
      (f_X3_canGo v0 v1 v3 M).bind fun x6 =>
      if x6 = 0 then
        f_X3_goesOn_B88 F v0 v1 v2 v3 M
      else
        (gR 3 6 4 M v0).bind fun x7 =>
        (stI M x7 v3 ((1 : Int32))).bind fun M8 =>
        (gR 3 6 3 M8 v0).bind fun x9 =>
        (ldI 14 M8 x9 v3).bind fun x10 =>
        if x10 = (-1 : Int32) then
          some (.inr (.inl ((v3, M8))))
        else
          (gR 3 6 3 M8 v0).bind fun x11 =>
          (ldI 14 M8 x11 v3).bind fun x12 =>
          (F v0 x12 ((v2 + (1 : Int32))) M8).bind fun (x13, M14) =>
          if x13 = 0 then
            f_X3_goesOn_B88 F v0 v1 v2 v3 M14
          else
            some (.inr (.inl ((v3, M14))))
    else
      f_X3_goesOn_B88 F v0 v1 v2 v3 M
def f_X3_goesOn_L20 (F : Nat → Int32 → Int32 → sMem → Option (Int32 × sMem)) (v0 : Nat) (v1 : Int32) (v2 : Int32) (v3 : Int32) (M : sMem) : Option (Int32 × sMem) :=
  (sItr (fun a : (Int32 × sMem) => f_X3_goesOn_K20 F v0 v1 v2 a.1 a.2) sFuel (v3, M)).bind (fun b => match b with
    | .inl (b) => f_X3_goesOn_B79 F v0 v1 b.1 b.2
    | .inr (b) => some b)
def f_X3_goesOn (F : Nat → Int32 → Int32 → sMem → Option (Int32 × sMem)) (v0 : Nat) (v1 : Int32) (v2 : Int32) (M0 : sMem) : Option (Int32 × sMem) :=
  sRc 3 6 M0 v0 (
    if (40 : Int32) ≤ v2 then
      some (((0 : Int32), M0))
    else
      if v1 < 0 then
        some (((0 : Int32), M0))
      else
        if v1 < (40 : Int32) then
          f_X3_goesOn_L20 F v0 v1 v2 ((0 : Int32)) M0
        else
          some (((0 : Int32), M0)))
set_option maxRecDepth 100000 in
set_option maxHeartbeats 4000000 in
theorem m_X3_goesOn (F : Nat → Int32 → Int32 → sMem → Option (Int32 × sMem)) (d : Nat) (G : sG) (l : Launch) (hF0 : ∀ (v0 : Nat) (v1 v2 : Int32) (M : sMem), sC G l (d - 1) yX3_goesOn cX3_goesOn 4 (some .boolean) [.ref v0, .int v1, .int v2] M rvI (F v0 v1 v2 M) ∧ ∀ z, F v0 v1 v2 M = some z → M.1[v0]? = some (3, 6)) (hd : 3 ≤ d) (v0 : Nat) (v1 : Int32) (v2 : Int32) (M0 : sMem) : sC G l d yX3_goesOn cX3_goesOn 4 (some .boolean) [.ref v0, .int v1, .int v2] M0 rvI (f_X3_goesOn F v0 v1 v2 M0) := by
  refine sC_m (ls := [some (.ref v0), some (.int v1), some (.int v2), none]) (by decide +kernel) rfl (Nat.le_of_ble_eq_true rfl) (fun r M' K hr => ?_)
  unfold f_X3_goesOn
  have xB79 : ∀ (v0 : Nat) (v1 : Int32) (v3 : Int32) (M : sMem), sX G l d yX3_goesOn cX3_goesOn 4 (some .boolean) M0 r M' 79 [some (.ref v0), some (.int v1), none, some (.int v3)] [] M (f_X3_goesOn_B79 F v0 v1 v3 M) K := by
    intro v0 v1 v3 M
    unfold f_X3_goesOn_B79
    refine sX_aload_n (i := 0) (by decide +kernel) rfl ?_
    refine sX_getR lf_X3_21 tk_3_3 (by decide +kernel) (fun x1 => ?_)
    refine sX_iload_n (i := 3) (by decide +kernel) rfl ?_
    refine sX_iload_n (i := 1) (by decide +kernel) rfl ?_
    refine sX_iastore (by decide +kernel) (by omega) (fun M2 => ?_)
    refine sX_iconst (n := 1) (v := (1 : Int32)) (by decide +kernel) (by decide) ?_
    exact sX_some (fun h _ => sW_zret (by decide +kernel) rfl (by decide) (hr _ h).1.symm (hr _ h).2.symm)
  have xL20 : ∀ (v0 : Nat) (v1 : Int32) (v2 : Int32) (v3 : Int32) (M : sMem), sX G l d yX3_goesOn cX3_goesOn 4 (some .boolean) M0 r M' 20 [some (.ref v0), some (.int v1), some (.int v2), some (.int v3)] [] M (f_X3_goesOn_L20 F v0 v1 v2 v3 M) K := by
    intro v0 v1 v2 v3 M
    unfold f_X3_goesOn_L20
    refine sX_bind ?_
    refine sX_loop (LS := fun a : (Int32 × sMem) => [some (.ref v0), some (.int v1), some (.int v2), some (.int a.1)]) (MM := fun a => a.2) (fun K1 hb1 he1 => ?_) sFuel ((v3, M))
    have xB88 : ∀ (v3 : Int32) (M : sMem), sX G l d yX3_goesOn cX3_goesOn 4 (some .boolean) M0 r M' 88 [some (.ref v0), some (.int v1), some (.int v2), some (.int v3)] [] M (f_X3_goesOn_B88 F v0 v1 v2 v3 M) K1 := by
      intro v3 M
      unfold f_X3_goesOn_B88
      refine sX_iinc (i := 3) (n := 1) (v := v3 + (1 : Int32)) (ls2 := [some (.ref v0), some (.int v1), some (.int v2), some (.int (v3 + (1 : Int32)))]) (by decide +kernel) rfl rfl (by decide) rfl ?_
      refine sX_goto (o := -71) (t := 20) (by decide +kernel) (by decide) ?_
      exact sX_back (a := (((v3 + (1 : Int32))), M)) hb1 rfl (sLe_s (sLe_s (sLe_s (sLe_s sLe_e))))
    have xK20 : ∀ (v3 : Int32) (M : sMem), sX G l d yX3_goesOn cX3_goesOn 4 (some .boolean) M0 r M' 20 [some (.ref v0), some (.int v1), some (.int v2), some (.int v3)] [] M (f_X3_goesOn_K20 F v0 v1 v2 v3 M) K1 := by
      intro v3 M
      unfold f_X3_goesOn_K20
      refine sX_iload_n (i := 3) (by decide +kernel) rfl ?_
      refine sX_aload_n (i := 0) (by decide +kernel) rfl ?_
      refine sX_getI lf_X3_27 tk_3_5 (by decide +kernel) (fun x3 => ?_)
      refine sX_icge (o := 69) (t := 94) (by decide +kernel) (by decide) (fun _ => ?_) (fun _ => ?_)
      · refine sX_iconst (n := 0) (v := (0 : Int32)) (by decide +kernel) (by decide) ?_
        refine sX_exit he1 ?_
        exact sX_some (fun h _ => sW_zret (by decide +kernel) rfl (by decide) (hr _ h).1.symm (hr _ h).2.symm)
      · refine sX_aload_n (i := 0) (by decide +kernel) rfl ?_
        refine sX_getR lf_X3_24 tk_3_4 (by decide +kernel) (fun x4 => ?_)
        refine sX_iload_n (i := 3) (by decide +kernel) rfl ?_
        refine sX_iaload (by decide +kernel) (fun x5 => ?_)
        refine sX_ifne (o := 54) (t := 88) (by decide +kernel) (by decide) (fun _ => ?_) (fun _ => ?_)
        · refine sX_aload_n (i := 0) (by decide +kernel) rfl ?_
          refine sX_iload_n (i := 1) (by decide +kernel) rfl ?_
          refine sX_iload_n (i := 3) (by decide +kernel) rfl ?_
          refine sX_callVp (As := [.int v1, .int v3]) (by decide +kernel) lm_X3_41 mf_X3_canGo mi_X3_canGo mc_3 (m_X3_canGo G l v0 v1 v3 M) (fun _ h => sRc_some h) (by omega) rfl rfl (Nat.le_of_ble_eq_true rfl) (fun x6 => ?_)
          refine sX_ifeq (o := 45) (t := 88) (by decide +kernel) (by decide) (fun _ => ?_) (fun _ => ?_)
          · exact sX.le (xB88 v3 M) (sLe_s (sLe_s (sLe_s (sLe_s sLe_e))))
          · refine sX_aload_n (i := 0) (by decide +kernel) rfl ?_
            refine sX_getR lf_X3_24 tk_3_4 (by decide +kernel) (fun x7 => ?_)
            refine sX_iload_n (i := 3) (by decide +kernel) rfl ?_
            refine sX_iconst (n := 1) (v := (1 : Int32)) (by decide +kernel) (by decide) ?_
            refine sX_iastore (by decide +kernel) (by omega) (fun M8 => ?_)
            refine sX_aload_n (i := 0) (by decide +kernel) rfl ?_
            refine sX_getR lf_X3_21 tk_3_3 (by decide +kernel) (fun x9 => ?_)
            refine sX_iload_n (i := 3) (by decide +kernel) rfl ?_
            refine sX_iaload (by decide +kernel) (fun x10 => ?_)
            refine sX_iconst (n := -1) (v := (-1 : Int32)) (by decide +kernel) (by decide) ?_
            refine sX_iceq (o := 19) (t := 79) (by decide +kernel) (by decide) (fun _ => ?_) (fun _ => ?_)
            · refine sX_exit he1 ?_
              exact sX.le (xB79 v0 v1 v3 M8) (sLe_s (sLe_s (sLe_n (sLe_s sLe_e))))
            · refine sX_aload_n (i := 0) (by decide +kernel) rfl ?_
              refine sX_aload_n (i := 0) (by decide +kernel) rfl ?_
              refine sX_getR lf_X3_21 tk_3_3 (by decide +kernel) (fun x11 => ?_)
              refine sX_iload_n (i := 3) (by decide +kernel) rfl ?_
              refine sX_iaload (by decide +kernel) (fun x12 => ?_)
              refine sX_iload_n (i := 2) (by decide +kernel) rfl ?_
              refine sX_iconst (n := 1) (v := (1 : Int32)) (by decide +kernel) (by decide) ?_
              refine sX_iadd (by decide +kernel) ?_
              refine sX_callV (As := [.int x12, .int (v2 + (1 : Int32))]) (by decide +kernel) lm_X3_37 mf_X3_goesOn mi_X3_goesOn mc_3 (hF0 v0 x12 ((v2 + (1 : Int32))) M8).1 (hF0 v0 x12 ((v2 + (1 : Int32))) M8).2 (by omega) rfl rfl (Nat.le_of_ble_eq_true rfl) (fun x13 M14 _ => ?_)
              refine sX_ifeq (o := 12) (t := 88) (by decide +kernel) (by decide) (fun _ => ?_) (fun _ => ?_)
              · exact sX.le (xB88 v3 M14) (sLe_s (sLe_s (sLe_s (sLe_s sLe_e))))
              · refine sX_exit he1 ?_
                exact sX.le (xB79 v0 v1 v3 M14) (sLe_s (sLe_s (sLe_n (sLe_s sLe_e))))
        · exact sX.le (xB88 v3 M) (sLe_s (sLe_s (sLe_s (sLe_s sLe_e))))
    exact fun a => xK20 a.1 a.2
  refine sX_rc ?_
  refine sX_iload_n (i := 2) (by decide +kernel) rfl ?_
  refine sX_bipush (n := 40) (v := (40 : Int32)) (by decide +kernel) (by decide) ?_
  refine sX_icge (o := 13) (t := 16) (by decide +kernel) (by decide) (fun _ => ?_) (fun _ => ?_)
  · refine sX_iconst (n := 0) (v := (0 : Int32)) (by decide +kernel) (by decide) ?_
    exact sX_some (fun h _ => sW_zret (by decide +kernel) rfl (by decide) (hr _ h).1.symm (hr _ h).2.symm)
  · refine sX_iload_n (i := 1) (by decide +kernel) rfl ?_
    refine sX_iflt (o := 9) (t := 16) (by decide +kernel) (by decide) (fun _ => ?_) (fun _ => ?_)
    · refine sX_iconst (n := 0) (v := (0 : Int32)) (by decide +kernel) (by decide) ?_
      exact sX_some (fun h _ => sW_zret (by decide +kernel) rfl (by decide) (hr _ h).1.symm (hr _ h).2.symm)
    · refine sX_iload_n (i := 1) (by decide +kernel) rfl ?_
      refine sX_bipush (n := 40) (v := (40 : Int32)) (by decide +kernel) (by decide) ?_
      refine sX_iclt (o := 5) (t := 18) (by decide +kernel) (by decide) (fun _ => ?_) (fun _ => ?_)
      · refine sX_iconst (n := 0) (v := (0 : Int32)) (by decide +kernel) (by decide) ?_
        refine sX_istore_n (i := 3) (ls2 := [some (.ref v0), some (.int v1), some (.int v2), some (.int (0 : Int32))]) (by decide +kernel) (by decide) rfl ?_
        exact sX.le (xL20 v0 v1 v2 ((0 : Int32)) M0) (sLe_s (sLe_s (sLe_s (sLe_s sLe_e))))
      · refine sX_iconst (n := 0) (v := (0 : Int32)) (by decide +kernel) (by decide) ?_
        exact sX_some (fun h _ => sW_zret (by decide +kernel) rfl (by decide) (hr _ h).1.symm (hr _ h).2.symm)
def F_goes : Nat → Nat → Int32 → Int32 → sMem → Option (Int32 × sMem)
  | 0 => fun _ _ _ _ => none
  | n + 1 => fun v0 v1 v2 M => f_X3_goesOn (F_goes n) v0 v1 v2 M
theorem mF_goes (G : sG) (l : Launch) : ∀ (n : Nat) (v0 : Nat) (v1 v2 : Int32) (M : sMem), sC G l (3 + n) yX3_goesOn cX3_goesOn 4 (some .boolean) [.ref v0, .int v1, .int v2] M rvI (F_goes n v0 v1 v2 M) ∧ ∀ z, F_goes n v0 v1 v2 M = some z → M.1[v0]? = some (3, 6) := by
  intro n
  induction n with
  | zero => exact fun _ _ _ _ => ⟨(fun _ _ h => by cases h), (fun _ h => by cases h)⟩
  | succ n ih => exact fun v0 v1 v2 M => ⟨m_X3_goesOn (F_goes n) (3 + n + 1) G l ih (by omega) v0 v1 v2 M, fun z h => sRc_some h⟩
theorem mFg (G : sG) (l : Launch) (v0 : Nat) (v1 v2 : Int32) (M : sMem) : sC G l 67 yX3_goesOn cX3_goesOn 4 (some .boolean) [.ref v0, .int v1, .int v2] M rvI (F_goes 64 v0 v1 v2 M) ∧ ∀ z, F_goes 64 v0 v1 v2 M = some z → M.1[v0]? = some (3, 6) := mF_goes G l 64 v0 v1 v2 M
def f_X3_fewest_B43 (v0 : Nat) (v1 : Int32) (v2 : Int32) (M : sMem) : Option ((Int32 × Int32 × sMem) ⊕ (((Int32 × sMem)))) :=
  some (.inl ((v1, ((v2 + (1 : Int32))), M)))
def f_X3_fewest_K15 (v0 : Nat) (v1 : Int32) (v2 : Int32) (M : sMem) : Option ((Int32 × Int32 × sMem) ⊕ (((Int32 × sMem)))) :=
  (gI 3 6 5 M v0).bind fun x1 =>
  if x1 ≤ v2 then
    some (.inr ((v1, M)))
  else
    (gR 3 6 4 M v0).bind fun x2 =>
    (f_J7_fill_53178 x2 ((0 : Int32)) M).bind fun M3 =>
    (F_goes 64 v0 v2 ((0 : Int32)) M3).bind fun (x4, M5) =>
    if x4 = 0 then
      f_X3_fewest_B43 v0 v1 v2 M5
    else
      f_X3_fewest_B43 v0 ((v1 + (-1 : Int32))) v2 M5
def f_X3_fewest_L15 (v0 : Nat) (v1 : Int32) (v2 : Int32) (M : sMem) : Option (Int32 × sMem) :=
  (sItr (fun a : (Int32 × Int32 × sMem) => f_X3_fewest_K15 v0 a.1 a.2.1 a.2.2) sFuel (v1, v2, M)).bind (fun b => some b)
def f_X3_fewest (v0 : Nat) (M0 : sMem) : Option (Int32 × sMem) :=
  sRc 3 6 M0 v0 (
    (gR 3 6 3 M0 v0).bind fun x6 =>
    (f_J7_fill_53178 x6 ((-1 : Int32)) M0).bind fun M7 =>
    (gI 3 6 5 M7 v0).bind fun x8 =>
    f_X3_fewest_L15 v0 x8 ((0 : Int32)) M7)
set_option maxRecDepth 100000 in
set_option maxHeartbeats 4000000 in
theorem m_X3_fewest (G : sG) (l : Launch) (v0 : Nat) (M0 : sMem) : sC G l 68 yX3_fewest cX3_fewest 3 (some .int) [.ref v0] M0 rvI (f_X3_fewest v0 M0) := by
  refine sC_m (ls := [some (.ref v0), none, none]) (by decide +kernel) rfl (Nat.le_of_ble_eq_true rfl) (fun r M' K hr => ?_)
  unfold f_X3_fewest
  have xL15 : ∀ (v0 : Nat) (v1 : Int32) (v2 : Int32) (M : sMem), sX G l 68 yX3_fewest cX3_fewest 3 (some .int) M0 r M' 15 [some (.ref v0), some (.int v1), some (.int v2)] [] M (f_X3_fewest_L15 v0 v1 v2 M) K := by
    intro v0 v1 v2 M
    unfold f_X3_fewest_L15
    refine sX_bind ?_
    refine sX_loop (LS := fun a : (Int32 × Int32 × sMem) => [some (.ref v0), some (.int a.1), some (.int a.2.1)]) (MM := fun a => a.2.2) (fun K1 hb1 he1 => ?_) sFuel ((v1, v2, M))
    have xB43 : ∀ (v1 : Int32) (v2 : Int32) (M : sMem), sX G l 68 yX3_fewest cX3_fewest 3 (some .int) M0 r M' 43 [some (.ref v0), some (.int v1), some (.int v2)] [] M (f_X3_fewest_B43 v0 v1 v2 M) K1 := by
      intro v1 v2 M
      unfold f_X3_fewest_B43
      refine sX_iinc (i := 2) (n := 1) (v := v2 + (1 : Int32)) (ls2 := [some (.ref v0), some (.int v1), some (.int (v2 + (1 : Int32)))]) (by decide +kernel) rfl rfl (by decide) rfl ?_
      refine sX_goto (o := -31) (t := 15) (by decide +kernel) (by decide) ?_
      exact sX_back (a := (v1, ((v2 + (1 : Int32))), M)) hb1 rfl (sLe_s (sLe_s (sLe_s sLe_e)))
    have xK15 : ∀ (v1 : Int32) (v2 : Int32) (M : sMem), sX G l 68 yX3_fewest cX3_fewest 3 (some .int) M0 r M' 15 [some (.ref v0), some (.int v1), some (.int v2)] [] M (f_X3_fewest_K15 v0 v1 v2 M) K1 := by
      intro v1 v2 M
      unfold f_X3_fewest_K15
      refine sX_iload_n (i := 2) (by decide +kernel) rfl ?_
      refine sX_aload_n (i := 0) (by decide +kernel) rfl ?_
      refine sX_getI lf_X3_27 tk_3_5 (by decide +kernel) (fun x1 => ?_)
      refine sX_icge (o := 29) (t := 49) (by decide +kernel) (by decide) (fun _ => ?_) (fun _ => ?_)
      · refine sX_iload_n (i := 1) (by decide +kernel) rfl ?_
        refine sX_exit he1 ?_
        exact sX_some (fun h _ => sW_iret (by decide +kernel) rfl (hr _ h).1.symm (hr _ h).2.symm)
      · refine sX_aload_n (i := 0) (by decide +kernel) rfl ?_
        refine sX_getR lf_X3_24 tk_3_4 (by decide +kernel) (fun x2 => ?_)
        refine sX_iconst (n := 0) (v := (0 : Int32)) (by decide +kernel) (by decide) ?_
        refine sX_callSv (As := [.ref x2, .int (0 : Int32)]) (by decide +kernel) lm_X3_31 mf_J7_fill_53178 ms_J7_fill_53178 (m_J7_fill_53178 G l x2 ((0 : Int32)) M) (by decide) rfl rfl (Nat.le_of_ble_eq_true rfl) (fun M3 => ?_)
        refine sX_aload_n (i := 0) (by decide +kernel) rfl ?_
        refine sX_iload_n (i := 2) (by decide +kernel) rfl ?_
        refine sX_iconst (n := 0) (v := (0 : Int32)) (by decide +kernel) (by decide) ?_
        refine sX_callV (As := [.int v2, .int (0 : Int32)]) (by decide +kernel) lm_X3_37 mf_X3_goesOn mi_X3_goesOn mc_3 (mFg G l v0 v2 ((0 : Int32)) M3).1 (mFg G l v0 v2 ((0 : Int32)) M3).2 (by decide) rfl rfl (Nat.le_of_ble_eq_true rfl) (fun x4 M5 _ => ?_)
        refine sX_ifeq (o := 6) (t := 43) (by decide +kernel) (by decide) (fun _ => ?_) (fun _ => ?_)
        · exact sX.le (xB43 v1 v2 M5) (sLe_s (sLe_s (sLe_s sLe_e)))
        · refine sX_iinc (i := 1) (n := -1) (v := v1 + (-1 : Int32)) (ls2 := [some (.ref v0), some (.int (v1 + (-1 : Int32))), some (.int v2)]) (by decide +kernel) rfl rfl (by decide) rfl ?_
          exact sX.le (xB43 ((v1 + (-1 : Int32))) v2 M5) (sLe_s (sLe_s (sLe_s sLe_e)))
    exact fun a => xK15 a.1 a.2.1 a.2.2
  refine sX_rc ?_
  refine sX_aload_n (i := 0) (by decide +kernel) rfl ?_
  refine sX_getR lf_X3_21 tk_3_3 (by decide +kernel) (fun x6 => ?_)
  refine sX_iconst (n := -1) (v := (-1 : Int32)) (by decide +kernel) (by decide) ?_
  refine sX_callSv (As := [.ref x6, .int (-1 : Int32)]) (by decide +kernel) lm_X3_31 mf_J7_fill_53178 ms_J7_fill_53178 (m_J7_fill_53178 G l x6 ((-1 : Int32)) M0) (by decide) rfl rfl (Nat.le_of_ble_eq_true rfl) (fun M7 => ?_)
  refine sX_aload_n (i := 0) (by decide +kernel) rfl ?_
  refine sX_getI lf_X3_27 tk_3_5 (by decide +kernel) (fun x8 => ?_)
  refine sX_istore_n (i := 1) (ls2 := [some (.ref v0), some (.int x8), none]) (by decide +kernel) (by decide) rfl ?_
  refine sX_iconst (n := 0) (v := (0 : Int32)) (by decide +kernel) (by decide) ?_
  refine sX_istore_n (i := 2) (ls2 := [some (.ref v0), some (.int x8), some (.int (0 : Int32))]) (by decide +kernel) (by decide) rfl ?_
  exact sX.le (xL15 v0 x8 ((0 : Int32)) M7) (sLe_s (sLe_s (sLe_s sLe_e)))
def f_X5_init (v0 : Nat) (v1 : Nat) (M0 : sMem) : Option sMem :=
  (f_X6_init ((sLen M0)) (sNew 6 2 M0)).bind fun M1 =>
  (pR 5 2 1 M1 v0 ((sLen M0))).bind fun M2 =>
  (pR 5 2 0 M2 v0 v1).bind fun M3 =>
  some M3
set_option maxRecDepth 100000 in
set_option maxHeartbeats 4000000 in
theorem m_X5_init (G : sG) (l : Launch) (v0 : Nat) (v1 : Nat) (M0 : sMem) : sCv G l 2 yX5_init cX5_init 2 none [.ref v0, .ref v1] M0 (f_X5_init v0 v1 M0) := by
  refine sC_v (ls := [some (.ref v0), some (.ref v1)]) (by decide +kernel) rfl (Nat.le_of_ble_eq_true rfl) (fun r M' K hr => ?_)
  unfold f_X5_init
  refine sX_aload_n (i := 0) (by decide +kernel) rfl ?_
  refine sX_objI (by decide +kernel) lo_X5_3 oi_ok (by decide) (Nat.le_of_ble_eq_true rfl) ?_
  refine sX_aload_n (i := 0) (by decide +kernel) rfl ?_
  refine sX_new cw_X5_9 (by decide +kernel) (by decide) ?_
  refine sX_dup (by decide +kernel) rfl ?_
  refine sX_callIv (As := []) (by decide +kernel) lm_X5_11 mf_X6_init mj_X6_init (m_X6_init G l ((sLen M0)) (sNew 6 2 M0)) (by decide) rfl rfl (Nat.le_of_ble_eq_true rfl) (fun M1 => ?_)
  refine sX_putFR lg_X5_12 rfl tk_5_1 (by decide +kernel) (by decide) (fun M2 => ?_)
  refine sX_aload_n (i := 0) (by decide +kernel) rfl ?_
  refine sX_aload_n (i := 1) (by decide +kernel) rfl ?_
  refine sX_putFR lg_X5_18 rfl tk_5_0 (by decide +kernel) (by decide) (fun M3 => ?_)
  exact sX_some (fun h _ => sW_vret (by decide +kernel) rfl (hr _ h).1.symm (hr _ h).2.symm)
def f_X10_byteAt (v0 : Nat) (v1 : Int32) (M0 : sMem) : Option Int32 :=
  sRc 10 10 M0 v0 (
    if v1 < 0 then
      some ((-1 : Int32))
    else
      (gI 10 10 1 M0 v0).bind fun x1 =>
      if x1 ≤ v1 then
        some ((-1 : Int32))
      else
        (gR 10 10 0 M0 v0).bind fun x2 =>
        (aL 14 M0 x2).bind fun x3 =>
        if x3 ≤ v1 then
          some ((-1 : Int32))
        else
          (gR 10 10 0 M0 v0).bind fun x4 =>
          (ldI 14 M0 x4 v1).bind fun x5 =>
          some x5)
set_option maxRecDepth 100000 in
set_option maxHeartbeats 4000000 in
theorem m_X10_byteAt (G : sG) (l : Launch) (v0 : Nat) (v1 : Int32) (M0 : sMem) : sCp G l 1 yX10_byteAt cX10_byteAt 2 (some .int) [.ref v0, .int v1] M0 rvI (f_X10_byteAt v0 v1 M0) := by
  refine sC_p (ls := [some (.ref v0), some (.int v1)]) (by decide +kernel) rfl (Nat.le_of_ble_eq_true rfl) (fun r M' K hr => ?_)
  unfold f_X10_byteAt
  refine sX_rc ?_
  refine sX_iload_n (i := 1) (by decide +kernel) rfl ?_
  refine sX_iflt (o := 29) (t := 30) (by decide +kernel) (by decide) (fun _ => ?_) (fun _ => ?_)
  · refine sX_iconst (n := -1) (v := (-1 : Int32)) (by decide +kernel) (by decide) ?_
    exact sX_some (fun h _ => sW_iret (by decide +kernel) rfl (hr _ h).1.symm (hr _ h).2.symm)
  · refine sX_iload_n (i := 1) (by decide +kernel) rfl ?_
    refine sX_aload_n (i := 0) (by decide +kernel) rfl ?_
    refine sX_getI lf_X10_31 tk_10_1 (by decide +kernel) (fun x1 => ?_)
    refine sX_icge (o := 21) (t := 30) (by decide +kernel) (by decide) (fun _ => ?_) (fun _ => ?_)
    · refine sX_iconst (n := -1) (v := (-1 : Int32)) (by decide +kernel) (by decide) ?_
      exact sX_some (fun h _ => sW_iret (by decide +kernel) rfl (hr _ h).1.symm (hr _ h).2.symm)
    · refine sX_iload_n (i := 1) (by decide +kernel) rfl ?_
      refine sX_aload_n (i := 0) (by decide +kernel) rfl ?_
      refine sX_getR lf_X10_9 tk_10_0 (by decide +kernel) (fun x2 => ?_)
      refine sX_alen (by decide) (by decide) (by decide +kernel) (fun x3 => ?_)
      refine sX_icge (o := 12) (t := 30) (by decide +kernel) (by decide) (fun _ => ?_) (fun _ => ?_)
      · refine sX_iconst (n := -1) (v := (-1 : Int32)) (by decide +kernel) (by decide) ?_
        exact sX_some (fun h _ => sW_iret (by decide +kernel) rfl (hr _ h).1.symm (hr _ h).2.symm)
      · refine sX_aload_n (i := 0) (by decide +kernel) rfl ?_
        refine sX_getR lf_X10_9 tk_10_0 (by decide +kernel) (fun x4 => ?_)
        refine sX_iload_n (i := 1) (by decide +kernel) rfl ?_
        refine sX_iaload (by decide +kernel) (fun x5 => ?_)
        refine sX_goto (o := 4) (t := 31) (by decide +kernel) (by decide) ?_
        exact sX_some (fun h _ => sW_iret (by decide +kernel) rfl (hr _ h).1.symm (hr _ h).2.symm)
def f_X10_runEnd_K3 (v0 : Nat) (v2 : Int32) (v3 : Int32) (v4 : Int32) (M0 : sMem) : Option ((Int32) ⊕ ((Int32))) :=
  (gI 10 10 1 M0 v0).bind fun x1 =>
  if x1 ≤ v4 then
    some (.inr v4)
  else
    (f_X10_byteAt v0 v4 M0).bind fun x2 =>
    if x2 < v2 then
      some (.inr v4)
    else
      (f_X10_byteAt v0 v4 M0).bind fun x3 =>
      if v3 < x3 then
        some (.inr v4)
      else
        some (.inl (((v4 + (1 : Int32)))))
def f_X10_runEnd_L3 (v0 : Nat) (v2 : Int32) (v3 : Int32) (v4 : Int32) (M0 : sMem) : Option Int32 :=
  (sItr (fun a : (Int32) => f_X10_runEnd_K3 v0 v2 v3 a M0) sFuel v4).bind (fun b => some b)
def f_X10_runEnd (v0 : Nat) (v1 : Int32) (v2 : Int32) (v3 : Int32) (M0 : sMem) : Option Int32 :=
  sRc 10 10 M0 v0 (
    f_X10_runEnd_L3 v0 v2 v3 v1 M0)
set_option maxRecDepth 100000 in
set_option maxHeartbeats 4000000 in
theorem m_X10_runEnd (G : sG) (l : Launch) (v0 : Nat) (v1 : Int32) (v2 : Int32) (v3 : Int32) (M0 : sMem) : sCp G l 2 yX10_runEnd cX10_runEnd 5 (some .int) [.ref v0, .int v1, .int v2, .int v3] M0 rvI (f_X10_runEnd v0 v1 v2 v3 M0) := by
  refine sC_p (ls := [some (.ref v0), some (.int v1), some (.int v2), some (.int v3), none]) (by decide +kernel) rfl (Nat.le_of_ble_eq_true rfl) (fun r M' K hr => ?_)
  unfold f_X10_runEnd
  have xL3 : ∀ (v0 : Nat) (v2 : Int32) (v3 : Int32) (v4 : Int32), sX G l 2 yX10_runEnd cX10_runEnd 5 (some .int) M0 r M' 3 [some (.ref v0), none, some (.int v2), some (.int v3), some (.int v4)] [] M0 (f_X10_runEnd_L3 v0 v2 v3 v4 M0) K := by
    intro v0 v2 v3 v4
    unfold f_X10_runEnd_L3
    refine sX_bind ?_
    refine sX_loop (LS := fun a : (Int32) => [some (.ref v0), none, some (.int v2), some (.int v3), some (.int a)]) (MM := fun a => M0) (fun K1 hb1 he1 => ?_) sFuel v4
    have xK3 : ∀ (v4 : Int32), sX G l 2 yX10_runEnd cX10_runEnd 5 (some .int) M0 r M' 3 [some (.ref v0), none, some (.int v2), some (.int v3), some (.int v4)] [] M0 (f_X10_runEnd_K3 v0 v2 v3 v4 M0) K1 := by
      intro v4
      unfold f_X10_runEnd_K3
      refine sX_iload (i := 4) (by decide +kernel) rfl ?_
      refine sX_aload_n (i := 0) (by decide +kernel) rfl ?_
      refine sX_getI lf_X10_31 tk_10_1 (by decide +kernel) (fun x1 => ?_)
      refine sX_icge (o := 29) (t := 38) (by decide +kernel) (by decide) (fun _ => ?_) (fun _ => ?_)
      · refine sX_iload (i := 4) (by decide +kernel) rfl ?_
        refine sX_exit he1 ?_
        exact sX_some (fun h _ => sW_iret (by decide +kernel) rfl (hr _ h).1.symm (hr _ h).2.symm)
      · refine sX_aload_n (i := 0) (by decide +kernel) rfl ?_
        refine sX_iload (i := 4) (by decide +kernel) rfl ?_
        refine sX_callVp (As := [.int v4]) (by decide +kernel) lm_X10_72 mf_X10_byteAt mi_X10_byteAt mc_10 (m_X10_byteAt G l v0 v4 M0) (fun _ h => sRc_some h) (by decide) rfl rfl (Nat.le_of_ble_eq_true rfl) (fun x2 => ?_)
        refine sX_iload_n (i := 2) (by decide +kernel) rfl ?_
        refine sX_iclt (o := 19) (t := 38) (by decide +kernel) (by decide) (fun _ => ?_) (fun _ => ?_)
        · refine sX_iload (i := 4) (by decide +kernel) rfl ?_
          refine sX_exit he1 ?_
          exact sX_some (fun h _ => sW_iret (by decide +kernel) rfl (hr _ h).1.symm (hr _ h).2.symm)
        · refine sX_aload_n (i := 0) (by decide +kernel) rfl ?_
          refine sX_iload (i := 4) (by decide +kernel) rfl ?_
          refine sX_callVp (As := [.int v4]) (by decide +kernel) lm_X10_72 mf_X10_byteAt mi_X10_byteAt mc_10 (m_X10_byteAt G l v0 v4 M0) (fun _ h => sRc_some h) (by decide) rfl rfl (Nat.le_of_ble_eq_true rfl) (fun x3 => ?_)
          refine sX_iload_n (i := 3) (by decide +kernel) rfl ?_
          refine sX_icgt (o := 9) (t := 38) (by decide +kernel) (by decide) (fun _ => ?_) (fun _ => ?_)
          · refine sX_iload (i := 4) (by decide +kernel) rfl ?_
            refine sX_exit he1 ?_
            exact sX_some (fun h _ => sW_iret (by decide +kernel) rfl (hr _ h).1.symm (hr _ h).2.symm)
          · refine sX_iinc (i := 4) (n := 1) (v := v4 + (1 : Int32)) (ls2 := [some (.ref v0), none, some (.int v2), some (.int v3), some (.int (v4 + (1 : Int32)))]) (by decide +kernel) rfl rfl (by decide) rfl ?_
            refine sX_goto (o := -32) (t := 3) (by decide +kernel) (by decide) ?_
            exact sX_back (a := ((v4 + (1 : Int32)))) hb1 rfl (sLe_s (sLe_n (sLe_s (sLe_s (sLe_s sLe_e)))))
    exact fun a => xK3 a
  refine sX_rc ?_
  refine sX_iload_n (i := 1) (by decide +kernel) rfl ?_
  refine sX_istore (i := 4) (ls2 := [some (.ref v0), some (.int v1), some (.int v2), some (.int v3), some (.int v1)]) (by decide +kernel) (by decide) rfl ?_
  exact sX.le (xL3 v0 v2 v3 v1) (sLe_s (sLe_n (sLe_s (sLe_s (sLe_s sLe_e)))))
def f_X10_isGlued (v0 : Nat) (v1 : Int32) (M0 : sMem) : Option Int32 :=
  sRc 10 10 M0 v0 (
    (gI 10 10 6 M0 v0).bind fun x1 =>
    if x1 ≤ 0 then
      some ((0 : Int32))
    else
      (gR 10 10 2 M0 v0).bind fun x2 =>
      (gI 10 10 6 M0 v0).bind fun x3 =>
      (ldI 14 M0 x2 ((x3 - (1 : Int32)))).bind fun x4 =>
      if x4 = (3 : Int32) then
        some ((0 : Int32))
      else
        (gR 10 10 4 M0 v0).bind fun x5 =>
        (gI 10 10 6 M0 v0).bind fun x6 =>
        (ldI 14 M0 x5 ((x6 - (1 : Int32)))).bind fun x7 =>
        if x7 = v1 then
          some ((1 : Int32))
        else
          some ((0 : Int32)))
set_option maxRecDepth 100000 in
set_option maxHeartbeats 4000000 in
theorem m_X10_isGlued (G : sG) (l : Launch) (v0 : Nat) (v1 : Int32) (M0 : sMem) : sCp G l 1 yX10_isGlued cX10_isGlued 2 (some .boolean) [.ref v0, .int v1] M0 rvI (f_X10_isGlued v0 v1 M0) := by
  refine sC_p (ls := [some (.ref v0), some (.int v1)]) (by decide +kernel) rfl (Nat.le_of_ble_eq_true rfl) (fun r M' K hr => ?_)
  unfold f_X10_isGlued
  refine sX_rc ?_
  refine sX_aload_n (i := 0) (by decide +kernel) rfl ?_
  refine sX_getI lf_X10_40 tk_10_6 (by decide +kernel) (fun x1 => ?_)
  refine sX_ifle (o := 37) (t := 41) (by decide +kernel) (by decide) (fun _ => ?_) (fun _ => ?_)
  · refine sX_iconst (n := 0) (v := (0 : Int32)) (by decide +kernel) (by decide) ?_
    exact sX_some (fun h _ => sW_zret (by decide +kernel) rfl (by decide) (hr _ h).1.symm (hr _ h).2.symm)
  · refine sX_aload_n (i := 0) (by decide +kernel) rfl ?_
    refine sX_getR lf_X10_15 tk_10_2 (by decide +kernel) (fun x2 => ?_)
    refine sX_aload_n (i := 0) (by decide +kernel) rfl ?_
    refine sX_getI lf_X10_40 tk_10_6 (by decide +kernel) (fun x3 => ?_)
    refine sX_iconst (n := 1) (v := (1 : Int32)) (by decide +kernel) (by decide) ?_
    refine sX_isub (by decide +kernel) ?_
    refine sX_iaload (by decide +kernel) (fun x4 => ?_)
    refine sX_iconst (n := 3) (v := (3 : Int32)) (by decide +kernel) (by decide) ?_
    refine sX_iceq (o := 22) (t := 41) (by decide +kernel) (by decide) (fun _ => ?_) (fun _ => ?_)
    · refine sX_iconst (n := 0) (v := (0 : Int32)) (by decide +kernel) (by decide) ?_
      exact sX_some (fun h _ => sW_zret (by decide +kernel) rfl (by decide) (hr _ h).1.symm (hr _ h).2.symm)
    · refine sX_aload_n (i := 0) (by decide +kernel) rfl ?_
      refine sX_getR lf_X10_21 tk_10_4 (by decide +kernel) (fun x5 => ?_)
      refine sX_aload_n (i := 0) (by decide +kernel) rfl ?_
      refine sX_getI lf_X10_40 tk_10_6 (by decide +kernel) (fun x6 => ?_)
      refine sX_iconst (n := 1) (v := (1 : Int32)) (by decide +kernel) (by decide) ?_
      refine sX_isub (by decide +kernel) ?_
      refine sX_iaload (by decide +kernel) (fun x7 => ?_)
      refine sX_iload_n (i := 1) (by decide +kernel) rfl ?_
      refine sX_icne (o := 7) (t := 41) (by decide +kernel) (by decide) (fun _ => ?_) (fun _ => ?_)
      · refine sX_iconst (n := 1) (v := (1 : Int32)) (by decide +kernel) (by decide) ?_
        refine sX_goto (o := 4) (t := 42) (by decide +kernel) (by decide) ?_
        exact sX_some (fun h _ => sW_zret (by decide +kernel) rfl (by decide) (hr _ h).1.symm (hr _ h).2.symm)
      · refine sX_iconst (n := 0) (v := (0 : Int32)) (by decide +kernel) (by decide) ?_
        exact sX_some (fun h _ => sW_zret (by decide +kernel) rfl (by decide) (hr _ h).1.symm (hr _ h).2.symm)
def f_X10_isWord_K3 (v0 : Nat) (v1 : Int32) (v2 : Int32) (v3 : Int32) (v4 : Int32) (M : sMem) : Option ((Int32 × sMem) ⊕ (((Int32 × sMem)))) :=
  if v3 ≤ v4 then
    some (.inr (((1 : Int32), M)))
  else
    (f_J0_length_8abf5 ()).bind fun x1 =>
    if x1 ≤ (v1 + v4) then
      some (.inr (((1 : Int32), M)))
    else
      (f_J0_charAt_5068e ((v1 + v4))).bind fun x2 =>
      (f_X10_byteAt v0 ((v2 + v4)) M).bind fun x3 =>
      if x2 = x3 then
        some (.inl ((((v4 + (1 : Int32))), M)))
      else
        some (.inr (((0 : Int32), M)))
def f_X10_isWord_L3 (v0 : Nat) (v1 : Int32) (v2 : Int32) (v3 : Int32) (v4 : Int32) (M : sMem) : Option (Int32 × sMem) :=
  (sItr (fun a : (Int32 × sMem) => f_X10_isWord_K3 v0 v1 v2 v3 a.1 a.2) sFuel (v4, M)).bind (fun b => some b)
def f_X10_isWord (v0 : Nat) (v1 : Int32) (v2 : Int32) (v3 : Int32) (M0 : sMem) : Option (Int32 × sMem) :=
  sRc 10 10 M0 v0 (
    f_X10_isWord_L3 v0 v1 v2 v3 ((0 : Int32)) M0)
set_option maxRecDepth 100000 in
set_option maxHeartbeats 4000000 in
theorem m_X10_isWord (G : sG) (l : Launch) (v0 : Nat) (v1 : Int32) (v2 : Int32) (v3 : Int32) (M0 : sMem) : sC G l 9 yX10_isWord cX10_isWord 5 (some .boolean) [.ref v0, .int v1, .int v2, .int v3] M0 rvI (f_X10_isWord v0 v1 v2 v3 M0) := by
  refine sC_m (ls := [some (.ref v0), some (.int v1), some (.int v2), some (.int v3), none]) (by decide +kernel) rfl (Nat.le_of_ble_eq_true rfl) (fun r M' K hr => ?_)
  unfold f_X10_isWord
  have xL3 : ∀ (v0 : Nat) (v1 : Int32) (v2 : Int32) (v3 : Int32) (v4 : Int32) (M : sMem), sX G l 9 yX10_isWord cX10_isWord 5 (some .boolean) M0 r M' 3 [some (.ref v0), some (.int v1), some (.int v2), some (.int v3), some (.int v4)] [] M (f_X10_isWord_L3 v0 v1 v2 v3 v4 M) K := by
    intro v0 v1 v2 v3 v4 M
    unfold f_X10_isWord_L3
    refine sX_bind ?_
    refine sX_loop (LS := fun a : (Int32 × sMem) => [some (.ref v0), some (.int v1), some (.int v2), some (.int v3), some (.int a.1)]) (MM := fun a => a.2) (fun K1 hb1 he1 => ?_) sFuel ((v4, M))
    have xK3 : ∀ (v4 : Int32) (M : sMem), sX G l 9 yX10_isWord cX10_isWord 5 (some .boolean) M0 r M' 3 [some (.ref v0), some (.int v1), some (.int v2), some (.int v3), some (.int v4)] [] M (f_X10_isWord_K3 v0 v1 v2 v3 v4 M) K1 := by
      intro v4 M
      unfold f_X10_isWord_K3
      refine sX_iload (i := 4) (by decide +kernel) rfl ?_
      refine sX_iload_n (i := 3) (by decide +kernel) rfl ?_
      refine sX_icge (o := 43) (t := 49) (by decide +kernel) (by decide) (fun _ => ?_) (fun _ => ?_)
      · refine sX_iconst (n := 1) (v := (1 : Int32)) (by decide +kernel) (by decide) ?_
        refine sX_exit he1 ?_
        exact sX_some (fun h _ => sW_zret (by decide +kernel) rfl (by decide) (hr _ h).1.symm (hr _ h).2.symm)
      · refine sX_iload_n (i := 1) (by decide +kernel) rfl ?_
        refine sX_iload (i := 4) (by decide +kernel) rfl ?_
        refine sX_iadd (by decide +kernel) ?_
        refine sX_ldcS (by decide +kernel) rfl ?_
        refine sX_length_str (by decide +kernel) lm_X10_90 (by decide) (Nat.le_of_ble_eq_true rfl) (fun x1 => ?_)
        refine sX_icge (o := 31) (t := 49) (by decide +kernel) (by decide) (fun _ => ?_) (fun _ => ?_)
        · refine sX_iconst (n := 1) (v := (1 : Int32)) (by decide +kernel) (by decide) ?_
          refine sX_exit he1 ?_
          exact sX_some (fun h _ => sW_zret (by decide +kernel) rfl (by decide) (hr _ h).1.symm (hr _ h).2.symm)
        · refine sX_ldcS (by decide +kernel) rfl ?_
          refine sX_iload_n (i := 1) (by decide +kernel) rfl ?_
          refine sX_iload (i := 4) (by decide +kernel) rfl ?_
          refine sX_iadd (by decide +kernel) ?_
          refine sX_charAt_str (by decide +kernel) lm_X10_96 (by decide) (Nat.le_of_ble_eq_true rfl) (fun x2 => ?_)
          refine sX_aload_n (i := 0) (by decide +kernel) rfl ?_
          refine sX_iload_n (i := 2) (by decide +kernel) rfl ?_
          refine sX_iload (i := 4) (by decide +kernel) rfl ?_
          refine sX_iadd (by decide +kernel) ?_
          refine sX_callVp (As := [.int (v2 + v4)]) (by decide +kernel) lm_X10_72 mf_X10_byteAt mi_X10_byteAt mc_10 (m_X10_byteAt G l v0 ((v2 + v4)) M) (fun _ h => sRc_some h) (by decide) rfl rfl (Nat.le_of_ble_eq_true rfl) (fun x3 => ?_)
          refine sX_iceq (o := 5) (t := 43) (by decide +kernel) (by decide) (fun _ => ?_) (fun _ => ?_)
          · refine sX_iinc (i := 4) (n := 1) (v := v4 + (1 : Int32)) (ls2 := [some (.ref v0), some (.int v1), some (.int v2), some (.int v3), some (.int (v4 + (1 : Int32)))]) (by decide +kernel) rfl rfl (by decide) rfl ?_
            refine sX_goto (o := -43) (t := 3) (by decide +kernel) (by decide) ?_
            exact sX_back (a := (((v4 + (1 : Int32))), M)) hb1 rfl (sLe_s (sLe_s (sLe_s (sLe_s (sLe_s sLe_e)))))
          · refine sX_iconst (n := 0) (v := (0 : Int32)) (by decide +kernel) (by decide) ?_
            refine sX_exit he1 ?_
            exact sX_some (fun h _ => sW_zret (by decide +kernel) rfl (by decide) (hr _ h).1.symm (hr _ h).2.symm)
    exact fun a => xK3 a.1 a.2
  refine sX_rc ?_
  refine sX_iconst (n := 0) (v := (0 : Int32)) (by decide +kernel) (by decide) ?_
  refine sX_istore (i := 4) (ls2 := [some (.ref v0), some (.int v1), some (.int v2), some (.int v3), some (.int (0 : Int32))]) (by decide +kernel) (by decide) rfl ?_
  exact sX.le (xL3 v0 v1 v2 v3 ((0 : Int32)) M0) (sLe_s (sLe_s (sLe_s (sLe_s (sLe_s sLe_e)))))
def f_X10_wordBetween_B65 (v0 : Nat) (v1 : Int32) (v2 : Int32) (v3 : Int32) (v4 : Int32) (v5 : Int32) (M : sMem) : Option ((Int32 × Int32 × Int32 × sMem) ⊕ (((Int32 × sMem)))) :=
  some (.inl ((v3, v4, ((v5 + (1 : Int32))), M)))
def f_X10_wordBetween_B56 (v0 : Nat) (v1 : Int32) (v2 : Int32) (v3 : Int32) (v5 : Int32) (M : sMem) : Option ((Int32 × Int32 × Int32 × sMem) ⊕ (((Int32 × sMem)))) :=
  f_X10_wordBetween_B65 v0 v1 v2 ((v3 + (1 : Int32))) ((v5 + (1 : Int32))) v5 M
def f_X10_wordBetween_K8 (v0 : Nat) (v1 : Int32) (v2 : Int32) (v3 : Int32) (v4 : Int32) (v5 : Int32) (M : sMem) : Option ((Int32 × Int32 × Int32 × sMem) ⊕ (((Int32 × sMem)))) :=
  (f_J0_length_8abf5 ()).bind fun x1 =>
  if x1 ≤ v5 then
    some (.inr (((-1 : Int32), M)))
  else
    (f_J0_charAt_5068e v5).bind fun x2 =>
    if x2 = (32 : Int32) then
      if (v5 - v4) = (v2 - v1) then
        (f_X10_isWord v0 v4 v1 ((v2 - v1)) M).bind fun (x3, M4) =>
        if x3 = 0 then
          f_X10_wordBetween_B56 v0 v1 v2 v3 v5 M4
        else
          some (.inr ((v3, M4)))
      else
        f_X10_wordBetween_B56 v0 v1 v2 v3 v5 M
    else
      f_X10_wordBetween_B65 v0 v1 v2 v3 v4 v5 M
def f_X10_wordBetween_L8 (v0 : Nat) (v1 : Int32) (v2 : Int32) (v3 : Int32) (v4 : Int32) (v5 : Int32) (M : sMem) : Option (Int32 × sMem) :=
  (sItr (fun a : (Int32 × Int32 × Int32 × sMem) => f_X10_wordBetween_K8 v0 v1 v2 a.1 a.2.1 a.2.2.1 a.2.2.2) sFuel (v3, v4, v5, M)).bind (fun b => some b)
def f_X10_wordBetween (v0 : Nat) (v1 : Int32) (v2 : Int32) (M0 : sMem) : Option (Int32 × sMem) :=
  sRc 10 10 M0 v0 (
    f_X10_wordBetween_L8 v0 v1 v2 ((0 : Int32)) ((0 : Int32)) ((0 : Int32)) M0)
set_option maxRecDepth 100000 in
set_option maxHeartbeats 4000000 in
theorem m_X10_wordBetween (G : sG) (l : Launch) (v0 : Nat) (v1 : Int32) (v2 : Int32) (M0 : sMem) : sC G l 10 yX10_wordBetween cX10_wordBetween 6 (some .int) [.ref v0, .int v1, .int v2] M0 rvI (f_X10_wordBetween v0 v1 v2 M0) := by
  refine sC_m (ls := [some (.ref v0), some (.int v1), some (.int v2), none, none, none]) (by decide +kernel) rfl (Nat.le_of_ble_eq_true rfl) (fun r M' K hr => ?_)
  unfold f_X10_wordBetween
  have xL8 : ∀ (v0 : Nat) (v1 : Int32) (v2 : Int32) (v3 : Int32) (v4 : Int32) (v5 : Int32) (M : sMem), sX G l 10 yX10_wordBetween cX10_wordBetween 6 (some .int) M0 r M' 8 [some (.ref v0), some (.int v1), some (.int v2), some (.int v3), some (.int v4), some (.int v5)] [] M (f_X10_wordBetween_L8 v0 v1 v2 v3 v4 v5 M) K := by
    intro v0 v1 v2 v3 v4 v5 M
    unfold f_X10_wordBetween_L8
    refine sX_bind ?_
    refine sX_loop (LS := fun a : (Int32 × Int32 × Int32 × sMem) => [some (.ref v0), some (.int v1), some (.int v2), some (.int a.1), some (.int a.2.1), some (.int a.2.2.1)]) (MM := fun a => a.2.2.2) (fun K1 hb1 he1 => ?_) sFuel ((v3, v4, v5, M))
    have xB65 : ∀ (v3 : Int32) (v4 : Int32) (v5 : Int32) (M : sMem), sX G l 10 yX10_wordBetween cX10_wordBetween 6 (some .int) M0 r M' 65 [some (.ref v0), some (.int v1), some (.int v2), some (.int v3), some (.int v4), some (.int v5)] [] M (f_X10_wordBetween_B65 v0 v1 v2 v3 v4 v5 M) K1 := by
      intro v3 v4 v5 M
      unfold f_X10_wordBetween_B65
      refine sX_iinc (i := 5) (n := 1) (v := v5 + (1 : Int32)) (ls2 := [some (.ref v0), some (.int v1), some (.int v2), some (.int v3), some (.int v4), some (.int (v5 + (1 : Int32)))]) (by decide +kernel) rfl rfl (by decide) rfl ?_
      refine sX_goto (o := -60) (t := 8) (by decide +kernel) (by decide) ?_
      exact sX_back (a := (v3, v4, ((v5 + (1 : Int32))), M)) hb1 rfl (sLe_s (sLe_s (sLe_s (sLe_s (sLe_s (sLe_s sLe_e))))))
    have xB56 : ∀ (v3 : Int32) (v5 : Int32) (M : sMem), sX G l 10 yX10_wordBetween cX10_wordBetween 6 (some .int) M0 r M' 56 [some (.ref v0), some (.int v1), some (.int v2), some (.int v3), none, some (.int v5)] [] M (f_X10_wordBetween_B56 v0 v1 v2 v3 v5 M) K1 := by
      intro v3 v5 M
      unfold f_X10_wordBetween_B56
      refine sX_iinc (i := 3) (n := 1) (v := v3 + (1 : Int32)) (ls2 := [some (.ref v0), some (.int v1), some (.int v2), some (.int (v3 + (1 : Int32))), none, some (.int v5)]) (by decide +kernel) rfl rfl (by decide) rfl ?_
      refine sX_iload (i := 5) (by decide +kernel) rfl ?_
      refine sX_iconst (n := 1) (v := (1 : Int32)) (by decide +kernel) (by decide) ?_
      refine sX_iadd (by decide +kernel) ?_
      refine sX_istore (i := 4) (ls2 := [some (.ref v0), some (.int v1), some (.int v2), some (.int (v3 + (1 : Int32))), some (.int (v5 + (1 : Int32))), some (.int v5)]) (by decide +kernel) (by decide) rfl ?_
      exact sX.le (xB65 ((v3 + (1 : Int32))) ((v5 + (1 : Int32))) v5 M) (sLe_s (sLe_s (sLe_s (sLe_s (sLe_s (sLe_s sLe_e))))))
    have xK8 : ∀ (v3 : Int32) (v4 : Int32) (v5 : Int32) (M : sMem), sX G l 10 yX10_wordBetween cX10_wordBetween 6 (some .int) M0 r M' 8 [some (.ref v0), some (.int v1), some (.int v2), some (.int v3), some (.int v4), some (.int v5)] [] M (f_X10_wordBetween_K8 v0 v1 v2 v3 v4 v5 M) K1 := by
      intro v3 v4 v5 M
      unfold f_X10_wordBetween_K8
      refine sX_iload (i := 5) (by decide +kernel) rfl ?_
      refine sX_ldcS (by decide +kernel) rfl ?_
      refine sX_length_str (by decide +kernel) lm_X10_90 (by decide) (Nat.le_of_ble_eq_true rfl) (fun x1 => ?_)
      refine sX_icge (o := 56) (t := 71) (by decide +kernel) (by decide) (fun _ => ?_) (fun _ => ?_)
      · refine sX_iconst (n := -1) (v := (-1 : Int32)) (by decide +kernel) (by decide) ?_
        refine sX_exit he1 ?_
        exact sX_some (fun h _ => sW_iret (by decide +kernel) rfl (hr _ h).1.symm (hr _ h).2.symm)
      · refine sX_ldcS (by decide +kernel) rfl ?_
        refine sX_iload (i := 5) (by decide +kernel) rfl ?_
        refine sX_charAt_str (by decide +kernel) lm_X10_96 (by decide) (Nat.le_of_ble_eq_true rfl) (fun x2 => ?_)
        refine sX_bipush (n := 32) (v := (32 : Int32)) (by decide +kernel) (by decide) ?_
        refine sX_icne (o := 38) (t := 65) (by decide +kernel) (by decide) (fun _ => ?_) (fun _ => ?_)
        · refine sX_iload (i := 5) (by decide +kernel) rfl ?_
          refine sX_iload (i := 4) (by decide +kernel) rfl ?_
          refine sX_isub (by decide +kernel) ?_
          refine sX_iload_n (i := 2) (by decide +kernel) rfl ?_
          refine sX_iload_n (i := 1) (by decide +kernel) rfl ?_
          refine sX_isub (by decide +kernel) ?_
          refine sX_icne (o := 18) (t := 56) (by decide +kernel) (by decide) (fun _ => ?_) (fun _ => ?_)
          · refine sX_aload_n (i := 0) (by decide +kernel) rfl ?_
            refine sX_iload (i := 4) (by decide +kernel) rfl ?_
            refine sX_iload_n (i := 1) (by decide +kernel) rfl ?_
            refine sX_iload_n (i := 2) (by decide +kernel) rfl ?_
            refine sX_iload_n (i := 1) (by decide +kernel) rfl ?_
            refine sX_isub (by decide +kernel) ?_
            refine sX_callV (As := [.int v4, .int v1, .int (v2 - v1)]) (by decide +kernel) lm_X10_100 mf_X10_isWord mi_X10_isWord mc_10 (m_X10_isWord G l v0 v4 v1 ((v2 - v1)) M) (fun _ h => sRc_some h) (by decide) rfl rfl (Nat.le_of_ble_eq_true rfl) (fun x3 M4 _ => ?_)
            refine sX_ifeq (o := 5) (t := 56) (by decide +kernel) (by decide) (fun _ => ?_) (fun _ => ?_)
            · exact sX.le (xB56 v3 v5 M4) (sLe_s (sLe_s (sLe_s (sLe_s (sLe_n (sLe_s sLe_e))))))
            · refine sX_iload_n (i := 3) (by decide +kernel) rfl ?_
              refine sX_exit he1 ?_
              exact sX_some (fun h _ => sW_iret (by decide +kernel) rfl (hr _ h).1.symm (hr _ h).2.symm)
          · exact sX.le (xB56 v3 v5 M) (sLe_s (sLe_s (sLe_s (sLe_s (sLe_n (sLe_s sLe_e))))))
        · exact sX.le (xB65 v3 v4 v5 M) (sLe_s (sLe_s (sLe_s (sLe_s (sLe_s (sLe_s sLe_e))))))
    exact fun a => xK8 a.1 a.2.1 a.2.2.1 a.2.2.2
  refine sX_rc ?_
  refine sX_iconst (n := 0) (v := (0 : Int32)) (by decide +kernel) (by decide) ?_
  refine sX_istore_n (i := 3) (ls2 := [some (.ref v0), some (.int v1), some (.int v2), some (.int (0 : Int32)), none, none]) (by decide +kernel) (by decide) rfl ?_
  refine sX_iconst (n := 0) (v := (0 : Int32)) (by decide +kernel) (by decide) ?_
  refine sX_istore (i := 4) (ls2 := [some (.ref v0), some (.int v1), some (.int v2), some (.int (0 : Int32)), some (.int (0 : Int32)), none]) (by decide +kernel) (by decide) rfl ?_
  refine sX_iconst (n := 0) (v := (0 : Int32)) (by decide +kernel) (by decide) ?_
  refine sX_istore (i := 5) (ls2 := [some (.ref v0), some (.int v1), some (.int v2), some (.int (0 : Int32)), some (.int (0 : Int32)), some (.int (0 : Int32))]) (by decide +kernel) (by decide) rfl ?_
  exact sX.le (xL8 v0 v1 v2 ((0 : Int32)) ((0 : Int32)) ((0 : Int32)) M0) (sLe_s (sLe_s (sLe_s (sLe_s (sLe_s (sLe_s sLe_e))))))
