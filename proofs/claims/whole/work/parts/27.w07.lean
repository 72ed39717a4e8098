def f_X11_callKeepers_K26 (v0 : Nat) (v1 : Int32) (v2 : Int32) (v3 : Int32) (v4 : Int32) (M : sMem) : Option ((Int32 × Int32 × sMem) ⊕ (((Int32 × sMem)))) :=
  if (200 : Int32) ≤ v4 then
    some (.inr (((1 : Int32), M)))
  else
    if v3 = (-1 : Int32) then
      some (.inr (((1 : Int32), M)))
    else
      (f_X11_lastOfClosing v0 v1 v3 M).bind fun x1 =>
      (gR 11 20 10 M v0).bind fun x2 =>
      (f_X3_addClosing x2 v3 x1 v2 M).bind fun (x3, M4) =>
      if x3 = 0 then
        some (.inr (((0 : Int32), M4)))
      else
        (gR 11 20 11 M4 v0).bind fun x5 =>
        (f_X11_firstClosed x5 v1 ((x1 + (1 : Int32))) M4).bind fun x6 =>
        some (.inl ((x6, ((v4 + (1 : Int32))), M4)))
def f_X11_callKeepers_L26 (v0 : Nat) (v1 : Int32) (v2 : Int32) (v3 : Int32) (v4 : Int32) (M : sMem) : Option (Int32 × sMem) :=
  (sItr (fun a : (Int32 × Int32 × sMem) => f_X11_callKeepers_K26 v0 v1 v2 a.1 a.2.1 a.2.2) sFuel (v3, v4, M)).bind (fun b => some b)
def f_X11_callKeepers (v0 : Nat) (v1 : Int32) (M0 : sMem) : Option (Int32 × sMem) :=
  sRc 11 20 M0 v0 (
    (gR 11 20 2 M0 v0).bind fun x7 =>
    (gR 1 10 1 M0 x7).bind fun x8 =>
    (f_X9_cell x8 v1 ((0 : Int32)) M0).bind fun x9 =>
    (gR 11 20 11 M0 v0).bind fun x10 =>
    (f_X11_firstClosed x10 v1 ((0 : Int32)) M0).bind fun x11 =>
    f_X11_callKeepers_L26 v0 v1 x9 x11 ((0 : Int32)) M0)
set_option maxRecDepth 100000 in
set_option maxHeartbeats 4000000 in
theorem m_X11_callKeepers (G : sG) (l : Launch) (v0 : Nat) (v1 : Int32) (M0 : sMem) : sC G l 4 yX11_callKeepers cX11_callKeepers 6 (some .boolean) [.ref v0, .int v1] M0 rvI (f_X11_callKeepers v0 v1 M0) := by
  refine sC_m (ls := [some (.ref v0), some (.int v1), none, none, none, none]) (by decide +kernel) rfl (Nat.le_of_ble_eq_true rfl) (fun r M' K hr => ?_)
  unfold f_X11_callKeepers
  have xL26 : ∀ (v0 : Nat) (v1 : Int32) (v2 : Int32) (v3 : Int32) (v4 : Int32) (M : sMem), sX G l 4 yX11_callKeepers cX11_callKeepers 6 (some .boolean) M0 r M' 26 [some (.ref v0), some (.int v1), some (.int v2), some (.int v3), some (.int v4), none] [] M (f_X11_callKeepers_L26 v0 v1 v2 v3 v4 M) K := by
    intro v0 v1 v2 v3 v4 M
    unfold f_X11_callKeepers_L26
    refine sX_bind ?_
    refine sX_loop (LS := fun a : (Int32 × Int32 × sMem) => [some (.ref v0), some (.int v1), some (.int v2), some (.int a.1), some (.int a.2.1), none]) (MM := fun a => a.2.2) (fun K1 hb1 he1 => ?_) sFuel ((v3, v4, M))
    have xK26 : ∀ (v3 : Int32) (v4 : Int32) (M : sMem), sX G l 4 yX11_callKeepers cX11_callKeepers 6 (some .boolean) M0 r M' 26 [some (.ref v0), some (.int v1), some (.int v2), some (.int v3), some (.int v4), none] [] M (f_X11_callKeepers_K26 v0 v1 v2 v3 v4 M) K1 := by
      intro v3 v4 M
      unfold f_X11_callKeepers_K26
      refine sX_iload (i := 4) (by decide +kernel) rfl ?_
      refine sX_sipush (n := 200) (v := (200 : Int32)) (by decide +kernel) (by decide) ?_
      refine sX_icge (o := 51) (t := 82) (by decide +kernel) (by decide) (fun _ => ?_) (fun _ => ?_)
      · refine sX_iconst (n := 1) (v := (1 : Int32)) (by decide +kernel) (by decide) ?_
        refine sX_exit he1 ?_
        exact sX_some (fun h _ => sW_zret (by decide +kernel) rfl (by decide) (hr _ h).1.symm (hr _ h).2.symm)
      · refine sX_iload_n (i := 3) (by decide +kernel) rfl ?_
        refine sX_iconst (n := -1) (v := (-1 : Int32)) (by decide +kernel) (by decide) ?_
        refine sX_iceq (o := 46) (t := 82) (by decide +kernel) (by decide) (fun _ => ?_) (fun _ => ?_)
        · refine sX_iconst (n := 1) (v := (1 : Int32)) (by decide +kernel) (by decide) ?_
          refine sX_exit he1 ?_
          exact sX_some (fun h _ => sW_zret (by decide +kernel) rfl (by decide) (hr _ h).1.symm (hr _ h).2.symm)
        · refine sX_aload_n (i := 0) (by decide +kernel) rfl ?_
          refine sX_iload_n (i := 1) (by decide +kernel) rfl ?_
          refine sX_iload_n (i := 3) (by decide +kernel) rfl ?_
          refine sX_callVp (As := [.int v1, .int v3]) (by decide +kernel) lm_X11_246 mf_X11_lastOfClosing mi_X11_lastOfClosing mc_11 (m_X11_lastOfClosing G l v0 v1 v3 M) (fun _ h => sRc_some h) (by decide) rfl rfl (Nat.le_of_ble_eq_true rfl) (fun x1 => ?_)
          refine sX_istore (i := 5) (ls2 := [some (.ref v0), some (.int v1), some (.int v2), some (.int v3), some (.int v4), some (.int x1)]) (by decide +kernel) (by decide) rfl ?_
          refine sX_aload_n (i := 0) (by decide +kernel) rfl ?_
          refine sX_getR lf_X11_61 tk_11_10 (by decide +kernel) (fun x2 => ?_)
          refine sX_iload_n (i := 3) (by decide +kernel) rfl ?_
          refine sX_iload (i := 5) (by decide +kernel) rfl ?_
          refine sX_iload_n (i := 2) (by decide +kernel) rfl ?_
          refine sX_callV (As := [.int v3, .int x1, .int v2]) (by decide +kernel) lm_X11_349 mf_X3_addClosing mi_X3_addClosing mc_3 (m_X3_addClosing G l x2 v3 x1 v2 M) (fun _ h => sRc_some h) (by decide) rfl rfl (Nat.le_of_ble_eq_true rfl) (fun x3 M4 _ => ?_)
          refine sX_ifne (o := 5) (t := 63) (by decide +kernel) (by decide) (fun _ => ?_) (fun _ => ?_)
          · refine sX_iconst (n := 0) (v := (0 : Int32)) (by decide +kernel) (by decide) ?_
            refine sX_exit he1 ?_
            exact sX_some (fun h _ => sW_zret (by decide +kernel) rfl (by decide) (hr _ h).1.symm (hr _ h).2.symm)
          · refine sX_aload_n (i := 0) (by decide +kernel) rfl ?_
            refine sX_getR lf_X11_65 tk_11_11 (by decide +kernel) (fun x5 => ?_)
            refine sX_iload_n (i := 1) (by decide +kernel) rfl ?_
            refine sX_iload (i := 5) (by decide +kernel) rfl ?_
            refine sX_iconst (n := 1) (v := (1 : Int32)) (by decide +kernel) (by decide) ?_
            refine sX_iadd (by decide +kernel) ?_
            refine sX_callSp (As := [.ref x5, .int v1, .int (x1 + (1 : Int32))]) (by decide +kernel) lm_X11_243 mf_X11_firstClosed ms_X11_firstClosed (m_X11_firstClosed G l x5 v1 ((x1 + (1 : Int32))) M4) (by decide) rfl rfl (Nat.le_of_ble_eq_true rfl) (fun x6 => ?_)
            refine sX_istore_n (i := 3) (ls2 := [some (.ref v0), some (.int v1), some (.int v2), some (.int x6), some (.int v4), some (.int x1)]) (by decide +kernel) (by decide) rfl ?_
            refine sX_iinc (i := 4) (n := 1) (v := v4 + (1 : Int32)) (ls2 := [some (.ref v0), some (.int v1), some (.int v2), some (.int x6), some (.int (v4 + (1 : Int32))), some (.int x1)]) (by decide +kernel) rfl rfl (by decide) rfl ?_
            refine sX_goto (o := -53) (t := 26) (by decide +kernel) (by decide) ?_
            exact sX_back (a := (x6, ((v4 + (1 : Int32))), M4)) hb1 rfl (sLe_s (sLe_s (sLe_s (sLe_s (sLe_s (sLe_n sLe_e))))))
    exact fun a => xK26 a.1 a.2.1 a.2.2
  refine sX_rc ?_
  refine sX_aload_n (i := 0) (by decide +kernel) rfl ?_
  refine sX_getR lf_X11_28 tk_11_2 (by decide +kernel) (fun x7 => ?_)
  refine sX_getR lf_X11_125 tk_1_1 (by decide +kernel) (fun x8 => ?_)
  refine sX_iload_n (i := 1) (by decide +kernel) rfl ?_
  refine sX_iconst (n := 0) (v := (0 : Int32)) (by decide +kernel) (by decide) ?_
  refine sX_callVp (As := [.int v1, .int (0 : Int32)]) (by decide +kernel) lm_X11_168 mf_X9_cell mi_X9_cell mc_9 (m_X9_cell G l x8 v1 ((0 : Int32)) M0) (fun _ h => sRc_some h) (by decide) rfl rfl (Nat.le_of_ble_eq_true rfl) (fun x9 => ?_)
  refine sX_istore_n (i := 2) (ls2 := [some (.ref v0), some (.int v1), some (.int x9), none, none, none]) (by decide +kernel) (by decide) rfl ?_
  refine sX_aload_n (i := 0) (by decide +kernel) rfl ?_
  refine sX_getR lf_X11_65 tk_11_11 (by decide +kernel) (fun x10 => ?_)
  refine sX_iload_n (i := 1) (by decide +kernel) rfl ?_
  refine sX_iconst (n := 0) (v := (0 : Int32)) (by decide +kernel) (by decide) ?_
  refine sX_callSp (As := [.ref x10, .int v1, .int (0 : Int32)]) (by decide +kernel) lm_X11_243 mf_X11_firstClosed ms_X11_firstClosed (m_X11_firstClosed G l x10 v1 ((0 : Int32)) M0) (by decide) rfl rfl (Nat.le_of_ble_eq_true rfl) (fun x11 => ?_)
  refine sX_istore_n (i := 3) (ls2 := [some (.ref v0), some (.int v1), some (.int x9), some (.int x11), none, none]) (by decide +kernel) (by decide) rfl ?_
  refine sX_iconst (n := 0) (v := (0 : Int32)) (by decide +kernel) (by decide) ?_
  refine sX_istore (i := 4) (ls2 := [some (.ref v0), some (.int v1), some (.int x9), some (.int x11), some (.int (0 : Int32)), none]) (by decide +kernel) (by decide) rfl ?_
  exact sX.le (xL26 v0 v1 x9 x11 ((0 : Int32)) M0) (sLe_s (sLe_s (sLe_s (sLe_s (sLe_s (sLe_n sLe_e))))))
def f_X11_keepers_B53 (v0 : Nat) (M : sMem) : Option (Int32 × sMem) :=
  (gR 11 20 10 M v0).bind fun x1 =>
  (f_X3_fewest x1 M).bind fun (x2, M3) =>
  some ((x2, M3))
def f_X11_keepers_K23 (v0 : Nat) (v1 : Int32) (M : sMem) : Option ((Int32 × sMem) ⊕ ((sMem) ⊕ (((Int32 × sMem))))) :=
  (gR 11 20 2 M v0).bind fun x4 =>
  (gR 1 10 1 M x4).bind fun x5 =>
  (gI 9 4 3 M x5).bind fun x6 =>
  if x6 ≤ v1 then
    some (.inr (.inl (M)))
  else
    (f_X11_callKeepers v0 v1 M).bind fun (x7, M8) =>
    if x7 = 0 then
      some (.inr (.inr (((-1 : Int32), M8))))
    else
      some (.inl ((((v1 + (1 : Int32))), M8)))
def f_X11_keepers_L23 (v0 : Nat) (v1 : Int32) (M : sMem) : Option (Int32 × sMem) :=
  (sItr (fun a : (Int32 × sMem) => f_X11_keepers_K23 v0 a.1 a.2) sFuel (v1, M)).bind (fun b => match b with
    | .inl (b) => f_X11_keepers_B53 v0 b
    | .inr (b) => some b)
def f_X11_keepers (v0 : Nat) (M0 : sMem) : Option (Int32 × sMem) :=
  sRc 11 20 M0 v0 (
    (f_X11_isTold v0 M0).bind fun x9 =>
    if x9 = 0 then
      some (((-1 : Int32), M0))
    else
      (f_X11_closeNow v0 M0).bind fun M10 =>
      (gR 11 20 10 M10 v0).bind fun x11 =>
      (pI 3 6 5 M10 x11 ((0 : Int32))).bind fun M12 =>
      f_X11_keepers_L23 v0 ((0 : Int32)) M12)
set_option maxRecDepth 100000 in
set_option maxHeartbeats 4000000 in
theorem m_X11_keepers (G : sG) (l : Launch) (v0 : Nat) (M0 : sMem) : sC G l 69 yX11_keepers cX11_keepers 2 (some .int) [.ref v0] M0 rvI (f_X11_keepers v0 M0) := by
  refine sC_m (ls := [some (.ref v0), none]) (by decide +kernel) rfl (Nat.le_of_ble_eq_true rfl) (fun r M' K hr => ?_)
  unfold f_X11_keepers
  have xB53 : ∀ (v0 : Nat) (M : sMem), sX G l 69 yX11_keepers cX11_keepers 2 (some .int) M0 r M' 53 [some (.ref v0), none] [] M (f_X11_keepers_B53 v0 M) K := by
    intro v0 M
    unfold f_X11_keepers_B53
    refine sX_aload_n (i := 0) (by decide +kernel) rfl ?_
    refine sX_getR lf_X11_61 tk_11_10 (by decide +kernel) (fun x1 => ?_)
    refine sX_callV (As := []) (by decide +kernel) lm_X11_257 mf_X3_fewest mi_X3_fewest mc_3 (m_X3_fewest G l x1 M) (fun _ h => sRc_some h) (by decide) rfl rfl (Nat.le_of_ble_eq_true rfl) (fun x2 M3 _ => ?_)
    exact sX_some (fun h _ => sW_iret (by decide +kernel) rfl (hr _ h).1.symm (hr _ h).2.symm)
  have xL23 : ∀ (v0 : Nat) (v1 : Int32) (M : sMem), sX G l 69 yX11_keepers cX11_keepers 2 (some .int) M0 r M' 23 [some (.ref v0), some (.int v1)] [] M (f_X11_keepers_L23 v0 v1 M) K := by
    intro v0 v1 M
    unfold f_X11_keepers_L23
    refine sX_bind ?_
    refine sX_loop (LS := fun a : (Int32 × sMem) => [some (.ref v0), some (.int a.1)]) (MM := fun a => a.2) (fun K1 hb1 he1 => ?_) sFuel ((v1, M))
    have xK23 : ∀ (v1 : Int32) (M : sMem), sX G l 69 yX11_keepers cX11_keepers 2 (some .int) M0 r M' 23 [some (.ref v0), some (.int v1)] [] M (f_X11_keepers_K23 v0 v1 M) K1 := by
      intro v1 M
      unfold f_X11_keepers_K23
      refine sX_iload_n (i := 1) (by decide +kernel) rfl ?_
      refine sX_aload_n (i := 0) (by decide +kernel) rfl ?_
      refine sX_getR lf_X11_28 tk_11_2 (by decide +kernel) (fun x4 => ?_)
      refine sX_getR lf_X11_125 tk_1_1 (by decide +kernel) (fun x5 => ?_)
      refine sX_getI lf_X11_129 tk_9_3 (by decide +kernel) (fun x6 => ?_)
      refine sX_icge (o := 19) (t := 53) (by decide +kernel) (by decide) (fun _ => ?_) (fun _ => ?_)
      · refine sX_exit he1 ?_
        exact sX.le (xB53 v0 M) (sLe_s (sLe_n sLe_e))
      · refine sX_aload_n (i := 0) (by decide +kernel) rfl ?_
        refine sX_iload_n (i := 1) (by decide +kernel) rfl ?_
        refine sX_callV (As := [.int v1]) (by decide +kernel) lm_X11_254 mf_X11_callKeepers mi_X11_callKeepers mc_11 (m_X11_callKeepers G l v0 v1 M) (fun _ h => sRc_some h) (by decide) rfl rfl (Nat.le_of_ble_eq_true rfl) (fun x7 M8 _ => ?_)
        refine sX_ifne (o := 5) (t := 47) (by decide +kernel) (by decide) (fun _ => ?_) (fun _ => ?_)
        · refine sX_iconst (n := -1) (v := (-1 : Int32)) (by decide +kernel) (by decide) ?_
          refine sX_exit he1 ?_
          exact sX_some (fun h _ => sW_iret (by decide +kernel) rfl (hr _ h).1.symm (hr _ h).2.symm)
        · refine sX_iinc (i := 1) (n := 1) (v := v1 + (1 : Int32)) (ls2 := [some (.ref v0), some (.int (v1 + (1 : Int32)))]) (by decide +kernel) rfl rfl (by decide) rfl ?_
          refine sX_goto (o := -27) (t := 23) (by decide +kernel) (by decide) ?_
          exact sX_back (a := (((v1 + (1 : Int32))), M8)) hb1 rfl (sLe_s (sLe_s sLe_e))
    exact fun a => xK23 a.1 a.2
  refine sX_rc ?_
  refine sX_aload_n (i := 0) (by decide +kernel) rfl ?_
  refine sX_callVp (As := []) (by decide +kernel) lm_X11_249 mf_X11_isTold mi_X11_isTold mc_11 (m_X11_isTold G l v0 M0) (fun _ h => sRc_some h) (by decide) rfl rfl (Nat.le_of_ble_eq_true rfl) (fun x9 => ?_)
  refine sX_ifne (o := 5) (t := 9) (by decide +kernel) (by decide) (fun _ => ?_) (fun _ => ?_)
  · refine sX_iconst (n := -1) (v := (-1 : Int32)) (by decide +kernel) (by decide) ?_
    exact sX_some (fun h _ => sW_iret (by decide +kernel) rfl (hr _ h).1.symm (hr _ h).2.symm)
  · refine sX_aload_n (i := 0) (by decide +kernel) rfl ?_
    refine sX_callVv (As := []) (by decide +kernel) lm_X11_202 mf_X11_closeNow mi_X11_closeNow mc_11 (m_X11_closeNow G l v0 M0) (fun _ h => sRc_some h) (by decide) rfl rfl (Nat.le_of_ble_eq_true rfl) (fun M10 => ?_)
    refine sX_aload_n (i := 0) (by decide +kernel) rfl ?_
    refine sX_getR lf_X11_61 tk_11_10 (by decide +kernel) (fun x11 => ?_)
    refine sX_iconst (n := 0) (v := (0 : Int32)) (by decide +kernel) (by decide) ?_
    refine sX_putI lf_X11_253 tp_3_5 (by decide +kernel) (by decide) (fun M12 => ?_)
    refine sX_iconst (n := 0) (v := (0 : Int32)) (by decide +kernel) (by decide) ?_
    refine sX_istore_n (i := 1) (ls2 := [some (.ref v0), some (.int (0 : Int32))]) (by decide +kernel) (by decide) rfl ?_
    exact sX.le (xL23 v0 ((0 : Int32)) M12) (sLe_s (sLe_s sLe_e))
def f_X11_isFlag_B9 (M0 : sMem) : Option Int32 :=
  some ((1 : Int32))
def f_X11_isFlag (v0 : Int32) (M0 : sMem) : Option Int32 :=
  if v0 = 0 then
    f_X11_isFlag_B9 M0
  else
    if v0 = (1 : Int32) then
      f_X11_isFlag_B9 M0
    else
      some ((0 : Int32))
set_option maxRecDepth 100000 in
set_option maxHeartbeats 4000000 in
theorem m_X11_isFlag (G : sG) (l : Launch) (v0 : Int32) (M0 : sMem) : sCp G l 1 yX11_isFlag cX11_isFlag 1 (some .boolean) [.int v0] M0 rvI (f_X11_isFlag v0 M0) := by
  refine sC_p (ls := [some (.int v0)]) (by decide +kernel) rfl (Nat.le_of_ble_eq_true rfl) (fun r M' K hr => ?_)
  unfold f_X11_isFlag
  have xB9 : sX G l 1 yX11_isFlag cX11_isFlag 1 (some .boolean) M0 r M' 9 [none] [] M0 (f_X11_isFlag_B9 M0) K := by
    unfold f_X11_isFlag_B9
    refine sX_iconst (n := 1) (v := (1 : Int32)) (by decide +kernel) (by decide) ?_
    refine sX_goto (o := 4) (t := 14) (by decide +kernel) (by decide) ?_
    exact sX_some (fun h _ => sW_zret (by decide +kernel) rfl (by decide) (hr _ h).1.symm (hr _ h).2.symm)
  refine sX_iload_n (i := 0) (by decide +kernel) rfl ?_
  refine sX_ifeq (o := 8) (t := 9) (by decide +kernel) (by decide) (fun _ => ?_) (fun _ => ?_)
  · exact sX.le xB9 (sLe_n sLe_e)
  · refine sX_iload_n (i := 0) (by decide +kernel) rfl ?_
    refine sX_iconst (n := 1) (v := (1 : Int32)) (by decide +kernel) (by decide) ?_
    refine sX_icne (o := 7) (t := 13) (by decide +kernel) (by decide) (fun _ => ?_) (fun _ => ?_)
    · exact sX.le xB9 (sLe_n sLe_e)
    · refine sX_iconst (n := 0) (v := (0 : Int32)) (by decide +kernel) (by decide) ?_
      exact sX_some (fun h _ => sW_zret (by decide +kernel) rfl (by decide) (hr _ h).1.symm (hr _ h).2.symm)
def f_X11_isSight (v0 : Nat) (v1 : Int32) (M0 : sMem) : Option Int32 :=
  sRc 11 20 M0 v0 (
    (gR 11 20 0 M0 v0).bind fun x1 =>
    (f_X10_byteAt x1 v1 M0).bind fun x2 =>
    (f_X11_isMinute x2 M0).bind fun x3 =>
    if x3 = 0 then
      some ((0 : Int32))
    else
      (gR 11 20 2 M0 v0).bind fun x4 =>
      (gR 1 10 1 M0 x4).bind fun x5 =>
      (gR 11 20 0 M0 v0).bind fun x6 =>
      (f_X10_byteAt x6 ((v1 + (1 : Int32))) M0).bind fun x7 =>
      (f_X9_isThere x5 x7 M0).bind fun x8 =>
      if x8 = 0 then
        some ((0 : Int32))
      else
        (gR 11 20 0 M0 v0).bind fun x9 =>
        (f_X10_byteAt x9 ((v1 + (2 : Int32))) M0).bind fun x10 =>
        (f_X11_isFlag x10 M0).bind fun x11 =>
        if x11 = 0 then
          some ((0 : Int32))
        else
          some ((1 : Int32)))
set_option maxRecDepth 100000 in
set_option maxHeartbeats 4000000 in
theorem m_X11_isSight (G : sG) (l : Launch) (v0 : Nat) (v1 : Int32) (M0 : sMem) : sCp G l 2 yX11_isSight cX11_isSight 2 (some .boolean) [.ref v0, .int v1] M0 rvI (f_X11_isSight v0 v1 M0) := by
  refine sC_p (ls := [some (.ref v0), some (.int v1)]) (by decide +kernel) rfl (Nat.le_of_ble_eq_true rfl) (fun r M' K hr => ?_)
  unfold f_X11_isSight
  refine sX_rc ?_
  refine sX_aload_n (i := 0) (by decide +kernel) rfl ?_
  refine sX_getR lf_X11_12 tk_11_0 (by decide +kernel) (fun x1 => ?_)
  refine sX_iload_n (i := 1) (by decide +kernel) rfl ?_
  refine sX_callVp (As := [.int v1]) (by decide +kernel) lm_X11_264 mf_X10_byteAt mi_X10_byteAt mc_10 (m_X10_byteAt G l x1 v1 M0) (fun _ h => sRc_some h) (by decide) rfl rfl (Nat.le_of_ble_eq_true rfl) (fun x2 => ?_)
  refine sX_callSp (As := [.int x2]) (by decide +kernel) lm_X11_189 mf_X11_isMinute ms_X11_isMinute (m_X11_isMinute G l x2 M0) (by decide) rfl rfl (Nat.le_of_ble_eq_true rfl) (fun x3 => ?_)
  refine sX_ifeq (o := 46) (t := 57) (by decide +kernel) (by decide) (fun _ => ?_) (fun _ => ?_)
  · refine sX_iconst (n := 0) (v := (0 : Int32)) (by decide +kernel) (by decide) ?_
    exact sX_some (fun h _ => sW_zret (by decide +kernel) rfl (by decide) (hr _ h).1.symm (hr _ h).2.symm)
  · refine sX_aload_n (i := 0) (by decide +kernel) rfl ?_
    refine sX_getR lf_X11_28 tk_11_2 (by decide +kernel) (fun x4 => ?_)
    refine sX_getR lf_X11_125 tk_1_1 (by decide +kernel) (fun x5 => ?_)
    refine sX_aload_n (i := 0) (by decide +kernel) rfl ?_
    refine sX_getR lf_X11_12 tk_11_0 (by decide +kernel) (fun x6 => ?_)
    refine sX_iload_n (i := 1) (by decide +kernel) rfl ?_
    refine sX_iconst (n := 1) (v := (1 : Int32)) (by decide +kernel) (by decide) ?_
    refine sX_iadd (by decide +kernel) ?_
    refine sX_callVp (As := [.int (v1 + (1 : Int32))]) (by decide +kernel) lm_X11_264 mf_X10_byteAt mi_X10_byteAt mc_10 (m_X10_byteAt G l x6 ((v1 + (1 : Int32))) M0) (fun _ h => sRc_some h) (by decide) rfl rfl (Nat.le_of_ble_eq_true rfl) (fun x7 => ?_)
    refine sX_callVp (As := [.int x7]) (by decide +kernel) lm_X11_164 mf_X9_isThere mi_X9_isThere mc_9 (m_X9_isThere G l x5 x7 M0) (fun _ h => sRc_some h) (by decide) rfl rfl (Nat.le_of_ble_eq_true rfl) (fun x8 => ?_)
    refine sX_ifeq (o := 23) (t := 57) (by decide +kernel) (by decide) (fun _ => ?_) (fun _ => ?_)
    · refine sX_iconst (n := 0) (v := (0 : Int32)) (by decide +kernel) (by decide) ?_
      exact sX_some (fun h _ => sW_zret (by decide +kernel) rfl (by decide) (hr _ h).1.symm (hr _ h).2.symm)
    · refine sX_aload_n (i := 0) (by decide +kernel) rfl ?_
      refine sX_getR lf_X11_12 tk_11_0 (by decide +kernel) (fun x9 => ?_)
      refine sX_iload_n (i := 1) (by decide +kernel) rfl ?_
      refine sX_iconst (n := 2) (v := (2 : Int32)) (by decide +kernel) (by decide) ?_
      refine sX_iadd (by decide +kernel) ?_
      refine sX_callVp (As := [.int (v1 + (2 : Int32))]) (by decide +kernel) lm_X11_264 mf_X10_byteAt mi_X10_byteAt mc_10 (m_X10_byteAt G l x9 ((v1 + (2 : Int32))) M0) (fun _ h => sRc_some h) (by decide) rfl rfl (Nat.le_of_ble_eq_true rfl) (fun x10 => ?_)
      refine sX_callSp (As := [.int x10]) (by decide +kernel) lm_X11_353 mf_X11_isFlag ms_X11_isFlag (m_X11_isFlag G l x10 M0) (by decide) rfl rfl (Nat.le_of_ble_eq_true rfl) (fun x11 => ?_)
      refine sX_ifeq (o := 7) (t := 57) (by decide +kernel) (by decide) (fun _ => ?_) (fun _ => ?_)
      · refine sX_iconst (n := 0) (v := (0 : Int32)) (by decide +kernel) (by decide) ?_
        exact sX_some (fun h _ => sW_zret (by decide +kernel) rfl (by decide) (hr _ h).1.symm (hr _ h).2.symm)
      · refine sX_iconst (n := 1) (v := (1 : Int32)) (by decide +kernel) (by decide) ?_
        refine sX_goto (o := 4) (t := 58) (by decide +kernel) (by decide) ?_
        exact sX_some (fun h _ => sW_zret (by decide +kernel) rfl (by decide) (hr _ h).1.symm (hr _ h).2.symm)
def f_X11_see_B105 (v0 : Nat) (v1 : Int32) (v2 : Int32) (M : sMem) : Option (Int32 × sMem) :=
  (gR 11 20 0 M v0).bind fun x1 =>
  (pI 10 10 1 M x1 ((0 : Int32))).bind fun M2 =>
  if v2 = 0 then
    (f_X11_refuse v0 ((1 : Int32)) M2).bind fun (x3, M4) =>
    some ((x3, M4))
  else
    some ((v1, M2))
def f_X11_see_B100 (v0 : Nat) (v1 : Int32) (v2 : Int32) (M : sMem) : Option (Int32 × sMem) :=
  (pI 11 20 13 M v0 v1).bind fun M5 =>
  f_X11_see_B105 v0 v1 v2 M5
def f_X11_see_K71 (v0 : Nat) (v1 : Int32) (v2 : Int32) (v3 : Int32) (M : sMem) : Option ((Int32 × sMem) ⊕ ((sMem))) :=
  (gR 11 20 12 M v0).bind fun x6 =>
  (aL 14 M x6).bind fun x7 =>
  if x7 ≤ v3 then
    some (.inr M)
  else
    (gR 11 20 12 M v0).bind fun x8 =>
    (gR 11 20 0 M v0).bind fun x9 =>
    (f_X10_byteAt x9 v3 M).bind fun x10 =>
    (stI M x8 v3 x10).bind fun M11 =>
    some (.inl ((((v3 + (1 : Int32))), M11)))
def f_X11_see_L71 (v0 : Nat) (v1 : Int32) (v2 : Int32) (v3 : Int32) (M : sMem) : Option (Int32 × sMem) :=
  (sItr (fun a : (Int32 × sMem) => f_X11_see_K71 v0 v1 v2 a.1 a.2) sFuel (v3, M)).bind (fun b => f_X11_see_B100 v0 v1 v2 b)
def f_X11_see_B65 (v0 : Nat) (v1 : Int32) (v2 : Int32) (M : sMem) : Option (Int32 × sMem) :=
  if v2 = 0 then
    f_X11_see_B105 v0 v1 v2 M
  else
    f_X11_see_L71 v0 v1 v2 ((0 : Int32)) M
def f_X11_see_K42 (v0 : Nat) (v1 : Int32) (v2 : Int32) (v3 : Int32) (M : sMem) : Option ((Int32 × Int32) ⊕ ((Int32))) :=
  if v2 = 0 then
    some (.inr v2)
  else
    if v1 ≤ v3 then
      some (.inr v2)
    else
      (f_X11_isSight v0 ((v3 * (3 : Int32))) M).bind fun x12 =>
      some (.inl ((x12, ((v3 + (1 : Int32))))))
def f_X11_see_L42 (v0 : Nat) (v1 : Int32) (v2 : Int32) (v3 : Int32) (M : sMem) : Option (Int32 × sMem) :=
  (sItr (fun a : (Int32 × Int32) => f_X11_see_K42 v0 v1 a.1 a.2 M) sFuel (v2, v3)).bind (fun b => f_X11_see_B65 v0 v1 b M)
def f_X11_see_B39 (v0 : Nat) (v1 : Int32) (s0 : Int32) (M : sMem) : Option (Int32 × sMem) :=
  f_X11_see_L42 v0 v1 s0 ((0 : Int32)) M
def f_X11_see_B38 (v0 : Nat) (v1 : Int32) (M : sMem) : Option (Int32 × sMem) :=
  f_X11_see_B39 v0 v1 ((0 : Int32)) M
def f_X11_see (v0 : Nat) (M0 : sMem) : Option (Int32 × sMem) :=
  sRc 11 20 M0 v0 (
    (gR 11 20 0 M0 v0).bind fun x13 =>
    (gI 10 10 1 M0 x13).bind fun x14 =>
    if (x14 / (3 : Int32)) < (1 : Int32) then
      f_X11_see_B38 v0 ((x14 / (3 : Int32))) M0
    else
      if (16 : Int32) < (x14 / (3 : Int32)) then
        f_X11_see_B38 v0 ((x14 / (3 : Int32))) M0
      else
        (gR 11 20 0 M0 v0).bind fun x15 =>
        (gI 10 10 1 M0 x15).bind fun x16 =>
        if ((x14 / (3 : Int32)) * (3 : Int32)) = x16 then
          f_X11_see_B39 v0 ((x14 / (3 : Int32))) ((1 : Int32)) M0
        else
          f_X11_see_B38 v0 ((x14 / (3 : Int32))) M0)
set_option maxRecDepth 100000 in
set_option maxHeartbeats 4000000 in
theorem m_X11_see (G : sG) (l : Launch) (v0 : Nat) (M0 : sMem) : sC G l 3 yX11_see cX11_see 4 (some .int) [.ref v0] M0 rvI (f_X11_see v0 M0) := by
  refine sC_m (ls := [some (.ref v0), none, none, none]) (by decide +kernel) rfl (Nat.le_of_ble_eq_true rfl) (fun r M' K hr => ?_)
  unfold f_X11_see
  have xB105 : ∀ (v0 : Nat) (v1 : Int32) (v2 : Int32) (M : sMem), sX G l 3 yX11_see cX11_see 4 (some .int) M0 r M' 105 [some (.ref v0), some (.int v1), some (.int v2), none] [] M (f_X11_see_B105 v0 v1 v2 M) K := by
    intro v0 v1 v2 M
    unfold f_X11_see_B105
    refine sX_aload_n (i := 0) (by decide +kernel) rfl ?_
    refine sX_getR lf_X11_12 tk_11_0 (by decide +kernel) (fun x1 => ?_)
    refine sX_iconst (n := 0) (v := (0 : Int32)) (by decide +kernel) (by decide) ?_
    refine sX_putI lf_X11_89 tp_10_1 (by decide +kernel) (by decide) (fun M2 => ?_)
    refine sX_iload_n (i := 2) (by decide +kernel) rfl ?_
    refine sX_ifeq (o := 7) (t := 121) (by decide +kernel) (by decide) (fun _ => ?_) (fun _ => ?_)
    · refine sX_aload_n (i := 0) (by decide +kernel) rfl ?_
      refine sX_iconst (n := 1) (v := (1 : Int32)) (by decide +kernel) (by decide) ?_
      refine sX_callV (As := [.int (1 : Int32)]) (by decide +kernel) lm_X11_92 mf_X11_refuse mi_X11_refuse mc_11 (m_X11_refuse G l v0 ((1 : Int32)) M2) (fun _ h => sRc_some h) (by decide) rfl rfl (Nat.le_of_ble_eq_true rfl) (fun x3 M4 _ => ?_)
      exact sX_some (fun h _ => sW_iret (by decide +kernel) rfl (hr _ h).1.symm (hr _ h).2.symm)
    · refine sX_iload_n (i := 1) (by decide +kernel) rfl ?_
      refine sX_goto (o := 8) (t := 126) (by decide +kernel) (by decide) ?_
      exact sX_some (fun h _ => sW_iret (by decide +kernel) rfl (hr _ h).1.symm (hr _ h).2.symm)
  have xB100 : ∀ (v0 : Nat) (v1 : Int32) (v2 : Int32) (M : sMem), sX G l 3 yX11_see cX11_see 4 (some .int) M0 r M' 100 [some (.ref v0), some (.int v1), some (.int v2), none] [] M (f_X11_see_B100 v0 v1 v2 M) K := by
    intro v0 v1 v2 M
    unfold f_X11_see_B100
    refine sX_aload_n (i := 0) (by decide +kernel) rfl ?_
    refine sX_iload_n (i := 1) (by decide +kernel) rfl ?_
    refine sX_putI lf_X11_113 tp_11_13 (by decide +kernel) (by decide) (fun M5 => ?_)
    exact sX.le (xB105 v0 v1 v2 M5) (sLe_s (sLe_s (sLe_s (sLe_n sLe_e))))
  have xL71 : ∀ (v0 : Nat) (v1 : Int32) (v2 : Int32) (v3 : Int32) (M : sMem), sX G l 3 yX11_see cX11_see 4 (some .int) M0 r M' 71 [some (.ref v0), some (.int v1), some (.int v2), some (.int v3)] [] M (f_X11_see_L71 v0 v1 v2 v3 M) K := by
    intro v0 v1 v2 v3 M
    unfold f_X11_see_L71
    refine sX_bind ?_
    refine sX_loop (LS := fun a : (Int32 × sMem) => [some (.ref v0), some (.int v1), some (.int v2), some (.int a.1)]) (MM := fun a => a.2) (fun K1 hb1 he1 => ?_) sFuel ((v3, M))
    have xK71 : ∀ (v3 : Int32) (M : sMem), sX G l 3 yX11_see cX11_see 4 (some .int) M0 r M' 71 [some (.ref v0), some (.int v1), some (.int v2), some (.int v3)] [] M (f_X11_see_K71 v0 v1 v2 v3 M) K1 := by
      intro v3 M
      unfold f_X11_see_K71
      refine sX_iload_n (i := 3) (by decide +kernel) rfl ?_
      refine sX_aload_n (i := 0) (by decide +kernel) rfl ?_
      refine sX_getR lf_X11_69 tk_11_12 (by decide +kernel) (fun x6 => ?_)
      refine sX_alen (by decide) (by decide) (by decide +kernel) (fun x7 => ?_)
      refine sX_icge (o := 23) (t := 100) (by decide +kernel) (by decide) (fun _ => ?_) (fun _ => ?_)
      · refine sX_exit he1 ?_
        exact sX.le (xB100 v0 v1 v2 M) (sLe_s (sLe_s (sLe_s (sLe_n sLe_e))))
      · refine sX_aload_n (i := 0) (by decide +kernel) rfl ?_
        refine sX_getR lf_X11_69 tk_11_12 (by decide +kernel) (fun x8 => ?_)
        refine sX_iload_n (i := 3) (by decide +kernel) rfl ?_
        refine sX_aload_n (i := 0) (by decide +kernel) rfl ?_
        refine sX_getR lf_X11_12 tk_11_0 (by decide +kernel) (fun x9 => ?_)
        refine sX_iload_n (i := 3) (by decide +kernel) rfl ?_
        refine sX_callVp (As := [.int v3]) (by decide +kernel) lm_X11_264 mf_X10_byteAt mi_X10_byteAt mc_10 (m_X10_byteAt G l x9 v3 M) (fun _ h => sRc_some h) (by decide) rfl rfl (Nat.le_of_ble_eq_true rfl) (fun x10 => ?_)
        refine sX_iastore (by decide +kernel) (by decide) (fun M11 => ?_)
        refine sX_iinc (i := 3) (n := 1) (v := v3 + (1 : Int32)) (ls2 := [some (.ref v0), some (.int v1), some (.int v2), some (.int (v3 + (1 : Int32)))]) (by decide +kernel) rfl rfl (by decide) rfl ?_
        refine sX_goto (o := -26) (t := 71) (by decide +kernel) (by decide) ?_
        exact sX_back (a := (((v3 + (1 : Int32))), M11)) hb1 rfl (sLe_s (sLe_s (sLe_s (sLe_s sLe_e))))
    exact fun a => xK71 a.1 a.2
  have xB65 : ∀ (v0 : Nat) (v1 : Int32) (v2 : Int32) (M : sMem), sX G l 3 yX11_see cX11_see 4 (some .int) M0 r M' 65 [some (.ref v0), some (.int v1), some (.int v2), none] [] M (f_X11_see_B65 v0 v1 v2 M) K := by
    intro v0 v1 v2 M
    unfold f_X11_see_B65
    refine sX_iload_n (i := 2) (by decide +kernel) rfl ?_
    refine sX_ifeq (o := 39) (t := 105) (by decide +kernel) (by decide) (fun _ => ?_) (fun _ => ?_)
    · exact sX.le (xB105 v0 v1 v2 M) (sLe_s (sLe_s (sLe_s (sLe_n sLe_e))))
    · refine sX_iconst (n := 0) (v := (0 : Int32)) (by decide +kernel) (by decide) ?_
      refine sX_istore_n (i := 3) (ls2 := [some (.ref v0), some (.int v1), some (.int v2), some (.int (0 : Int32))]) (by decide +kernel) (by decide) rfl ?_
      exact sX.le (xL71 v0 v1 v2 ((0 : Int32)) M) (sLe_s (sLe_s (sLe_s (sLe_s sLe_e))))
  have xL42 : ∀ (v0 : Nat) (v1 : Int32) (v2 : Int32) (v3 : Int32) (M : sMem), sX G l 3 yX11_see cX11_see 4 (some .int) M0 r M' 42 [some (.ref v0), some (.int v1), some (.int v2), some (.int v3)] [] M (f_X11_see_L42 v0 v1 v2 v3 M) K := by
    intro v0 v1 v2 v3 M
    unfold f_X11_see_L42
    refine sX_bind ?_
    refine sX_loop (LS := fun a : (Int32 × Int32) => [some (.ref v0), some (.int v1), some (.int a.1), some (.int a.2)]) (MM := fun a => M) (fun K1 hb1 he1 => ?_) sFuel ((v2, v3))
    have xK42 : ∀ (v2 : Int32) (v3 : Int32), sX G l 3 yX11_see cX11_see 4 (some .int) M0 r M' 42 [some (.ref v0), some (.int v1), some (.int v2), some (.int v3)] [] M (f_X11_see_K42 v0 v1 v2 v3 M) K1 := by
      intro v2 v3
      unfold f_X11_see_K42
      refine sX_iload_n (i := 2) (by decide +kernel) rfl ?_
      refine sX_ifeq (o := 22) (t := 65) (by decide +kernel) (by decide) (fun _ => ?_) (fun _ => ?_)
      · refine sX_exit he1 ?_
        exact sX.le (xB65 v0 v1 v2 M) (sLe_s (sLe_s (sLe_s (sLe_n sLe_e))))
      · refine sX_iload_n (i := 3) (by decide +kernel) rfl ?_
        refine sX_iload_n (i := 1) (by decide +kernel) rfl ?_
        refine sX_icge (o := 17) (t := 65) (by decide +kernel) (by decide) (fun _ => ?_) (fun _ => ?_)
        · refine sX_exit he1 ?_
          exact sX.le (xB65 v0 v1 v2 M) (sLe_s (sLe_s (sLe_s (sLe_n sLe_e))))
        · refine sX_aload_n (i := 0) (by decide +kernel) rfl ?_
          refine sX_iload_n (i := 3) (by decide +kernel) rfl ?_
          refine sX_iconst (n := 3) (v := (3 : Int32)) (by decide +kernel) (by decide) ?_
          refine sX_imul (by decide +kernel) ?_
          refine sX_callVp (As := [.int (v3 * (3 : Int32))]) (by decide +kernel) lm_X11_261 mf_X11_isSight mi_X11_isSight mc_11 (m_X11_isSight G l v0 ((v3 * (3 : Int32))) M) (fun _ h => sRc_some h) (by decide) rfl rfl (Nat.le_of_ble_eq_true rfl) (fun x12 => ?_)
          refine sX_istore_n (i := 2) (ls2 := [some (.ref v0), some (.int v1), some (.int x12), some (.int v3)]) (by decide +kernel) (by decide) rfl ?_
          refine sX_iinc (i := 3) (n := 1) (v := v3 + (1 : Int32)) (ls2 := [some (.ref v0), some (.int v1), some (.int x12), some (.int (v3 + (1 : Int32)))]) (by decide +kernel) rfl rfl (by decide) rfl ?_
          refine sX_goto (o := -20) (t := 42) (by decide +kernel) (by decide) ?_
          exact sX_back (a := (x12, ((v3 + (1 : Int32))))) hb1 rfl (sLe_s (sLe_s (sLe_s (sLe_s sLe_e))))
    exact fun a => xK42 a.1 a.2
  have xB39 : ∀ (v0 : Nat) (v1 : Int32) (s0 : Int32) (M : sMem), sX G l 3 yX11_see cX11_see 4 (some .int) M0 r M' 39 [some (.ref v0), some (.int v1), none, none] [.int s0] M (f_X11_see_B39 v0 v1 s0 M) K := by
    intro v0 v1 s0 M
    unfold f_X11_see_B39
    refine sX_istore_n (i := 2) (ls2 := [some (.ref v0), some (.int v1), some (.int s0), none]) (by decide +kernel) (by decide) rfl ?_
    refine sX_iconst (n := 0) (v := (0 : Int32)) (by decide +kernel) (by decide) ?_
    refine sX_istore_n (i := 3) (ls2 := [some (.ref v0), some (.int v1), some (.int s0), some (.int (0 : Int32))]) (by decide +kernel) (by decide) rfl ?_
    exact sX.le (xL42 v0 v1 s0 ((0 : Int32)) M) (sLe_s (sLe_s (sLe_s (sLe_s sLe_e))))
  have xB38 : ∀ (v0 : Nat) (v1 : Int32) (M : sMem), sX G l 3 yX11_see cX11_see 4 (some .int) M0 r M' 38 [some (.ref v0), some (.int v1), none, none] [] M (f_X11_see_B38 v0 v1 M) K := by
    intro v0 v1 M
    unfold f_X11_see_B38
    refine sX_iconst (n := 0) (v := (0 : Int32)) (by decide +kernel) (by decide) ?_
    exact sX.le (xB39 v0 v1 ((0 : Int32)) M) (sLe_s (sLe_s (sLe_n (sLe_n sLe_e))))
  refine sX_rc ?_
  refine sX_aload_n (i := 0) (by decide +kernel) rfl ?_
  refine sX_getR lf_X11_12 tk_11_0 (by decide +kernel) (fun x13 => ?_)
  refine sX_getI lf_X11_89 tk_10_1 (by decide +kernel) (fun x14 => ?_)
  refine sX_iconst (n := 3) (v := (3 : Int32)) (by decide +kernel) (by decide) ?_
  refine sX_idiv (by decide +kernel) (by decide) ?_
  refine sX_istore_n (i := 1) (ls2 := [some (.ref v0), some (.int (x14 / (3 : Int32))), none, none]) (by decide +kernel) (by decide) rfl ?_
  refine sX_iload_n (i := 1) (by decide +kernel) rfl ?_
  refine sX_iconst (n := 1) (v := (1 : Int32)) (by decide +kernel) (by decide) ?_
  refine sX_iclt (o := 26) (t := 38) (by decide +kernel) (by decide) (fun _ => ?_) (fun _ => ?_)
  · exact sX.le (xB38 v0 ((x14 / (3 : Int32))) M0) (sLe_s (sLe_s (sLe_n (sLe_n sLe_e))))
  · refine sX_iload_n (i := 1) (by decide +kernel) rfl ?_
    refine sX_bipush (n := 16) (v := (16 : Int32)) (by decide +kernel) (by decide) ?_
    refine sX_icgt (o := 20) (t := 38) (by decide +kernel) (by decide) (fun _ => ?_) (fun _ => ?_)
    · exact sX.le (xB38 v0 ((x14 / (3 : Int32))) M0) (sLe_s (sLe_s (sLe_n (sLe_n sLe_e))))
    · refine sX_iload_n (i := 1) (by decide +kernel) rfl ?_
      refine sX_iconst (n := 3) (v := (3 : Int32)) (by decide +kernel) (by decide) ?_
      refine sX_imul (by decide +kernel) ?_
      refine sX_aload_n (i := 0) (by decide +kernel) rfl ?_
      refine sX_getR lf_X11_12 tk_11_0 (by decide +kernel) (fun x15 => ?_)
      refine sX_getI lf_X11_89 tk_10_1 (by decide +kernel) (fun x16 => ?_)
      refine sX_icne (o := 7) (t := 38) (by decide +kernel) (by decide) (fun _ => ?_) (fun _ => ?_)
      · refine sX_iconst (n := 1) (v := (1 : Int32)) (by decide +kernel) (by decide) ?_
        refine sX_goto (o := 4) (t := 39) (by decide +kernel) (by decide) ?_
        exact sX.le (xB39 v0 ((x14 / (3 : Int32))) ((1 : Int32)) M0) (sLe_s (sLe_s (sLe_n (sLe_n sLe_e))))
      · exact sX.le (xB38 v0 ((x14 / (3 : Int32))) M0) (sLe_s (sLe_s (sLe_n (sLe_n sLe_e))))
def f_X11_isAsSeen_B94 (v0 : Nat) (v1 : Nat) (v2 : Int32) (s0 : Int32) (s1 : Int32) (M0 : sMem) : Option ((Int32) ⊕ ((Int32))) :=
  if s0 = s1 then
    some (.inl (((v2 + (1 : Int32)))))
  else
    some (.inr ((0 : Int32)))
def f_X11_isAsSeen_B71 (v0 : Nat) (v1 : Nat) (v2 : Int32) (s0 : Int32) (M0 : sMem) : Option ((Int32) ⊕ ((Int32))) :=
  (gR 11 20 12 M0 v0).bind fun x1 =>
  (ldI 14 M0 x1 (((v2 * (3 : Int32)) + (2 : Int32)))).bind fun x2 =>
  if x2 = (1 : Int32) then
    f_X11_isAsSeen_B94 v0 v1 v2 s0 ((1 : Int32)) M0
  else
    f_X11_isAsSeen_B94 v0 v1 v2 s0 ((0 : Int32)) M0
def f_X11_isAsSeen_B70 (v0 : Nat) (v1 : Nat) (v2 : Int32) (M0 : sMem) : Option ((Int32) ⊕ ((Int32))) :=
  f_X11_isAsSeen_B71 v0 v1 v2 ((0 : Int32)) M0
def f_X11_isAsSeen_B66 (v0 : Nat) (v1 : Nat) (v2 : Int32) (M0 : sMem) : Option ((Int32) ⊕ ((Int32))) :=
  f_X11_isAsSeen_B71 v0 v1 v2 ((1 : Int32)) M0
def f_X11_isAsSeen_K2 (v0 : Nat) (v1 : Nat) (v2 : Int32) (M0 : sMem) : Option ((Int32) ⊕ ((Int32))) :=
  (gI 11 20 13 M0 v0).bind fun x3 =>
  if x3 ≤ v2 then
    some (.inr ((1 : Int32)))
  else
    (gR 11 20 12 M0 v0).bind fun x4 =>
    (ldI 14 M0 x4 ((v2 * (3 : Int32)))).bind fun x5 =>
    (gR 11 20 12 M0 v0).bind fun x6 =>
    (ldI 14 M0 x6 (((v2 * (3 : Int32)) + (1 : Int32)))).bind fun x7 =>
    (gR 11 20 4 M0 v0).bind fun x8 =>
    (f_X8_isUp x8 x7 M0).bind fun x9 =>
    if x9 = 0 then
      (gR 11 20 11 M0 v0).bind fun x10 =>
      (f_X11_isMarked x10 x7 x5 M0).bind fun x11 =>
      if x11 = 0 then
        (f_X11_isMarked v1 x7 x5 M0).bind fun x12 =>
        if x12 = 0 then
          f_X11_isAsSeen_B70 v0 v1 v2 M0
        else
          f_X11_isAsSeen_B66 v0 v1 v2 M0
      else
        f_X11_isAsSeen_B66 v0 v1 v2 M0
    else
      f_X11_isAsSeen_B70 v0 v1 v2 M0
def f_X11_isAsSeen_L2 (v0 : Nat) (v1 : Nat) (v2 : Int32) (M0 : sMem) : Option Int32 :=
  (sItr (fun a : (Int32) => f_X11_isAsSeen_K2 v0 v1 a M0) sFuel v2).bind (fun b => some b)
def f_X11_isAsSeen (v0 : Nat) (v1 : Nat) (M0 : sMem) : Option Int32 :=
  sRc 11 20 M0 v0 (
    f_X11_isAsSeen_L2 v0 v1 ((0 : Int32)) M0)
set_option maxRecDepth 100000 in
set_option maxHeartbeats 4000000 in
theorem m_X11_isAsSeen (G : sG) (l : Launch) (v0 : Nat) (v1 : Nat) (M0 : sMem) : sCp G l 2 yX11_isAsSeen cX11_isAsSeen 6 (some .boolean) [.ref v0, .ref v1] M0 rvI (f_X11_isAsSeen v0 v1 M0) := by
  refine sC_p (ls := [some (.ref v0), some (.ref v1), none, none, none, none]) (by decide +kernel) rfl (Nat.le_of_ble_eq_true rfl) (fun r M' K hr => ?_)
  unfold f_X11_isAsSeen
  have xL2 : ∀ (v0 : Nat) (v1 : Nat) (v2 : Int32), sX G l 2 yX11_isAsSeen cX11_isAsSeen 6 (some .boolean) M0 r M' 2 [some (.ref v0), some (.ref v1), some (.int v2), none, none, none] [] M0 (f_X11_isAsSeen_L2 v0 v1 v2 M0) K := by
    intro v0 v1 v2
    unfold f_X11_isAsSeen_L2
    refine sX_bind ?_
    refine sX_loop (LS := fun a : (Int32) => [some (.ref v0), some (.ref v1), some (.int a), none, none, none]) (MM := fun a => M0) (fun K1 hb1 he1 => ?_) sFuel v2
    have xB94 : ∀ (v2 : Int32) (s0 : Int32) (s1 : Int32), sX G l 2 yX11_isAsSeen cX11_isAsSeen 6 (some .boolean) M0 r M' 94 [some (.ref v0), some (.ref v1), some (.int v2), none, none, none] [.int s1, .int s0] M0 (f_X11_isAsSeen_B94 v0 v1 v2 s0 s1 M0) K1 := by
      intro v2 s0 s1
      unfold f_X11_isAsSeen_B94
      refine sX_iceq (o := 5) (t := 99) (by decide +kernel) (by decide) (fun _ => ?_) (fun _ => ?_)
      · refine sX_iinc (i := 2) (n := 1) (v := v2 + (1 : Int32)) (ls2 := [some (.ref v0), some (.ref v1), some (.int (v2 + (1 : Int32))), none, none, none]) (by decide +kernel) rfl rfl (by decide) rfl ?_
        refine sX_goto (o := -100) (t := 2) (by decide +kernel) (by decide) ?_
        exact sX_back (a := ((v2 + (1 : Int32)))) hb1 rfl (sLe_s (sLe_s (sLe_s (sLe_n (sLe_n (sLe_n sLe_e))))))
      · refine sX_iconst (n := 0) (v := (0 : Int32)) (by decide +kernel) (by decide) ?_
        refine sX_exit he1 ?_
        exact sX_some (fun h _ => sW_zret (by decide +kernel) rfl (by decide) (hr _ h).1.symm (hr _ h).2.symm)
    have xB71 : ∀ (v2 : Int32) (s0 : Int32), sX G l 2 yX11_isAsSeen cX11_isAsSeen 6 (some .boolean) M0 r M' 71 [some (.ref v0), some (.ref v1), some (.int v2), none, none, none] [.int s0] M0 (f_X11_isAsSeen_B71 v0 v1 v2 s0 M0) K1 := by
      intro v2 s0
      unfold f_X11_isAsSeen_B71
      refine sX_istore (i := 5) (ls2 := [some (.ref v0), some (.ref v1), some (.int v2), none, none, some (.int s0)]) (by decide +kernel) (by decide) rfl ?_
      refine sX_iload (i := 5) (by decide +kernel) rfl ?_
      refine sX_aload_n (i := 0) (by decide +kernel) rfl ?_
      refine sX_getR lf_X11_69 tk_11_12 (by decide +kernel) (fun x1 => ?_)
      refine sX_iload_n (i := 2) (by decide +kernel) rfl ?_
      refine sX_iconst (n := 3) (v := (3 : Int32)) (by decide +kernel) (by decide) ?_
      refine sX_imul (by decide +kernel) ?_
      refine sX_iconst (n := 2) (v := (2 : Int32)) (by decide +kernel) (by decide) ?_
      refine sX_iadd (by decide +kernel) ?_
      refine sX_iaload (by decide +kernel) (fun x2 => ?_)
      refine sX_iconst (n := 1) (v := (1 : Int32)) (by decide +kernel) (by decide) ?_
      refine sX_icne (o := 7) (t := 93) (by decide +kernel) (by decide) (fun _ => ?_) (fun _ => ?_)
      · refine sX_iconst (n := 1) (v := (1 : Int32)) (by decide +kernel) (by decide) ?_
        refine sX_goto (o := 4) (t := 94) (by decide +kernel) (by decide) ?_
        exact sX.le (xB94 v2 s0 ((1 : Int32))) (sLe_s (sLe_s (sLe_s (sLe_n (sLe_n (sLe_n sLe_e))))))
      · refine sX_iconst (n := 0) (v := (0 : Int32)) (by decide +kernel) (by decide) ?_
        exact sX.le (xB94 v2 s0 ((0 : Int32))) (sLe_s (sLe_s (sLe_s (sLe_n (sLe_n (sLe_n sLe_e))))))
    have xB70 : ∀ (v2 : Int32), sX G l 2 yX11_isAsSeen cX11_isAsSeen 6 (some .boolean) M0 r M' 70 [some (.ref v0), some (.ref v1), some (.int v2), none, none, none] [] M0 (f_X11_isAsSeen_B70 v0 v1 v2 M0) K1 := by
      intro v2
      unfold f_X11_isAsSeen_B70
      refine sX_iconst (n := 0) (v := (0 : Int32)) (by decide +kernel) (by decide) ?_
      exact sX.le (xB71 v2 ((0 : Int32))) (sLe_s (sLe_s (sLe_s (sLe_n (sLe_n (sLe_n sLe_e))))))
    have xB66 : ∀ (v2 : Int32), sX G l 2 yX11_isAsSeen cX11_isAsSeen 6 (some .boolean) M0 r M' 66 [some (.ref v0), some (.ref v1), some (.int v2), none, none, none] [] M0 (f_X11_isAsSeen_B66 v0 v1 v2 M0) K1 := by
      intro v2
      unfold f_X11_isAsSeen_B66
      refine sX_iconst (n := 1) (v := (1 : Int32)) (by decide +kernel) (by decide) ?_
      refine sX_goto (o := 4) (t := 71) (by decide +kernel) (by decide) ?_
      exact sX.le (xB71 v2 ((1 : Int32))) (sLe_s (sLe_s (sLe_s (sLe_n (sLe_n (sLe_n sLe_e))))))
    have xK2 : ∀ (v2 : Int32), sX G l 2 yX11_isAsSeen cX11_isAsSeen 6 (some .boolean) M0 r M' 2 [some (.ref v0), some (.ref v1), some (.int v2), none, none, none] [] M0 (f_X11_isAsSeen_K2 v0 v1 v2 M0) K1 := by
      intro v2
      unfold f_X11_isAsSeen_K2
      refine sX_iload_n (i := 2) (by decide +kernel) rfl ?_
      refine sX_aload_n (i := 0) (by decide +kernel) rfl ?_
      refine sX_getI lf_X11_113 tk_11_13 (by decide +kernel) (fun x3 => ?_)
      refine sX_icge (o := 98) (t := 105) (by decide +kernel) (by decide) (fun _ => ?_) (fun _ => ?_)
      · refine sX_iconst (n := 1) (v := (1 : Int32)) (by decide +kernel) (by decide) ?_
        refine sX_exit he1 ?_
        exact sX_some (fun h _ => sW_zret (by decide +kernel) rfl (by decide) (hr _ h).1.symm (hr _ h).2.symm)
      · refine sX_aload_n (i := 0) (by decide +kernel) rfl ?_
        refine sX_getR lf_X11_69 tk_11_12 (by decide +kernel) (fun x4 => ?_)
        refine sX_iload_n (i := 2) (by decide +kernel) rfl ?_
        refine sX_iconst (n := 3) (v := (3 : Int32)) (by decide +kernel) (by decide) ?_
        refine sX_imul (by decide +kernel) ?_
        refine sX_iaload (by decide +kernel) (fun x5 => ?_)
        refine sX_istore_n (i := 3) (ls2 := [some (.ref v0), some (.ref v1), some (.int v2), some (.int x5), none, none]) (by decide +kernel) (by decide) rfl ?_
        refine sX_aload_n (i := 0) (by decide +kernel) rfl ?_
        refine sX_getR lf_X11_69 tk_11_12 (by decide +kernel) (fun x6 => ?_)
        refine sX_iload_n (i := 2) (by decide +kernel) rfl ?_
        refine sX_iconst (n := 3) (v := (3 : Int32)) (by decide +kernel) (by decide) ?_
        refine sX_imul (by decide +kernel) ?_
        refine sX_iconst (n := 1) (v := (1 : Int32)) (by decide +kernel) (by decide) ?_
        refine sX_iadd (by decide +kernel) ?_
        refine sX_iaload (by decide +kernel) (fun x7 => ?_)
        refine sX_istore (i := 4) (ls2 := [some (.ref v0), some (.ref v1), some (.int v2), some (.int x5), some (.int x7), none]) (by decide +kernel) (by decide) rfl ?_
        refine sX_aload_n (i := 0) (by decide +kernel) rfl ?_
        refine sX_getR lf_X11_38 tk_11_4 (by decide +kernel) (fun x8 => ?_)
        refine sX_iload (i := 4) (by decide +kernel) rfl ?_
        refine sX_callVp (As := [.int x7]) (by decide +kernel) lm_X11_171 mf_X8_isUp mi_X8_isUp mc_8 (m_X8_isUp G l x8 x7 M0) (fun _ h => sRc_some h) (by decide) rfl rfl (Nat.le_of_ble_eq_true rfl) (fun x9 => ?_)
        refine sX_ifne (o := 30) (t := 70) (by decide +kernel) (by decide) (fun _ => ?_) (fun _ => ?_)
        · refine sX_aload_n (i := 0) (by decide +kernel) rfl ?_
          refine sX_getR lf_X11_65 tk_11_11 (by decide +kernel) (fun x10 => ?_)
          refine sX_iload (i := 4) (by decide +kernel) rfl ?_
          refine sX_iload_n (i := 3) (by decide +kernel) rfl ?_
          refine sX_callSp (As := [.ref x10, .int x7, .int x5]) (by decide +kernel) lm_X11_205 mf_X11_isMarked ms_X11_isMarked (m_X11_isMarked G l x10 x7 x5 M0) (by decide) rfl rfl (Nat.le_of_ble_eq_true rfl) (fun x11 => ?_)
          refine sX_ifne (o := 13) (t := 66) (by decide +kernel) (by decide) (fun _ => ?_) (fun _ => ?_)
          · refine sX_aload_n (i := 1) (by decide +kernel) rfl ?_
            refine sX_iload (i := 4) (by decide +kernel) rfl ?_
            refine sX_iload_n (i := 3) (by decide +kernel) rfl ?_
            refine sX_callSp (As := [.ref v1, .int x7, .int x5]) (by decide +kernel) lm_X11_205 mf_X11_isMarked ms_X11_isMarked (m_X11_isMarked G l v1 x7 x5 M0) (by decide) rfl rfl (Nat.le_of_ble_eq_true rfl) (fun x12 => ?_)
            refine sX_ifeq (o := 7) (t := 70) (by decide +kernel) (by decide) (fun _ => ?_) (fun _ => ?_)
            · exact sX.le (xB70 v2) (sLe_s (sLe_s (sLe_s (sLe_n (sLe_n (sLe_n sLe_e))))))
            · exact sX.le (xB66 v2) (sLe_s (sLe_s (sLe_s (sLe_n (sLe_n (sLe_n sLe_e))))))
          · exact sX.le (xB66 v2) (sLe_s (sLe_s (sLe_s (sLe_n (sLe_n (sLe_n sLe_e))))))
        · exact sX.le (xB70 v2) (sLe_s (sLe_s (sLe_s (sLe_n (sLe_n (sLe_n sLe_e))))))
    exact fun a => xK2 a
  refine sX_rc ?_
  refine sX_iconst (n := 0) (v := (0 : Int32)) (by decide +kernel) (by decide) ?_
  refine sX_istore_n (i := 2) (ls2 := [some (.ref v0), some (.ref v1), some (.int (0 : Int32)), none, none, none]) (by decide +kernel) (by decide) rfl ?_
  exact sX.le (xL2 v0 v1 ((0 : Int32))) (sLe_s (sLe_s (sLe_s (sLe_n (sLe_n (sLe_n sLe_e))))))
def f_X11_findLates_B65 (v0 : Nat) (v1 : Int32) (v2 : Int32) (v3 : Int32) (M : sMem) : Option ((Int32 × Int32 × sMem) ⊕ (((Int32 × sMem)))) :=
  some (.inl ((v2, ((v3 + (1 : Int32))), M)))
def f_X11_findLates_K30 (v0 : Nat) (v1 : Int32) (v2 : Int32) (v3 : Int32) (M : sMem) : Option ((Int32 × Int32 × sMem) ⊕ (((Int32 × sMem)))) :=
  if (100 : Int32) ≤ v3 then
    some (.inr ((v2, M)))
  else
    (gR 11 20 9 M v0).bind fun x1 =>
    (gR 0 7 1 M x1).bind fun x2 =>
    (f_X4_row x2 v1 v3 M).bind fun (x3, M4) =>
    (f_X11_isAsSeen v0 x3 M4).bind fun x5 =>
    if x5 = 0 then
      f_X11_findLates_B65 v0 v1 v2 v3 M4
    else
      (gR 11 20 14 M4 v0).bind fun x6 =>
      (stI M4 x6 v2 v3).bind fun M7 =>
      f_X11_findLates_B65 v0 v1 ((v2 + (1 : Int32))) v3 M7
def f_X11_findLates_L30 (v0 : Nat) (v1 : Int32) (v2 : Int32) (v3 : Int32) (M : sMem) : Option (Int32 × sMem) :=
  (sItr (fun a : (Int32 × Int32 × sMem) => f_X11_findLates_K30 v0 v1 a.1 a.2.1 a.2.2) sFuel (v2, v3, M)).bind (fun b => some b)
def f_X11_findLates (v0 : Nat) (v1 : Int32) (M0 : sMem) : Option (Int32 × sMem) :=
  sRc 11 20 M0 v0 (
    (gR 11 20 9 M0 v0).bind fun x8 =>
    (gR 0 7 1 M0 x8).bind fun x9 =>
    (gR 11 20 4 M0 v0).bind fun x10 =>
    (gR 11 20 4 M0 v0).bind fun x11 =>
    (gI 8 8 1 M0 x11).bind fun x12 =>
    (gR 11 20 11 M0 v0).bind fun x13 =>
    (f_X4_close x9 x10 x12 v1 x13 M0).bind fun M14 =>
    f_X11_findLates_L30 v0 v1 ((0 : Int32)) ((0 : Int32)) M14)
set_option maxRecDepth 100000 in
set_option maxHeartbeats 4000000 in
theorem m_X11_findLates (G : sG) (l : Launch) (v0 : Nat) (v1 : Int32) (M0 : sMem) : sC G l 6 yX11_findLates cX11_findLates 4 (some .int) [.ref v0, .int v1] M0 rvI (f_X11_findLates v0 v1 M0) := by
  refine sC_m (ls := [some (.ref v0), some (.int v1), none, none]) (by decide +kernel) rfl (Nat.le_of_ble_eq_true rfl) (fun r M' K hr => ?_)
  unfold f_X11_findLates
  have xL30 : ∀ (v0 : Nat) (v1 : Int32) (v2 : Int32) (v3 : Int32) (M : sMem), sX G l 6 yX11_findLates cX11_findLates 4 (some .int) M0 r M' 30 [some (.ref v0), some (.int v1), some (.int v2), some (.int v3)] [] M (f_X11_findLates_L30 v0 v1 v2 v3 M) K := by
    intro v0 v1 v2 v3 M
    unfold f_X11_findLates_L30
    refine sX_bind ?_
    refine sX_loop (LS := fun a : (Int32 × Int32 × sMem) => [some (.ref v0), some (.int v1), some (.int a.1), some (.int a.2.1)]) (MM := fun a => a.2.2) (fun K1 hb1 he1 => ?_) sFuel ((v2, v3, M))
    have xB65 : ∀ (v2 : Int32) (v3 : Int32) (M : sMem), sX G l 6 yX11_findLates cX11_findLates 4 (some .int) M0 r M' 65 [some (.ref v0), some (.int v1), some (.int v2), some (.int v3)] [] M (f_X11_findLates_B65 v0 v1 v2 v3 M) K1 := by
      intro v2 v3 M
      unfold f_X11_findLates_B65
      refine sX_iinc (i := 3) (n := 1) (v := v3 + (1 : Int32)) (ls2 := [some (.ref v0), some (.int v1), some (.int v2), some (.int (v3 + (1 : Int32)))]) (by decide +kernel) rfl rfl (by decide) rfl ?_
      refine sX_goto (o := -38) (t := 30) (by decide +kernel) (by decide) ?_
      exact sX_back (a := (v2, ((v3 + (1 : Int32))), M)) hb1 rfl (sLe_s (sLe_s (sLe_s (sLe_s sLe_e))))
    have xK30 : ∀ (v2 : Int32) (v3 : Int32) (M : sMem), sX G l 6 yX11_findLates cX11_findLates 4 (some .int) M0 r M' 30 [some (.ref v0), some (.int v1), some (.int v2), some (.int v3)] [] M (f_X11_findLates_K30 v0 v1 v2 v3 M) K1 := by
      intro v2 v3 M
      unfold f_X11_findLates_K30
      refine sX_iload_n (i := 3) (by decide +kernel) rfl ?_
      refine sX_bipush (n := 100) (v := (100 : Int32)) (by decide +kernel) (by decide) ?_
      refine sX_icge (o := 38) (t := 71) (by decide +kernel) (by decide) (fun _ => ?_) (fun _ => ?_)
      · refine sX_iload_n (i := 2) (by decide +kernel) rfl ?_
        refine sX_exit he1 ?_
        exact sX_some (fun h _ => sW_iret (by decide +kernel) rfl (hr _ h).1.symm (hr _ h).2.symm)
      · refine sX_aload_n (i := 0) (by decide +kernel) rfl ?_
        refine sX_aload_n (i := 0) (by decide +kernel) rfl ?_
        refine sX_getR lf_X11_54 tk_11_9 (by decide +kernel) (fun x1 => ?_)
        refine sX_getR lf_X11_192 tk_0_1 (by decide +kernel) (fun x2 => ?_)
        refine sX_iload_n (i := 1) (by decide +kernel) rfl ?_
        refine sX_iload_n (i := 3) (by decide +kernel) rfl ?_
        refine sX_callV (As := [.int v1, .int v3]) (by decide +kernel) lm_X11_356 mf_X4_row mi_X4_row mc_4 (m_X4_row G l x2 v1 v3 M) (fun _ h => sRc_some h) (by decide) rfl rfl (Nat.le_of_ble_eq_true rfl) (fun x3 M4 _ => ?_)
        refine sX_callVp (As := [.ref x3]) (by decide +kernel) lm_X11_360 mf_X11_isAsSeen mi_X11_isAsSeen mc_11 (m_X11_isAsSeen G l v0 x3 M4) (fun _ h => sRc_some h) (by decide) rfl rfl (Nat.le_of_ble_eq_true rfl) (fun x5 => ?_)
        refine sX_ifeq (o := 13) (t := 65) (by decide +kernel) (by decide) (fun _ => ?_) (fun _ => ?_)
        · exact sX.le (xB65 v2 v3 M4) (sLe_s (sLe_s (sLe_s (sLe_s sLe_e))))
        · refine sX_aload_n (i := 0) (by decide +kernel) rfl ?_
          refine sX_getR lf_X11_73 tk_11_14 (by decide +kernel) (fun x6 => ?_)
          refine sX_iload_n (i := 2) (by decide +kernel) rfl ?_
          refine sX_iload_n (i := 3) (by decide +kernel) rfl ?_
          refine sX_iastore (by decide +kernel) (by decide) (fun M7 => ?_)
          refine sX_iinc (i := 2) (n := 1) (v := v2 + (1 : Int32)) (ls2 := [some (.ref v0), some (.int v1), some (.int (v2 + (1 : Int32))), some (.int v3)]) (by decide +kernel) rfl rfl (by decide) rfl ?_
          exact sX.le (xB65 ((v2 + (1 : Int32))) v3 M7) (sLe_s (sLe_s (sLe_s (sLe_s sLe_e))))
    exact fun a => xK30 a.1 a.2.1 a.2.2
  refine sX_rc ?_
  refine sX_aload_n (i := 0) (by decide +kernel) rfl ?_
  refine sX_getR lf_X11_54 tk_11_9 (by decide +kernel) (fun x8 => ?_)
  refine sX_getR lf_X11_192 tk_0_1 (by decide +kernel) (fun x9 => ?_)
  refine sX_aload_n (i := 0) (by decide +kernel) rfl ?_
  refine sX_getR lf_X11_38 tk_11_4 (by decide +kernel) (fun x10 => ?_)
  refine sX_aload_n (i := 0) (by decide +kernel) rfl ?_
  refine sX_getR lf_X11_38 tk_11_4 (by decide +kernel) (fun x11 => ?_)
  refine sX_getI lf_X11_149 tk_8_1 (by decide +kernel) (fun x12 => ?_)
  refine sX_iload_n (i := 1) (by decide +kernel) rfl ?_
  refine sX_aload_n (i := 0) (by decide +kernel) rfl ?_
  refine sX_getR lf_X11_65 tk_11_11 (by decide +kernel) (fun x13 => ?_)
  refine sX_callVv (As := [.ref x10, .int x12, .int v1, .ref x13]) (by decide +kernel) lm_X11_340 mf_X4_close mi_X4_close mc_4 (m_X4_close G l x9 x10 x12 v1 x13 M0) (fun _ h => sRc_some h) (by decide) rfl rfl (Nat.le_of_ble_eq_true rfl) (fun M14 => ?_)
  refine sX_iconst (n := 0) (v := (0 : Int32)) (by decide +kernel) (by decide) ?_
  refine sX_istore_n (i := 2) (ls2 := [some (.ref v0), some (.int v1), some (.int (0 : Int32)), none]) (by decide +kernel) (by decide) rfl ?_
  refine sX_iconst (n := 0) (v := (0 : Int32)) (by decide +kernel) (by decide) ?_
  refine sX_istore_n (i := 3) (ls2 := [some (.ref v0), some (.int v1), some (.int (0 : Int32)), some (.int (0 : Int32))]) (by decide +kernel) (by decide) rfl ?_
  exact sX.le (xL30 v0 v1 ((0 : Int32)) ((0 : Int32)) M14) (sLe_s (sLe_s (sLe_s (sLe_s sLe_e))))
def f_X11_was (v0 : Nat) (v1 : Int32) (v2 : Int32) (M0 : sMem) : Option (Int32 × sMem) :=
  sRc 11 20 M0 v0 (
    (gR 11 20 2 M0 v0).bind fun x1 =>
    (gR 1 10 4 M0 x1).bind fun x2 =>
    (f_X9_isThere x2 v1 M0).bind fun x3 =>
    if x3 = 0 then
      some (((-1 : Int32), M0))
    else
      if v2 < 0 then
        some (((-1 : Int32), M0))
      else
        if v2 ≤ (2 : Int32) then
          (f_X11_findLates v0 v1 M0).bind fun (x4, M5) =>
          if v2 = 0 then
            some ((x4, M5))
          else
            if x4 = 0 then
              some (((-1 : Int32), M5))
            else
              if v2 = (1 : Int32) then
                (gR 11 20 14 M5 v0).bind fun x6 =>
                (ldI 14 M5 x6 ((0 : Int32))).bind fun x7 =>
                some ((x7, M5))
              else
                (gR 11 20 14 M5 v0).bind fun x8 =>
                (ldI 14 M5 x8 ((x4 - (1 : Int32)))).bind fun x9 =>
                some ((x9, M5))
        else
          some (((-1 : Int32), M0)))
set_option maxRecDepth 100000 in
set_option maxHeartbeats 4000000 in
theorem m_X11_was (G : sG) (l : Launch) (v0 : Nat) (v1 : Int32) (v2 : Int32) (M0 : sMem) : sC G l 7 yX11_was cX11_was 4 (some .int) [.ref v0, .int v1, .int v2] M0 rvI (f_X11_was v0 v1 v2 M0) := by
  refine sC_m (ls := [some (.ref v0), some (.int v1), some (.int v2), none]) (by decide +kernel) rfl (Nat.le_of_ble_eq_true rfl) (fun r M' K hr => ?_)
  unfold f_X11_was
  refine sX_rc ?_
  refine sX_aload_n (i := 0) (by decide +kernel) rfl ?_
  refine sX_getR lf_X11_28 tk_11_2 (by decide +kernel) (fun x1 => ?_)
  refine sX_getR lf_X11_140 tk_1_4 (by decide +kernel) (fun x2 => ?_)
  refine sX_iload_n (i := 1) (by decide +kernel) rfl ?_
  refine sX_callVp (As := [.int v1]) (by decide +kernel) lm_X11_164 mf_X9_isThere mi_X9_isThere mc_9 (m_X9_isThere G l x2 v1 M0) (fun _ h => sRc_some h) (by decide) rfl rfl (Nat.le_of_ble_eq_true rfl) (fun x3 => ?_)
  refine sX_ifeq (o := 12) (t := 23) (by decide +kernel) (by decide) (fun _ => ?_) (fun _ => ?_)
  · refine sX_iconst (n := -1) (v := (-1 : Int32)) (by decide +kernel) (by decide) ?_
    exact sX_some (fun h _ => sW_iret (by decide +kernel) rfl (hr _ h).1.symm (hr _ h).2.symm)
  · refine sX_iload_n (i := 2) (by decide +kernel) rfl ?_
    refine sX_iflt (o := 8) (t := 23) (by decide +kernel) (by decide) (fun _ => ?_) (fun _ => ?_)
    · refine sX_iconst (n := -1) (v := (-1 : Int32)) (by decide +kernel) (by decide) ?_
      exact sX_some (fun h _ => sW_iret (by decide +kernel) rfl (hr _ h).1.symm (hr _ h).2.symm)
    · refine sX_iload_n (i := 2) (by decide +kernel) rfl ?_
      refine sX_iconst (n := 2) (v := (2 : Int32)) (by decide +kernel) (by decide) ?_
      refine sX_icle (o := 5) (t := 25) (by decide +kernel) (by decide) (fun _ => ?_) (fun _ => ?_)
      · refine sX_aload_n (i := 0) (by decide +kernel) rfl ?_
        refine sX_iload_n (i := 1) (by decide +kernel) rfl ?_
        refine sX_callV (As := [.int v1]) (by decide +kernel) lm_X11_267 mf_X11_findLates mi_X11_findLates mc_11 (m_X11_findLates G l v0 v1 M0) (fun _ h => sRc_some h) (by decide) rfl rfl (Nat.le_of_ble_eq_true rfl) (fun x4 M5 _ => ?_)
        refine sX_istore_n (i := 3) (ls2 := [some (.ref v0), some (.int v1), some (.int v2), some (.int x4)]) (by decide +kernel) (by decide) rfl ?_
        refine sX_iload_n (i := 2) (by decide +kernel) rfl ?_
        refine sX_ifne (o := 5) (t := 37) (by decide +kernel) (by decide) (fun _ => ?_) (fun _ => ?_)
        · refine sX_iload_n (i := 3) (by decide +kernel) rfl ?_
          exact sX_some (fun h _ => sW_iret (by decide +kernel) rfl (hr _ h).1.symm (hr _ h).2.symm)
        · refine sX_iload_n (i := 3) (by decide +kernel) rfl ?_
          refine sX_ifne (o := 5) (t := 43) (by decide +kernel) (by decide) (fun _ => ?_) (fun _ => ?_)
          · refine sX_iconst (n := -1) (v := (-1 : Int32)) (by decide +kernel) (by decide) ?_
            exact sX_some (fun h _ => sW_iret (by decide +kernel) rfl (hr _ h).1.symm (hr _ h).2.symm)
          · refine sX_iload_n (i := 2) (by decide +kernel) rfl ?_
            refine sX_iconst (n := 1) (v := (1 : Int32)) (by decide +kernel) (by decide) ?_
            refine sX_icne (o := 12) (t := 57) (by decide +kernel) (by decide) (fun _ => ?_) (fun _ => ?_)
            · refine sX_aload_n (i := 0) (by decide +kernel) rfl ?_
              refine sX_getR lf_X11_73 tk_11_14 (by decide +kernel) (fun x6 => ?_)
              refine sX_iconst (n := 0) (v := (0 : Int32)) (by decide +kernel) (by decide) ?_
              refine sX_iaload (by decide +kernel) (fun x7 => ?_)
              refine sX_goto (o := 11) (t := 65) (by decide +kernel) (by decide) ?_
              exact sX_some (fun h _ => sW_iret (by decide +kernel) rfl (hr _ h).1.symm (hr _ h).2.symm)
            · refine sX_aload_n (i := 0) (by decide +kernel) rfl ?_
              refine sX_getR lf_X11_73 tk_11_14 (by decide +kernel) (fun x8 => ?_)
              refine sX_iload_n (i := 3) (by decide +kernel) rfl ?_
              refine sX_iconst (n := 1) (v := (1 : Int32)) (by decide +kernel) (by decide) ?_
              refine sX_isub (by decide +kernel) ?_
              refine sX_iaload (by decide +kernel) (fun x9 => ?_)
              exact sX_some (fun h _ => sW_iret (by decide +kernel) rfl (hr _ h).1.symm (hr _ h).2.symm)
      · refine sX_iconst (n := -1) (v := (-1 : Int32)) (by decide +kernel) (by decide) ?_
        exact sX_some (fun h _ => sW_iret (by decide +kernel) rfl (hr _ h).1.symm (hr _ h).2.symm)
def f_J6_numberOfTrailingZeros_0f7a4_B74 (v0 : Int32) (v1 : Int32) (M0 : sMem) : Option Int32 :=
  some ((v1 + (v0.toUInt32 >>> (((1 : Int32)).toUInt32 &&& Int32.toUInt32 31)).toInt32))
def f_J6_numberOfTrailingZeros_0f7a4_B62 (v0 : Int32) (v1 : Int32) (M0 : sMem) : Option Int32 :=
  if v0 ≤ (4 : Int32) then
    f_J6_numberOfTrailingZeros_0f7a4_B74 v0 v1 M0
  else
    f_J6_numberOfTrailingZeros_0f7a4_B74 ((v0.toUInt32 >>> (((2 : Int32)).toUInt32 &&& Int32.toUInt32 31)).toInt32) ((v1 + (2 : Int32))) M0
def f_J6_numberOfTrailingZeros_0f7a4_B49 (v0 : Int32) (v1 : Int32) (M0 : sMem) : Option Int32 :=
  if v0 ≤ (16 : Int32) then
    f_J6_numberOfTrailingZeros_0f7a4_B62 v0 v1 M0
  else
    f_J6_numberOfTrailingZeros_0f7a4_B62 ((v0.toUInt32 >>> (((4 : Int32)).toUInt32 &&& Int32.toUInt32 31)).toInt32) ((v1 + (4 : Int32))) M0
def f_J6_numberOfTrailingZeros_0f7a4_B34 (v0 : Int32) (v1 : Int32) (M0 : sMem) : Option Int32 :=
  if v0 ≤ (256 : Int32) then
    f_J6_numberOfTrailingZeros_0f7a4_B49 v0 v1 M0
  else
    f_J6_numberOfTrailingZeros_0f7a4_B49 ((v0.toUInt32 >>> (((8 : Int32)).toUInt32 &&& Int32.toUInt32 31)).toInt32) ((v1 + (8 : Int32))) M0
def f_J6_numberOfTrailingZeros_0f7a4 (v0 : Int32) (M0 : sMem) : Option Int32 :=
  if 0 < ((v0 ^^^ (-1 : Int32)) &&& (v0 - (1 : Int32))) then
    if ((v0 ^^^ (-1 : Int32)) &&& (v0 - (1 : Int32))) ≤ (65536 : Int32) then
      f_J6_numberOfTrailingZeros_0f7a4_B34 (((v0 ^^^ (-1 : Int32)) &&& (v0 - (1 : Int32)))) ((1 : Int32)) M0
    else
      f_J6_numberOfTrailingZeros_0f7a4_B34 (((((v0 ^^^ (-1 : Int32)) &&& (v0 - (1 : Int32)))).toUInt32 >>> (((16 : Int32)).toUInt32 &&& Int32.toUInt32 31)).toInt32) ((((1 : Int32)) + (16 : Int32))) M0
  else
    some ((((v0 ^^^ (-1 : Int32)) &&& (v0 - (1 : Int32))) &&& (32 : Int32)))
set_option maxRecDepth 100000 in
set_option maxHeartbeats 4000000 in
theorem m_J6_numberOfTrailingZeros_0f7a4 (G : sG) (l : Launch) (v0 : Int32) (M0 : sMem) : sCp G l 1 yJ6_numberOfTrailingZeros_0f7a4 cJ6_numberOfTrailingZeros_0f7a4 2 (some .int) [.int v0] M0 rvI (f_J6_numberOfTrailingZeros_0f7a4 v0 M0) := by
  refine sC_p (ls := [some (.int v0), none]) (by decide +kernel) rfl (Nat.le_of_ble_eq_true rfl) (fun r M' K hr => ?_)
  unfold f_J6_numberOfTrailingZeros_0f7a4
  have xB74 : ∀ (v0 : Int32) (v1 : Int32), sX G l 1 yJ6_numberOfTrailingZeros_0f7a4 cJ6_numberOfTrailingZeros_0f7a4 2 (some .int) M0 r M' 74 [some (.int v0), some (.int v1)] [] M0 (f_J6_numberOfTrailingZeros_0f7a4_B74 v0 v1 M0) K := by
    intro v0 v1
    unfold f_J6_numberOfTrailingZeros_0f7a4_B74
    refine sX_iload_n (i := 1) (by decide +kernel) rfl ?_
    refine sX_iload_n (i := 0) (by decide +kernel) rfl ?_
    refine sX_iconst (n := 1) (v := (1 : Int32)) (by decide +kernel) (by decide) ?_
    refine sX_iushr (by decide +kernel) ?_
    refine sX_iadd (by decide +kernel) ?_
    exact sX_some (fun h _ => sW_iret (by decide +kernel) rfl (hr _ h).1.symm (hr _ h).2.symm)
  have xB62 : ∀ (v0 : Int32) (v1 : Int32), sX G l 1 yJ6_numberOfTrailingZeros_0f7a4 cJ6_numberOfTrailingZeros_0f7a4 2 (some .int) M0 r M' 62 [some (.int v0), some (.int v1)] [] M0 (f_J6_numberOfTrailingZeros_0f7a4_B62 v0 v1 M0) K := by
    intro v0 v1
    unfold f_J6_numberOfTrailingZeros_0f7a4_B62
    refine sX_iload_n (i := 0) (by decide +kernel) rfl ?_
    refine sX_iconst (n := 4) (v := (4 : Int32)) (by decide +kernel) (by decide) ?_
    refine sX_icle (o := 10) (t := 74) (by decide +kernel) (by decide) (fun _ => ?_) (fun _ => ?_)
    · exact sX.le (xB74 v0 v1) (sLe_s (sLe_s sLe_e))
    · refine sX_iinc (i := 1) (n := 2) (v := v1 + (2 : Int32)) (ls2 := [some (.int v0), some (.int (v1 + (2 : Int32)))]) (by decide +kernel) rfl rfl (by decide) rfl ?_
      refine sX_iload_n (i := 0) (by decide +kernel) rfl ?_
      refine sX_iconst (n := 2) (v := (2 : Int32)) (by decide +kernel) (by decide) ?_
      refine sX_iushr (by decide +kernel) ?_
      refine sX_istore_n (i := 0) (ls2 := [some (.int (v0.toUInt32 >>> (((2 : Int32)).toUInt32 &&& Int32.toUInt32 31)).toInt32), some (.int (v1 + (2 : Int32)))]) (by decide +kernel) (by decide) rfl ?_
      exact sX.le (xB74 ((v0.toUInt32 >>> (((2 : Int32)).toUInt32 &&& Int32.toUInt32 31)).toInt32) ((v1 + (2 : Int32)))) (sLe_s (sLe_s sLe_e))
  have xB49 : ∀ (v0 : Int32) (v1 : Int32), sX G l 1 yJ6_numberOfTrailingZeros_0f7a4 cJ6_numberOfTrailingZeros_0f7a4 2 (some .int) M0 r M' 49 [some (.int v0), some (.int v1)] [] M0 (f_J6_numberOfTrailingZeros_0f7a4_B49 v0 v1 M0) K := by
    intro v0 v1
    unfold f_J6_numberOfTrailingZeros_0f7a4_B49
    refine sX_iload_n (i := 0) (by decide +kernel) rfl ?_
    refine sX_bipush (n := 16) (v := (16 : Int32)) (by decide +kernel) (by decide) ?_
    refine sX_icle (o := 10) (t := 62) (by decide +kernel) (by decide) (fun _ => ?_) (fun _ => ?_)
    · exact sX.le (xB62 v0 v1) (sLe_s (sLe_s sLe_e))
    · refine sX_iinc (i := 1) (n := 4) (v := v1 + (4 : Int32)) (ls2 := [some (.int v0), some (.int (v1 + (4 : Int32)))]) (by decide +kernel) rfl rfl (by decide) rfl ?_
      refine sX_iload_n (i := 0) (by decide +kernel) rfl ?_
      refine sX_iconst (n := 4) (v := (4 : Int32)) (by decide +kernel) (by decide) ?_
      refine sX_iushr (by decide +kernel) ?_
      refine sX_istore_n (i := 0) (ls2 := [some (.int (v0.toUInt32 >>> (((4 : Int32)).toUInt32 &&& Int32.toUInt32 31)).toInt32), some (.int (v1 + (4 : Int32)))]) (by decide +kernel) (by decide) rfl ?_
      exact sX.le (xB62 ((v0.toUInt32 >>> (((4 : Int32)).toUInt32 &&& Int32.toUInt32 31)).toInt32) ((v1 + (4 : Int32)))) (sLe_s (sLe_s sLe_e))
  have xB34 : ∀ (v0 : Int32) (v1 : Int32), sX G l 1 yJ6_numberOfTrailingZeros_0f7a4 cJ6_numberOfTrailingZeros_0f7a4 2 (some .int) M0 r M' 34 [some (.int v0), some (.int v1)] [] M0 (f_J6_numberOfTrailingZeros_0f7a4_B34 v0 v1 M0) K := by
    intro v0 v1
    unfold f_J6_numberOfTrailingZeros_0f7a4_B34
    refine sX_iload_n (i := 0) (by decide +kernel) rfl ?_
    refine sX_sipush (n := 256) (v := (256 : Int32)) (by decide +kernel) (by decide) ?_
    refine sX_icle (o := 11) (t := 49) (by decide +kernel) (by decide) (fun _ => ?_) (fun _ => ?_)
    · exact sX.le (xB49 v0 v1) (sLe_s (sLe_s sLe_e))
    · refine sX_iinc (i := 1) (n := 8) (v := v1 + (8 : Int32)) (ls2 := [some (.int v0), some (.int (v1 + (8 : Int32)))]) (by decide +kernel) rfl rfl (by decide) rfl ?_
      refine sX_iload_n (i := 0) (by decide +kernel) rfl ?_
      refine sX_bipush (n := 8) (v := (8 : Int32)) (by decide +kernel) (by decide) ?_
      refine sX_iushr (by decide +kernel) ?_
      refine sX_istore_n (i := 0) (ls2 := [some (.int (v0.toUInt32 >>> (((8 : Int32)).toUInt32 &&& Int32.toUInt32 31)).toInt32), some (.int (v1 + (8 : Int32)))]) (by decide +kernel) (by decide) rfl ?_
      exact sX.le (xB49 ((v0.toUInt32 >>> (((8 : Int32)).toUInt32 &&& Int32.toUInt32 31)).toInt32) ((v1 + (8 : Int32)))) (sLe_s (sLe_s sLe_e))
  refine sX_iload_n (i := 0) (by decide +kernel) rfl ?_
  refine sX_iconst (n := -1) (v := (-1 : Int32)) (by decide +kernel) (by decide) ?_
  refine sX_ixor (by decide +kernel) ?_
  refine sX_iload_n (i := 0) (by decide +kernel) rfl ?_
  refine sX_iconst (n := 1) (v := (1 : Int32)) (by decide +kernel) (by decide) ?_
  refine sX_isub (by decide +kernel) ?_
  refine sX_iand (by decide +kernel) ?_
  refine sX_istore_n (i := 0) (ls2 := [some (.int ((v0 ^^^ (-1 : Int32)) &&& (v0 - (1 : Int32)))), none]) (by decide +kernel) (by decide) rfl ?_
  refine sX_iload_n (i := 0) (by decide +kernel) rfl ?_
  refine sX_ifgt (o := 8) (t := 17) (by decide +kernel) (by decide) (fun _ => ?_) (fun _ => ?_)
  · refine sX_iconst (n := 1) (v := (1 : Int32)) (by decide +kernel) (by decide) ?_
    refine sX_istore_n (i := 1) (ls2 := [some (.int ((v0 ^^^ (-1 : Int32)) &&& (v0 - (1 : Int32)))), some (.int (1 : Int32))]) (by decide +kernel) (by decide) rfl ?_
    refine sX_iload_n (i := 0) (by decide +kernel) rfl ?_
    refine sX_ldcw (v := (65536 : Int32)) (by decide +kernel) kc_J6_264 ?_
    refine sX_icle (o := 11) (t := 34) (by decide +kernel) (by decide) (fun _ => ?_) (fun _ => ?_)
    · exact sX.le (xB34 (((v0 ^^^ (-1 : Int32)) &&& (v0 - (1 : Int32)))) ((1 : Int32))) (sLe_s (sLe_s sLe_e))
    · refine sX_iinc (i := 1) (n := 16) (v := ((1 : Int32)) + (16 : Int32)) (ls2 := [some (.int ((v0 ^^^ (-1 : Int32)) &&& (v0 - (1 : Int32)))), some (.int (((1 : Int32)) + (16 : Int32)))]) (by decide +kernel) rfl rfl (by decide) rfl ?_
      refine sX_iload_n (i := 0) (by decide +kernel) rfl ?_
      refine sX_bipush (n := 16) (v := (16 : Int32)) (by decide +kernel) (by decide) ?_
      refine sX_iushr (by decide +kernel) ?_
      refine sX_istore_n (i := 0) (ls2 := [some (.int ((((v0 ^^^ (-1 : Int32)) &&& (v0 - (1 : Int32)))).toUInt32 >>> (((16 : Int32)).toUInt32 &&& Int32.toUInt32 31)).toInt32), some (.int (((1 : Int32)) + (16 : Int32)))]) (by decide +kernel) (by decide) rfl ?_
      exact sX.le (xB34 (((((v0 ^^^ (-1 : Int32)) &&& (v0 - (1 : Int32)))).toUInt32 >>> (((16 : Int32)).toUInt32 &&& Int32.toUInt32 31)).toInt32) ((((1 : Int32)) + (16 : Int32)))) (sLe_s (sLe_s sLe_e))
  · refine sX_iload_n (i := 0) (by decide +kernel) rfl ?_
    refine sX_bipush (n := 32) (v := (32 : Int32)) (by decide +kernel) (by decide) ?_
    refine sX_iand (by decide +kernel) ?_
    exact sX_some (fun h _ => sW_iret (by decide +kernel) rfl (hr _ h).1.symm (hr _ h).2.symm)
def f_J13_numberOfTrailingZeros_95d88 (v0 : Int64) (M0 : sMem) : Option Int32 :=
  if v0.toInt32 = 0 then
    (f_J6_numberOfTrailingZeros_0f7a4 (((v0.toUInt64 >>> (((32 : Int32)).toInt64.toUInt64 &&& Int64.toUInt64 63)).toInt64).toInt32) M0).bind fun x1 =>
    some (((32 : Int32) + x1))
  else
    (f_J6_numberOfTrailingZeros_0f7a4 v0.toInt32 M0).bind fun x2 =>
    some x2
set_option maxRecDepth 100000 in
set_option maxHeartbeats 4000000 in
theorem m_J13_numberOfTrailingZeros_95d88 (G : sG) (l : Launch) (v0 : Int64) (M0 : sMem) : sCp G l 2 yJ13_numberOfTrailingZeros_95d88 cJ13_numberOfTrailingZeros_95d88 3 (some .int) [.long v0] M0 rvI (f_J13_numberOfTrailingZeros_95d88 v0 M0) := by
  refine sC_p (ls := [some (.long v0), none, none]) (by decide +kernel) rfl (Nat.le_of_ble_eq_true rfl) (fun r M' K hr => ?_)
  unfold f_J13_numberOfTrailingZeros_95d88
  refine sX_lload_n (i := 0) (by decide +kernel) rfl ?_
  refine sX_l2i (by decide +kernel) ?_
  refine sX_istore_n (i := 2) (ls2 := [some (.long v0), none, some (.int v0.toInt32)]) (by decide +kernel) (by decide) rfl ?_
  refine sX_iload_n (i := 2) (by decide +kernel) rfl ?_
  refine sX_ifne (o := 17) (t := 21) (by decide +kernel) (by decide) (fun _ => ?_) (fun _ => ?_)
  · refine sX_bipush (n := 32) (v := (32 : Int32)) (by decide +kernel) (by decide) ?_
    refine sX_lload_n (i := 0) (by decide +kernel) rfl ?_
    refine sX_bipush (n := 32) (v := (32 : Int32)) (by decide +kernel) (by decide) ?_
    refine sX_lushr (by decide +kernel) ?_
    refine sX_l2i (by decide +kernel) ?_
    refine sX_callSp (As := [.int ((v0.toUInt64 >>> (((32 : Int32)).toInt64.toUInt64 &&& Int64.toUInt64 63)).toInt64).toInt32]) (by decide +kernel) lm_J13_311 mf_J6_numberOfTrailingZeros_0f7a4 ms_J6_numberOfTrailingZeros_0f7a4 (m_J6_numberOfTrailingZeros_0f7a4 G l (((v0.toUInt64 >>> (((32 : Int32)).toInt64.toUInt64 &&& Int64.toUInt64 63)).toInt64).toInt32) M0) (by decide) rfl rfl (Nat.le_of_ble_eq_true rfl) (fun x1 => ?_)
    refine sX_iadd (by decide +kernel) ?_
    refine sX_goto (o := 7) (t := 25) (by decide +kernel) (by decide) ?_
    exact sX_some (fun h _ => sW_iret (by decide +kernel) rfl (hr _ h).1.symm (hr _ h).2.symm)
  · refine sX_iload_n (i := 2) (by decide +kernel) rfl ?_
    refine sX_callSp (As := [.int v0.toInt32]) (by decide +kernel) lm_J13_311 mf_J6_numberOfTrailingZeros_0f7a4 ms_J6_numberOfTrailingZeros_0f7a4 (m_J6_numberOfTrailingZeros_0f7a4 G l v0.toInt32 M0) (by decide) rfl rfl (Nat.le_of_ble_eq_true rfl) (fun x2 => ?_)
    exact sX_some (fun h _ => sW_iret (by decide +kernel) rfl (hr _ h).1.symm (hr _ h).2.symm)
def f_X11_countBits_B72 (v0 : Nat) (v4 : Int32) (v5 : Int64) (v7 : Int32) (M : sMem) : Option ((Int64 × Int32 × sMem) ⊕ ((sMem))) :=
  some (.inl ((((v5 &&& (v5 - (1 : Int64)))), ((v7 + (1 : Int32))), M)))
def f_X11_countBits_K22 (v0 : Nat) (v4 : Int32) (v5 : Int64) (v7 : Int32) (M : sMem) : Option ((Int64 × Int32 × sMem) ⊕ ((sMem))) :=
  if (64 : Int32) ≤ v7 then
    some (.inr M)
  else
    if v5 = (0 : Int64) then
      some (.inr M)
    else
      (f_J13_numberOfTrailingZeros_95d88 v5 M).bind fun x1 =>
      if (v4 + x1) < 0 then
        f_X11_countBits_B72 v0 v4 v5 v7 M
      else
        (gR 11 20 15 M v0).bind fun x2 =>
        (aL 14 M x2).bind fun x3 =>
        if x3 ≤ (v4 + x1) then
          f_X11_countBits_B72 v0 v4 v5 v7 M
        else
          (gR 11 20 15 M v0).bind fun x4 =>
          (ldI 14 M x4 ((v4 + x1))).bind fun x5 =>
          (stI M x4 ((v4 + x1)) ((x5 + (1 : Int32)))).bind fun M6 =>
          f_X11_countBits_B72 v0 v4 v5 v7 M6
def f_X11_countBits_L22 (v0 : Nat) (v4 : Int32) (v5 : Int64) (v7 : Int32) (M : sMem) : Option sMem :=
  (sItr (fun a : (Int64 × Int32 × sMem) => f_X11_countBits_K22 v0 v4 a.1 a.2.1 a.2.2) sFuel (v5, v7, M)).bind (fun b => some b)
def f_X11_countBits (v0 : Nat) (v1 : Int64) (v3 : Int32) (M0 : sMem) : Option sMem :=
  sRc 11 20 M0 v0 (
    f_X11_countBits_L22 v0 ((((v3 / (4 : Int32)) * (200 : Int32)) + ((v3 - v3 / (4 : Int32) * (4 : Int32)) * (64 : Int32)))) v1 ((0 : Int32)) M0)
set_option maxRecDepth 100000 in
set_option maxHeartbeats 4000000 in
theorem m_X11_countBits (G : sG) (l : Launch) (v0 : Nat) (v1 : Int64) (v3 : Int32) (M0 : sMem) : sCv G l 3 yX11_countBits cX11_countBits 9 none [.ref v0, .long v1, .int v3] M0 (f_X11_countBits v0 v1 v3 M0) := by
  refine sC_v (ls := [some (.ref v0), some (.long v1), none, some (.int v3), none, none, none, none, none]) (by decide +kernel) rfl (Nat.le_of_ble_eq_true rfl) (fun r M' K hr => ?_)
  unfold f_X11_countBits
  have xL22 : ∀ (v0 : Nat) (v4 : Int32) (v5 : Int64) (v7 : Int32) (M : sMem), sX G l 3 yX11_countBits cX11_countBits 9 none M0 r M' 22 [some (.ref v0), none, none, none, some (.int v4), some (.long v5), none, some (.int v7), none] [] M (f_X11_countBits_L22 v0 v4 v5 v7 M) K := by
    intro v0 v4 v5 v7 M
    unfold f_X11_countBits_L22
    refine sX_bind ?_
    refine sX_loop (LS := fun a : (Int64 × Int32 × sMem) => [some (.ref v0), none, none, none, some (.int v4), some (.long a.1), none, some (.int a.2.1), none]) (MM := fun a => a.2.2) (fun K1 hb1 he1 => ?_) sFuel ((v5, v7, M))
    have xB72 : ∀ (v5 : Int64) (v7 : Int32) (M : sMem), sX G l 3 yX11_countBits cX11_countBits 9 none M0 r M' 72 [some (.ref v0), none, none, none, some (.int v4), some (.long v5), none, some (.int v7), none] [] M (f_X11_countBits_B72 v0 v4 v5 v7 M) K1 := by
      intro v5 v7 M
      unfold f_X11_countBits_B72
      refine sX_lload (i := 5) (by decide +kernel) rfl ?_
      refine sX_lload (i := 5) (by decide +kernel) rfl ?_
      refine sX_lconst (n := 1) (v := (1 : Int64)) (by decide +kernel) (by decide) ?_
      refine sX_lsub (by decide +kernel) ?_
      refine sX_land (by decide +kernel) ?_
      refine sX_lstore (i := 5) (ls2 := [some (.ref v0), none, none, none, some (.int v4), some (.long (v5 &&& (v5 - (1 : Int64)))), none, some (.int v7), none]) (by decide +kernel) (by decide) rfl ?_
      refine sX_iinc (i := 7) (n := 1) (v := v7 + (1 : Int32)) (ls2 := [some (.ref v0), none, none, none, some (.int v4), some (.long (v5 &&& (v5 - (1 : Int64)))), none, some (.int (v7 + (1 : Int32))), none]) (by decide +kernel) rfl rfl (by decide) rfl ?_
      refine sX_goto (o := -62) (t := 22) (by decide +kernel) (by decide) ?_
      exact sX_back (a := (((v5 &&& (v5 - (1 : Int64)))), ((v7 + (1 : Int32))), M)) hb1 rfl (sLe_s (sLe_n (sLe_n (sLe_n (sLe_s (sLe_s (sLe_n (sLe_s (sLe_n sLe_e)))))))))
    have xK22 : ∀ (v5 : Int64) (v7 : Int32) (M : sMem), sX G l 3 yX11_countBits cX11_countBits 9 none M0 r M' 22 [some (.ref v0), none, none, none, some (.int v4), some (.long v5), none, some (.int v7), none] [] M (f_X11_countBits_K22 v0 v4 v5 v7 M) K1 := by
      intro v5 v7 M
      unfold f_X11_countBits_K22
      refine sX_iload (i := 7) (by decide +kernel) rfl ?_
      refine sX_bipush (n := 64) (v := (64 : Int32)) (by decide +kernel) (by decide) ?_
      refine sX_icge (o := 61) (t := 87) (by decide +kernel) (by decide) (fun _ => ?_) (fun _ => ?_)
      · refine sX_exit he1 ?_
        exact sX_some (fun h _ => sW_vret (by decide +kernel) rfl (hr _ h).1.symm (hr _ h).2.symm)
      · refine sX_lload (i := 5) (by decide +kernel) rfl ?_
        refine sX_lconst (n := 0) (v := (0 : Int64)) (by decide +kernel) (by decide) ?_
        refine sX_lceq (o := 54) (t := 87) (by decide +kernel) (by decide +kernel) (by decide) (fun _ => ?_) (fun _ => ?_)
        · refine sX_exit he1 ?_
          exact sX_some (fun h _ => sW_vret (by decide +kernel) rfl (hr _ h).1.symm (hr _ h).2.symm)
        · refine sX_iload (i := 4) (by decide +kernel) rfl ?_
          refine sX_lload (i := 5) (by decide +kernel) rfl ?_
          refine sX_callSp (As := [.long v5]) (by decide +kernel) lm_X11_374 mf_J13_numberOfTrailingZeros_95d88 ms_J13_numberOfTrailingZeros_95d88 (m_J13_numberOfTrailingZeros_95d88 G l v5 M) (by decide) rfl rfl (Nat.le_of_ble_eq_true rfl) (fun x1 => ?_)
          refine sX_iadd (by decide +kernel) ?_
          refine sX_istore (i := 8) (ls2 := [some (.ref v0), none, none, none, some (.int v4), some (.long v5), none, some (.int v7), some (.int (v4 + x1))]) (by decide +kernel) (by decide) rfl ?_
          refine sX_iload (i := 8) (by decide +kernel) rfl ?_
          refine sX_iflt (o := 24) (t := 72) (by decide +kernel) (by decide) (fun _ => ?_) (fun _ => ?_)
          · exact sX.le (xB72 v5 v7 M) (sLe_s (sLe_n (sLe_n (sLe_n (sLe_s (sLe_s (sLe_n (sLe_s (sLe_n sLe_e)))))))))
          · refine sX_iload (i := 8) (by decide +kernel) rfl ?_
            refine sX_aload_n (i := 0) (by decide +kernel) rfl ?_
            refine sX_getR lf_X11_76 tk_11_15 (by decide +kernel) (fun x2 => ?_)
            refine sX_alen (by decide) (by decide) (by decide +kernel) (fun x3 => ?_)
            refine sX_icge (o := 14) (t := 72) (by decide +kernel) (by decide) (fun _ => ?_) (fun _ => ?_)
            · exact sX.le (xB72 v5 v7 M) (sLe_s (sLe_n (sLe_n (sLe_n (sLe_s (sLe_s (sLe_n (sLe_s (sLe_n sLe_e)))))))))
            · refine sX_aload_n (i := 0) (by decide +kernel) rfl ?_
              refine sX_getR lf_X11_76 tk_11_15 (by decide +kernel) (fun x4 => ?_)
              refine sX_iload (i := 8) (by decide +kernel) rfl ?_
              refine sX_dup2 (by decide +kernel) rfl rfl ?_
              refine sX_iaload (by decide +kernel) (fun x5 => ?_)
              refine sX_iconst (n := 1) (v := (1 : Int32)) (by decide +kernel) (by decide) ?_
              refine sX_iadd (by decide +kernel) ?_
              refine sX_iastore (by decide +kernel) (by decide) (fun M6 => ?_)
              exact sX.le (xB72 v5 v7 M6) (sLe_s (sLe_n (sLe_n (sLe_n (sLe_s (sLe_s (sLe_n (sLe_s (sLe_n sLe_e)))))))))
    exact fun a => xK22 a.1 a.2.1 a.2.2
  refine sX_rc ?_
  refine sX_iload_n (i := 3) (by decide +kernel) rfl ?_
  refine sX_iconst (n := 4) (v := (4 : Int32)) (by decide +kernel) (by decide) ?_
  refine sX_idiv (by decide +kernel) (by decide) ?_
  refine sX_sipush (n := 200) (v := (200 : Int32)) (by decide +kernel) (by decide) ?_
  refine sX_imul (by decide +kernel) ?_
  refine sX_iload_n (i := 3) (by decide +kernel) rfl ?_
  refine sX_iconst (n := 4) (v := (4 : Int32)) (by decide +kernel) (by decide) ?_
  refine sX_irem (by decide +kernel) (by decide) ?_
  refine sX_bipush (n := 64) (v := (64 : Int32)) (by decide +kernel) (by decide) ?_
  refine sX_imul (by decide +kernel) ?_
  refine sX_iadd (by decide +kernel) ?_
  refine sX_istore (i := 4) (ls2 := [some (.ref v0), some (.long v1), none, some (.int v3), some (.int (((v3 / (4 : Int32)) * (200 : Int32)) + ((v3 - v3 / (4 : Int32) * (4 : Int32)) * (64 : Int32)))), none, none, none, none]) (by decide +kernel) (by decide) rfl ?_
  refine sX_lload_n (i := 1) (by decide +kernel) rfl ?_
  refine sX_lstore (i := 5) (ls2 := [some (.ref v0), some (.long v1), none, some (.int v3), some (.int (((v3 / (4 : Int32)) * (200 : Int32)) + ((v3 - v3 / (4 : Int32) * (4 : Int32)) * (64 : Int32)))), some (.long v1), none, none, none]) (by decide +kernel) (by decide) rfl ?_
  refine sX_iconst (n := 0) (v := (0 : Int32)) (by decide +kernel) (by decide) ?_
  refine sX_istore (i := 7) (ls2 := [some (.ref v0), some (.long v1), none, some (.int v3), some (.int (((v3 / (4 : Int32)) * (200 : Int32)) + ((v3 - v3 / (4 : Int32) * (4 : Int32)) * (64 : Int32)))), some (.long v1), none, some (.int (0 : Int32)), none]) (by decide +kernel) (by decide) rfl ?_
  exact sX.le (xL22 v0 ((((v3 / (4 : Int32)) * (200 : Int32)) + ((v3 - v3 / (4 : Int32) * (4 : Int32)) * (64 : Int32)))) v1 ((0 : Int32)) M0) (sLe_s (sLe_n (sLe_n (sLe_n (sLe_s (sLe_s (sLe_n (sLe_s (sLe_n sLe_e)))))))))
def f_X11_countShut_B94 (v0 : Nat) (v1 : Int32) (v2 : Int32) (v3 : Int32) (M : sMem) : Option ((Int32 × sMem) ⊕ ((sMem))) :=
  some (.inl ((((v3 + (1 : Int32))), M)))
def f_X11_countShut_B88 (v0 : Nat) (v1 : Int32) (v2 : Int32) (v3 : Int32) (v4 : Nat) (v5 : Int32) (M : sMem) : Option ((Int32 × sMem) ⊕ ((sMem))) :=
  some (.inl ((((v5 + (1 : Int32))), M)))
def f_X11_countShut_K37 (v0 : Nat) (v1 : Int32) (v2 : Int32) (v3 : Int32) (v4 : Nat) (v5 : Int32) (M : sMem) : Option ((Int32 × sMem) ⊕ ((sMem))) :=
  (aL 15 M v4).bind fun x1 =>
  if x1 ≤ v5 then
    some (.inr M)
  else
    (gR 11 20 11 M v0).bind fun x2 =>
    (aL 15 M x2).bind fun x3 =>
    if x3 ≤ v5 then
      some (.inr M)
    else
      (gR 11 20 4 M v0).bind fun x4 =>
      (f_X8_isUp x4 ((v5 / (4 : Int32))) M).bind fun x5 =>
      if x5 = 0 then
        (ldJ M v4 v5).bind fun x6 =>
        (gR 11 20 11 M v0).bind fun x7 =>
        (ldJ M x7 v5).bind fun x8 =>
        (f_X11_countBits v0 ((x6 ||| x8)) v5 M).bind fun M9 =>
        f_X11_countShut_B88 v0 v1 v2 v3 v4 v5 M9
      else
        f_X11_countShut_B88 v0 v1 v2 v3 v4 v5 M
def f_X11_countShut_L37 (v0 : Nat) (v1 : Int32) (v2 : Int32) (v3 : Int32) (v4 : Nat) (v5 : Int32) (M : sMem) : Option ((Int32 × sMem) ⊕ ((sMem))) :=
  (sItr (fun a : (Int32 × sMem) => f_X11_countShut_K37 v0 v1 v2 v3 v4 a.1 a.2) sFuel (v5, M)).bind (fun b => f_X11_countShut_B94 v0 v1 v2 v3 b)
def f_X11_countShut_K10 (v0 : Nat) (v1 : Int32) (v2 : Int32) (v3 : Int32) (M : sMem) : Option ((Int32 × sMem) ⊕ ((sMem))) :=
  if v2 ≤ v3 then
    some (.inr M)
  else
    (gR 11 20 9 M v0).bind fun x10 =>
    (gR 0 7 1 M x10).bind fun x11 =>
    (gR 11 20 14 M v0).bind fun x12 =>
    (ldI 14 M x12 v3).bind fun x13 =>
    (f_X4_row x11 v1 x13 M).bind fun (x14, M15) =>
    f_X11_countShut_L37 v0 v1 v2 v3 x14 ((0 : Int32)) M15
def f_X11_countShut_L10 (v0 : Nat) (v1 : Int32) (v2 : Int32) (v3 : Int32) (M : sMem) : Option sMem :=
  (sItr (fun a : (Int32 × sMem) => f_X11_countShut_K10 v0 v1 v2 a.1 a.2) sFuel (v3, M)).bind (fun b => some b)
def f_X11_countShut (v0 : Nat) (v1 : Int32) (v2 : Int32) (M0 : sMem) : Option sMem :=
  sRc 11 20 M0 v0 (
    (gR 11 20 15 M0 v0).bind fun x16 =>
    (f_J7_fill_53178 x16 ((0 : Int32)) M0).bind fun M17 =>
    f_X11_countShut_L10 v0 v1 v2 ((0 : Int32)) M17)
set_option maxRecDepth 100000 in
set_option maxHeartbeats 4000000 in
theorem m_X11_countShut (G : sG) (l : Launch) (v0 : Nat) (v1 : Int32) (v2 : Int32) (M0 : sMem) : sCv G l 5 yX11_countShut cX11_countShut 6 none [.ref v0, .int v1, .int v2] M0 (f_X11_countShut v0 v1 v2 M0) := by
  refine sC_v (ls := [some (.ref v0), some (.int v1), some (.int v2), none, none, none]) (by decide +kernel) rfl (Nat.le_of_ble_eq_true rfl) (fun r M' K hr => ?_)
  unfold f_X11_countShut
  have xL10 : ∀ (v0 : Nat) (v1 : Int32) (v2 : Int32) (v3 : Int32) (M : sMem), sX G l 5 yX11_countShut cX11_countShut 6 none M0 r M' 10 [some (.ref v0), some (.int v1), some (.int v2), some (.int v3), none, none] [] M (f_X11_countShut_L10 v0 v1 v2 v3 M) K := by
    intro v0 v1 v2 v3 M
    unfold f_X11_countShut_L10
    refine sX_bind ?_
    refine sX_loop (LS := fun a : (Int32 × sMem) => [some (.ref v0), some (.int v1), some (.int v2), some (.int a.1), none, none]) (MM := fun a => a.2) (fun K1 hb1 he1 => ?_) sFuel ((v3, M))
    have xB94 : ∀ (v3 : Int32) (M : sMem), sX G l 5 yX11_countShut cX11_countShut 6 none M0 r M' 94 [some (.ref v0), some (.int v1), some (.int v2), some (.int v3), none, none] [] M (f_X11_countShut_B94 v0 v1 v2 v3 M) K1 := by
      intro v3 M
      unfold f_X11_countShut_B94
      refine sX_iinc (i := 3) (n := 1) (v := v3 + (1 : Int32)) (ls2 := [some (.ref v0), some (.int v1), some (.int v2), some (.int (v3 + (1 : Int32))), none, none]) (by decide +kernel) rfl rfl (by decide) rfl ?_
      refine sX_goto (o := -87) (t := 10) (by decide +kernel) (by decide) ?_
      exact sX_back (a := (((v3 + (1 : Int32))), M)) hb1 rfl (sLe_s (sLe_s (sLe_s (sLe_s (sLe_n (sLe_n sLe_e))))))
    have xL37 : ∀ (v3 : Int32) (v4 : Nat) (v5 : Int32) (M : sMem), sX G l 5 yX11_countShut cX11_countShut 6 none M0 r M' 37 [some (.ref v0), some (.int v1), some (.int v2), some (.int v3), some (.ref v4), some (.int v5)] [] M (f_X11_countShut_L37 v0 v1 v2 v3 v4 v5 M) K1 := by
      intro v3 v4 v5 M
      unfold f_X11_countShut_L37
      refine sX_bind ?_
      refine sX_loop (LS := fun a : (Int32 × sMem) => [some (.ref v0), some (.int v1), some (.int v2), some (.int v3), some (.ref v4), some (.int a.1)]) (MM := fun a => a.2) (fun K2 hb2 he2 => ?_) sFuel ((v5, M))
      have xB88 : ∀ (v5 : Int32) (M : sMem), sX G l 5 yX11_countShut cX11_countShut 6 none M0 r M' 88 [some (.ref v0), some (.int v1), some (.int v2), some (.int v3), some (.ref v4), some (.int v5)] [] M (f_X11_countShut_B88 v0 v1 v2 v3 v4 v5 M) K2 := by
        intro v5 M
        unfold f_X11_countShut_B88
        refine sX_iinc (i := 5) (n := 1) (v := v5 + (1 : Int32)) (ls2 := [some (.ref v0), some (.int v1), some (.int v2), some (.int v3), some (.ref v4), some (.int (v5 + (1 : Int32)))]) (by decide +kernel) rfl rfl (by decide) rfl ?_
        refine sX_goto (o := -54) (t := 37) (by decide +kernel) (by decide) ?_
        exact sX_back (a := (((v5 + (1 : Int32))), M)) hb2 rfl (sLe_s (sLe_s (sLe_s (sLe_s (sLe_s (sLe_s sLe_e))))))
      have xK37 : ∀ (v5 : Int32) (M : sMem), sX G l 5 yX11_countShut cX11_countShut 6 none M0 r M' 37 [some (.ref v0), some (.int v1), some (.int v2), some (.int v3), some (.ref v4), some (.int v5)] [] M (f_X11_countShut_K37 v0 v1 v2 v3 v4 v5 M) K2 := by
        intro v5 M
        unfold f_X11_countShut_K37
        refine sX_iload (i := 5) (by decide +kernel) rfl ?_
        refine sX_aload (i := 4) (by decide +kernel) rfl ?_
        refine sX_alen (by decide) (by decide) (by decide +kernel) (fun x1 => ?_)
        refine sX_icge (o := 52) (t := 94) (by decide +kernel) (by decide) (fun _ => ?_) (fun _ => ?_)
        · refine sX_exit he2 ?_
          exact sX.le (xB94 v3 M) (sLe_s (sLe_s (sLe_s (sLe_s (sLe_n (sLe_n sLe_e))))))
        · refine sX_iload (i := 5) (by decide +kernel) rfl ?_
          refine sX_aload_n (i := 0) (by decide +kernel) rfl ?_
          refine sX_getR lf_X11_65 tk_11_11 (by decide +kernel) (fun x2 => ?_)
          refine sX_alen (by decide) (by decide) (by decide +kernel) (fun x3 => ?_)
          refine sX_icge (o := 42) (t := 94) (by decide +kernel) (by decide) (fun _ => ?_) (fun _ => ?_)
          · refine sX_exit he2 ?_
            exact sX.le (xB94 v3 M) (sLe_s (sLe_s (sLe_s (sLe_s (sLe_n (sLe_n sLe_e))))))
          · refine sX_aload_n (i := 0) (by decide +kernel) rfl ?_
            refine sX_getR lf_X11_38 tk_11_4 (by decide +kernel) (fun x4 => ?_)
            refine sX_iload (i := 5) (by decide +kernel) rfl ?_
            refine sX_iconst (n := 4) (v := (4 : Int32)) (by decide +kernel) (by decide) ?_
            refine sX_idiv (by decide +kernel) (by decide) ?_
            refine sX_callVp (As := [.int (v5 / (4 : Int32))]) (by decide +kernel) lm_X11_171 mf_X8_isUp mi_X8_isUp mc_8 (m_X8_isUp G l x4 ((v5 / (4 : Int32))) M) (fun _ h => sRc_some h) (by decide) rfl rfl (Nat.le_of_ble_eq_true rfl) (fun x5 => ?_)
            refine sX_ifne (o := 22) (t := 88) (by decide +kernel) (by decide) (fun _ => ?_) (fun _ => ?_)
            · refine sX_aload_n (i := 0) (by decide +kernel) rfl ?_
              refine sX_aload (i := 4) (by decide +kernel) rfl ?_
              refine sX_iload (i := 5) (by decide +kernel) rfl ?_
              refine sX_laload (by decide +kernel) (fun x6 => ?_)
              refine sX_aload_n (i := 0) (by decide +kernel) rfl ?_
              refine sX_getR lf_X11_65 tk_11_11 (by decide +kernel) (fun x7 => ?_)
              refine sX_iload (i := 5) (by decide +kernel) rfl ?_
              refine sX_laload (by decide +kernel) (fun x8 => ?_)
              refine sX_lor (by decide +kernel) ?_
              refine sX_iload (i := 5) (by decide +kernel) rfl ?_
              refine sX_callVv (As := [.long (x6 ||| x8), .int v5]) (by decide +kernel) lm_X11_370 mf_X11_countBits mi_X11_countBits mc_11 (m_X11_countBits G l v0 ((x6 ||| x8)) v5 M) (fun _ h => sRc_some h) (by decide) rfl rfl (Nat.le_of_ble_eq_true rfl) (fun M9 => ?_)
              exact sX.le (xB88 v5 M9) (sLe_s (sLe_s (sLe_s (sLe_s (sLe_s (sLe_s sLe_e))))))
            · exact sX.le (xB88 v5 M) (sLe_s (sLe_s (sLe_s (sLe_s (sLe_s (sLe_s sLe_e))))))
      exact fun a => xK37 a.1 a.2
    have xK10 : ∀ (v3 : Int32) (M : sMem), sX G l 5 yX11_countShut cX11_countShut 6 none M0 r M' 10 [some (.ref v0), some (.int v1), some (.int v2), some (.int v3), none, none] [] M (f_X11_countShut_K10 v0 v1 v2 v3 M) K1 := by
      intro v3 M
      unfold f_X11_countShut_K10
      refine sX_iload_n (i := 3) (by decide +kernel) rfl ?_
      refine sX_iload_n (i := 2) (by decide +kernel) rfl ?_
      refine sX_icge (o := 88) (t := 100) (by decide +kernel) (by decide) (fun _ => ?_) (fun _ => ?_)
      · refine sX_exit he1 ?_
        exact sX_some (fun h _ => sW_vret (by decide +kernel) rfl (hr _ h).1.symm (hr _ h).2.symm)
      · refine sX_aload_n (i := 0) (by decide +kernel) rfl ?_
        refine sX_getR lf_X11_54 tk_11_9 (by decide +kernel) (fun x10 => ?_)
        refine sX_getR lf_X11_192 tk_0_1 (by decide +kernel) (fun x11 => ?_)
        refine sX_iload_n (i := 1) (by decide +kernel) rfl ?_
        refine sX_aload_n (i := 0) (by decide +kernel) rfl ?_
        refine sX_getR lf_X11_73 tk_11_14 (by decide +kernel) (fun x12 => ?_)
        refine sX_iload_n (i := 3) (by decide +kernel) rfl ?_
        refine sX_iaload (by decide +kernel) (fun x13 => ?_)
        refine sX_callV (As := [.int v1, .int x13]) (by decide +kernel) lm_X11_356 mf_X4_row mi_X4_row mc_4 (m_X4_row G l x11 v1 x13 M) (fun _ h => sRc_some h) (by decide) rfl rfl (Nat.le_of_ble_eq_true rfl) (fun x14 M15 _ => ?_)
        refine sX_astore (i := 4) (ls2 := [some (.ref v0), some (.int v1), some (.int v2), some (.int v3), some (.ref x14), none]) (by decide +kernel) (by decide) rfl ?_
        refine sX_iconst (n := 0) (v := (0 : Int32)) (by decide +kernel) (by decide) ?_
        refine sX_istore (i := 5) (ls2 := [some (.ref v0), some (.int v1), some (.int v2), some (.int v3), some (.ref x14), some (.int (0 : Int32))]) (by decide +kernel) (by decide) rfl ?_
        exact sX.le (xL37 v3 x14 ((0 : Int32)) M15) (sLe_s (sLe_s (sLe_s (sLe_s (sLe_s (sLe_s sLe_e))))))
    exact fun a => xK10 a.1 a.2
  refine sX_rc ?_
  refine sX_aload_n (i := 0) (by decide +kernel) rfl ?_
  refine sX_getR lf_X11_76 tk_11_15 (by decide +kernel) (fun x16 => ?_)
  refine sX_iconst (n := 0) (v := (0 : Int32)) (by decide +kernel) (by decide) ?_
  refine sX_callSv (As := [.ref x16, .int (0 : Int32)]) (by decide +kernel) lm_X11_364 mf_J7_fill_53178 ms_J7_fill_53178 (m_J7_fill_53178 G l x16 ((0 : Int32)) M0) (by decide) rfl rfl (Nat.le_of_ble_eq_true rfl) (fun M17 => ?_)
  refine sX_iconst (n := 0) (v := (0 : Int32)) (by decide +kernel) (by decide) ?_
  refine sX_istore_n (i := 3) (ls2 := [some (.ref v0), some (.int v1), some (.int v2), some (.int (0 : Int32)), none, none]) (by decide +kernel) (by decide) rfl ?_
  exact sX.le (xL10 v0 v1 v2 ((0 : Int32)) M17) (sLe_s (sLe_s (sLe_s (sLe_s (sLe_n (sLe_n sLe_e))))))
def f_X11_tells_B142 (v2 : Int32) (v4 : Int32) (v5 : Int32) (M : sMem) : Option (Int32 × sMem) :=
  if v4 = (-1 : Int32) then
    some (((-1 : Int32), M))
  else
    if v2 = 0 then
      some (((v4 / (6 : Int32)), M))
    else
      if v2 = (1 : Int32) then
        some (((v4 - v4 / (6 : Int32) * (6 : Int32)), M))
      else
        some ((v5, M))
def f_X11_tells_B136 (v0 : Nat) (v2 : Int32) (v3 : Int32) (v4 : Int32) (v5 : Int32) (v6 : Int32) (M : sMem) : Option ((Int32 × Int32 × Int32) ⊕ ((Int32 × Int32))) :=
  some (.inl ((v4, v5, ((v6 + (1 : Int32))))))
def f_X11_tells_B130 (v0 : Nat) (v2 : Int32) (v3 : Int32) (v4 : Int32) (v5 : Int32) (v6 : Int32) (v7 : Int32) (M : sMem) : Option ((Int32 × Int32 × Int32) ⊕ ((Int32 × Int32))) :=
  some (.inl ((v4, v5, ((v7 + (1 : Int32))))))
def f_X11_tells_B116 (v0 : Nat) (v2 : Int32) (v3 : Int32) (v6 : Int32) (v7 : Int32) (v9 : Int32) (M : sMem) : Option ((Int32 × Int32 × Int32) ⊕ ((Int32 × Int32))) :=
  f_X11_tells_B130 v0 v2 v3 (((v6 * (6 : Int32)) + v7)) v9 v6 v7 M
def f_X11_tells_K61 (v0 : Nat) (v2 : Int32) (v3 : Int32) (v6 : Int32) (v4 : Int32) (v5 : Int32) (v7 : Int32) (M : sMem) : Option ((Int32 × Int32 × Int32) ⊕ ((Int32 × Int32))) :=
  (gR 11 20 2 M v0).bind fun x1 =>
  (gR 1 10 1 M x1).bind fun x2 =>
  (gI 9 4 3 M x2).bind fun x3 =>
  if x3 ≤ v7 then
    some (.inr ((v4, v5)))
  else
    (gR 11 20 15 M v0).bind fun x4 =>
    (ldI 14 M x4 (((v7 * (200 : Int32)) + v6))).bind fun x5 =>
    (f_J9_max_7cf53 x5 ((v3 - x5)) M).bind fun x6 =>
    if v4 = (-1 : Int32) then
      f_X11_tells_B116 v0 v2 v3 v6 v7 x6 M
    else
      if v5 ≤ x6 then
        f_X11_tells_B130 v0 v2 v3 v4 v5 v6 v7 M
      else
        f_X11_tells_B116 v0 v2 v3 v6 v7 x6 M
def f_X11_tells_L61 (v0 : Nat) (v2 : Int32) (v3 : Int32) (v4 : Int32) (v5 : Int32) (v6 : Int32) (v7 : Int32) (M : sMem) : Option ((Int32 × Int32 × Int32) ⊕ ((Int32 × Int32))) :=
  (sItr (fun a : (Int32 × Int32 × Int32) => f_X11_tells_K61 v0 v2 v3 v6 a.1 a.2.1 a.2.2 M) sFuel (v4, v5, v7)).bind (fun b => f_X11_tells_B136 v0 v2 v3 b.1 b.2 v6 M)
def f_X11_tells_K46 (v0 : Nat) (v2 : Int32) (v3 : Int32) (v4 : Int32) (v5 : Int32) (v6 : Int32) (M : sMem) : Option ((Int32 × Int32 × Int32) ⊕ ((Int32 × Int32))) :=
  if v3 ≤ 0 then
    some (.inr ((v4, v5)))
  else
    if (200 : Int32) ≤ v6 then
      some (.inr ((v4, v5)))
    else
      f_X11_tells_L61 v0 v2 v3 v4 v5 v6 ((0 : Int32)) M
def f_X11_tells_L46 (v0 : Nat) (v2 : Int32) (v3 : Int32) (v4 : Int32) (v5 : Int32) (v6 : Int32) (M : sMem) : Option (Int32 × sMem) :=
  (sItr (fun a : (Int32 × Int32 × Int32) => f_X11_tells_K46 v0 v2 v3 a.1 a.2.1 a.2.2 M) sFuel (v4, v5, v6)).bind (fun b => f_X11_tells_B142 v2 b.1 b.2 M)
def f_X11_tells (v0 : Nat) (v1 : Int32) (v2 : Int32) (M0 : sMem) : Option (Int32 × sMem) :=
  sRc 11 20 M0 v0 (
    (gR 11 20 2 M0 v0).bind fun x7 =>
    (gR 1 10 4 M0 x7).bind fun x8 =>
    (f_X9_isThere x8 v1 M0).bind fun x9 =>
    if x9 = 0 then
      some (((-1 : Int32), M0))
    else
      if v2 < 0 then
        some (((-1 : Int32), M0))
      else
        if v2 ≤ (2 : Int32) then
          (f_X11_findLates v0 v1 M0).bind fun (x10, M11) =>
          (f_X11_countShut v0 v1 x10 M11).bind fun M12 =>
          f_X11_tells_L46 v0 v2 x10 ((-1 : Int32)) x10 ((0 : Int32)) M12
        else
          some (((-1 : Int32), M0)))
set_option maxRecDepth 100000 in
set_option maxHeartbeats 4000000 in
theorem m_X11_tells (G : sG) (l : Launch) (v0 : Nat) (v1 : Int32) (v2 : Int32) (M0 : sMem) : sC G l 7 yX11_tells cX11_tells 10 (some .int) [.ref v0, .int v1, .int v2] M0 rvI (f_X11_tells v0 v1 v2 M0) := by
  refine sC_m (ls := [some (.ref v0), some (.int v1), some (.int v2), none, none, none, none, none, none, none]) (by decide +kernel) rfl (Nat.le_of_ble_eq_true rfl) (fun r M' K hr => ?_)
  unfold f_X11_tells
  have xB142 : ∀ (v2 : Int32) (v4 : Int32) (v5 : Int32) (M : sMem), sX G l 7 yX11_tells cX11_tells 10 (some .int) M0 r M' 142 [none, none, some (.int v2), none, some (.int v4), some (.int v5), none, none, none, none] [] M (f_X11_tells_B142 v2 v4 v5 M) K := by
    intro v2 v4 v5 M
    unfold f_X11_tells_B142
    refine sX_iload (i := 4) (by decide +kernel) rfl ?_
    refine sX_iconst (n := -1) (v := (-1 : Int32)) (by decide +kernel) (by decide) ?_
    refine sX_icne (o := 5) (t := 150) (by decide +kernel) (by decide) (fun _ => ?_) (fun _ => ?_)
    · refine sX_iconst (n := -1) (v := (-1 : Int32)) (by decide +kernel) (by decide) ?_
      exact sX_some (fun h _ => sW_iret (by decide +kernel) rfl (hr _ h).1.symm (hr _ h).2.symm)
    · refine sX_iload_n (i := 2) (by decide +kernel) rfl ?_
      refine sX_ifne (o := 11) (t := 162) (by decide +kernel) (by decide) (fun _ => ?_) (fun _ => ?_)
      · refine sX_iload (i := 4) (by decide +kernel) rfl ?_
        refine sX_bipush (n := 6) (v := (6 : Int32)) (by decide +kernel) (by decide) ?_
        refine sX_idiv (by decide +kernel) (by decide) ?_
        refine sX_goto (o := 18) (t := 177) (by decide +kernel) (by decide) ?_
        exact sX_some (fun h _ => sW_iret (by decide +kernel) rfl (hr _ h).1.symm (hr _ h).2.symm)
      · refine sX_iload_n (i := 2) (by decide +kernel) rfl ?_
        refine sX_iconst (n := 1) (v := (1 : Int32)) (by decide +kernel) (by decide) ?_
        refine sX_icne (o := 11) (t := 175) (by decide +kernel) (by decide) (fun _ => ?_) (fun _ => ?_)
        · refine sX_iload (i := 4) (by decide +kernel) rfl ?_
          refine sX_bipush (n := 6) (v := (6 : Int32)) (by decide +kernel) (by decide) ?_
          refine sX_irem (by decide +kernel) (by decide) ?_
          refine sX_goto (o := 5) (t := 177) (by decide +kernel) (by decide) ?_
          exact sX_some (fun h _ => sW_iret (by decide +kernel) rfl (hr _ h).1.symm (hr _ h).2.symm)
        · refine sX_iload (i := 5) (by decide +kernel) rfl ?_
          exact sX_some (fun h _ => sW_iret (by decide +kernel) rfl (hr _ h).1.symm (hr _ h).2.symm)
  have xL46 : ∀ (v0 : Nat) (v2 : Int32) (v3 : Int32) (v4 : Int32) (v5 : Int32) (v6 : Int32) (M : sMem), sX G l 7 yX11_tells cX11_tells 10 (some .int) M0 r M' 46 [some (.ref v0), none, some (.int v2), some (.int v3), some (.int v4), some (.int v5), some (.int v6), none, none, none] [] M (f_X11_tells_L46 v0 v2 v3 v4 v5 v6 M) K := by
    intro v0 v2 v3 v4 v5 v6 M
    unfold f_X11_tells_L46
    refine sX_bind ?_
    refine sX_loop (LS := fun a : (Int32 × Int32 × Int32) => [some (.ref v0), none, some (.int v2), some (.int v3), some (.int a.1), some (.int a.2.1), some (.int a.2.2), none, none, none]) (MM := fun a => M) (fun K1 hb1 he1 => ?_) sFuel ((v4, v5, v6))
    have xB136 : ∀ (v4 : Int32) (v5 : Int32) (v6 : Int32), sX G l 7 yX11_tells cX11_tells 10 (some .int) M0 r M' 136 [some (.ref v0), none, some (.int v2), some (.int v3), some (.int v4), some (.int v5), some (.int v6), none, none, none] [] M (f_X11_tells_B136 v0 v2 v3 v4 v5 v6 M) K1 := by
      intro v4 v5 v6
      unfold f_X11_tells_B136
      refine sX_iinc (i := 6) (n := 1) (v := v6 + (1 : Int32)) (ls2 := [some (.ref v0), none, some (.int v2), some (.int v3), some (.int v4), some (.int v5), some (.int (v6 + (1 : Int32))), none, none, none]) (by decide +kernel) rfl rfl (by decide) rfl ?_
      refine sX_goto (o := -93) (t := 46) (by decide +kernel) (by decide) ?_
      exact sX_back (a := (v4, v5, ((v6 + (1 : Int32))))) hb1 rfl (sLe_s (sLe_n (sLe_s (sLe_s (sLe_s (sLe_s (sLe_s (sLe_n (sLe_n (sLe_n sLe_e))))))))))
    have xL61 : ∀ (v4 : Int32) (v5 : Int32) (v6 : Int32) (v7 : Int32), sX G l 7 yX11_tells cX11_tells 10 (some .int) M0 r M' 61 [some (.ref v0), none, some (.int v2), some (.int v3), some (.int v4), some (.int v5), some (.int v6), some (.int v7), none, none] [] M (f_X11_tells_L61 v0 v2 v3 v4 v5 v6 v7 M) K1 := by
      intro v4 v5 v6 v7
      unfold f_X11_tells_L61
      refine sX_bind ?_
      refine sX_loop (LS := fun a : (Int32 × Int32 × Int32) => [some (.ref v0), none, some (.int v2), some (.int v3), some (.int a.1), some (.int a.2.1), some (.int v6), some (.int a.2.2), none, none]) (MM := fun a => M) (fun K2 hb2 he2 => ?_) sFuel ((v4, v5, v7))
      have xB130 : ∀ (v4 : Int32) (v5 : Int32) (v7 : Int32), sX G l 7 yX11_tells cX11_tells 10 (some .int) M0 r M' 130 [some (.ref v0), none, some (.int v2), some (.int v3), some (.int v4), some (.int v5), some (.int v6), some (.int v7), none, none] [] M (f_X11_tells_B130 v0 v2 v3 v4 v5 v6 v7 M) K2 := by
        intro v4 v5 v7
        unfold f_X11_tells_B130
        refine sX_iinc (i := 7) (n := 1) (v := v7 + (1 : Int32)) (ls2 := [some (.ref v0), none, some (.int v2), some (.int v3), some (.int v4), some (.int v5), some (.int v6), some (.int (v7 + (1 : Int32))), none, none]) (by decide +kernel) rfl rfl (by decide) rfl ?_
        refine sX_goto (o := -72) (t := 61) (by decide +kernel) (by decide) ?_
        exact sX_back (a := (v4, v5, ((v7 + (1 : Int32))))) hb2 rfl (sLe_s (sLe_n (sLe_s (sLe_s (sLe_s (sLe_s (sLe_s (sLe_s (sLe_n (sLe_n sLe_e))))))))))
      have xB116 : ∀ (v7 : Int32) (v9 : Int32), sX G l 7 yX11_tells cX11_tells 10 (some .int) M0 r M' 116 [some (.ref v0), none, some (.int v2), some (.int v3), none, none, some (.int v6), some (.int v7), none, some (.int v9)] [] M (f_X11_tells_B116 v0 v2 v3 v6 v7 v9 M) K2 := by
        intro v7 v9
        unfold f_X11_tells_B116
        refine sX_iload (i := 9) (by decide +kernel) rfl ?_
        refine sX_istore (i := 5) (ls2 := [some (.ref v0), none, some (.int v2), some (.int v3), none, some (.int v9), some (.int v6), some (.int v7), none, some (.int v9)]) (by decide +kernel) (by decide) rfl ?_
        refine sX_iload (i := 6) (by decide +kernel) rfl ?_
        refine sX_bipush (n := 6) (v := (6 : Int32)) (by decide +kernel) (by decide) ?_
        refine sX_imul (by decide +kernel) ?_
        refine sX_iload (i := 7) (by decide +kernel) rfl ?_
        refine sX_iadd (by decide +kernel) ?_
        refine sX_istore (i := 4) (ls2 := [some (.ref v0), none, some (.int v2), some (.int v3), some (.int ((v6 * (6 : Int32)) + v7)), some (.int v9), some (.int v6), some (.int v7), none, some (.int v9)]) (by decide +kernel) (by decide) rfl ?_
        exact sX.le (xB130 (((v6 * (6 : Int32)) + v7)) v9 v7) (sLe_s (sLe_n (sLe_s (sLe_s (sLe_s (sLe_s (sLe_s (sLe_s (sLe_n (sLe_n sLe_e))))))))))
      have xK61 : ∀ (v4 : Int32) (v5 : Int32) (v7 : Int32), sX G l 7 yX11_tells cX11_tells 10 (some .int) M0 r M' 61 [some (.ref v0), none, some (.int v2), some (.int v3), some (.int v4), some (.int v5), some (.int v6), some (.int v7), none, none] [] M (f_X11_tells_K61 v0 v2 v3 v6 v4 v5 v7 M) K2 := by
        intro v4 v5 v7
        unfold f_X11_tells_K61
        refine sX_iload (i := 7) (by decide +kernel) rfl ?_
        refine sX_aload_n (i := 0) (by decide +kernel) rfl ?_
        refine sX_getR lf_X11_28 tk_11_2 (by decide +kernel) (fun x1 => ?_)
        refine sX_getR lf_X11_125 tk_1_1 (by decide +kernel) (fun x2 => ?_)
        refine sX_getI lf_X11_129 tk_9_3 (by decide +kernel) (fun x3 => ?_)
        refine sX_icge (o := 63) (t := 136) (by decide +kernel) (by decide) (fun _ => ?_) (fun _ => ?_)
        · refine sX_exit he2 ?_
          exact sX.le (xB136 v4 v5 v6) (sLe_s (sLe_n (sLe_s (sLe_s (sLe_s (sLe_s (sLe_s (sLe_n (sLe_n (sLe_n sLe_e))))))))))
        · refine sX_aload_n (i := 0) (by decide +kernel) rfl ?_
          refine sX_getR lf_X11_76 tk_11_15 (by decide +kernel) (fun x4 => ?_)
          refine sX_iload (i := 7) (by decide +kernel) rfl ?_
          refine sX_sipush (n := 200) (v := (200 : Int32)) (by decide +kernel) (by decide) ?_
          refine sX_imul (by decide +kernel) ?_
          refine sX_iload (i := 6) (by decide +kernel) rfl ?_
          refine sX_iadd (by decide +kernel) ?_
          refine sX_iaload (by decide +kernel) (fun x5 => ?_)
          refine sX_istore (i := 8) (ls2 := [some (.ref v0), none, some (.int v2), some (.int v3), some (.int v4), some (.int v5), some (.int v6), some (.int v7), some (.int x5), none]) (by decide +kernel) (by decide) rfl ?_
          refine sX_iload (i := 8) (by decide +kernel) rfl ?_
          refine sX_iload_n (i := 3) (by decide +kernel) rfl ?_
          refine sX_iload (i := 8) (by decide +kernel) rfl ?_
          refine sX_isub (by decide +kernel) ?_
          refine sX_callSp (As := [.int x5, .int (v3 - x5)]) (by decide +kernel) lm_X11_274 mf_J9_max_7cf53 ms_J9_max_7cf53 (m_J9_max_7cf53 G l x5 ((v3 - x5)) M) (by decide) rfl rfl (Nat.le_of_ble_eq_true rfl) (fun x6 => ?_)
          refine sX_istore (i := 9) (ls2 := [some (.ref v0), none, some (.int v2), some (.int v3), some (.int v4), some (.int v5), some (.int v6), some (.int v7), some (.int x5), some (.int x6)]) (by decide +kernel) (by decide) rfl ?_
          refine sX_iload (i := 4) (by decide +kernel) rfl ?_
          refine sX_iconst (n := -1) (v := (-1 : Int32)) (by decide +kernel) (by decide) ?_
          refine sX_iceq (o := 10) (t := 116) (by decide +kernel) (by decide) (fun _ => ?_) (fun _ => ?_)
          · exact sX.le (xB116 v7 x6) (sLe_s (sLe_n (sLe_s (sLe_s (sLe_n (sLe_n (sLe_s (sLe_s (sLe_n (sLe_s sLe_e))))))))))
          · refine sX_iload (i := 9) (by decide +kernel) rfl ?_
            refine sX_iload (i := 5) (by decide +kernel) rfl ?_
            refine sX_icge (o := 17) (t := 130) (by decide +kernel) (by decide) (fun _ => ?_) (fun _ => ?_)
            · exact sX.le (xB130 v4 v5 v7) (sLe_s (sLe_n (sLe_s (sLe_s (sLe_s (sLe_s (sLe_s (sLe_s (sLe_n (sLe_n sLe_e))))))))))
            · exact sX.le (xB116 v7 x6) (sLe_s (sLe_n (sLe_s (sLe_s (sLe_n (sLe_n (sLe_s (sLe_s (sLe_n (sLe_s sLe_e))))))))))
      exact fun a => xK61 a.1 a.2.1 a.2.2
    have xK46 : ∀ (v4 : Int32) (v5 : Int32) (v6 : Int32), sX G l 7 yX11_tells cX11_tells 10 (some .int) M0 r M' 46 [some (.ref v0), none, some (.int v2), some (.int v3), some (.int v4), some (.int v5), some (.int v6), none, none, none] [] M (f_X11_tells_K46 v0 v2 v3 v4 v5 v6 M) K1 := by
      intro v4 v5 v6
      unfold f_X11_tells_K46
      refine sX_iload_n (i := 3) (by decide +kernel) rfl ?_
      refine sX_ifle (o := 95) (t := 142) (by decide +kernel) (by decide) (fun _ => ?_) (fun _ => ?_)
      · refine sX_exit he1 ?_
        exact sX.le (xB142 v2 v4 v5 M) (sLe_n (sLe_n (sLe_s (sLe_n (sLe_s (sLe_s (sLe_n (sLe_n (sLe_n (sLe_n sLe_e))))))))))
      · refine sX_iload (i := 6) (by decide +kernel) rfl ?_
        refine sX_sipush (n := 200) (v := (200 : Int32)) (by decide +kernel) (by decide) ?_
        refine sX_icge (o := 87) (t := 142) (by decide +kernel) (by decide) (fun _ => ?_) (fun _ => ?_)
        · refine sX_exit he1 ?_
          exact sX.le (xB142 v2 v4 v5 M) (sLe_n (sLe_n (sLe_s (sLe_n (sLe_s (sLe_s (sLe_n (sLe_n (sLe_n (sLe_n sLe_e))))))))))
        · refine sX_iconst (n := 0) (v := (0 : Int32)) (by decide +kernel) (by decide) ?_
          refine sX_istore (i := 7) (ls2 := [some (.ref v0), none, some (.int v2), some (.int v3), some (.int v4), some (.int v5), some (.int v6), some (.int (0 : Int32)), none, none]) (by decide +kernel) (by decide) rfl ?_
          exact sX.le (xL61 v4 v5 v6 ((0 : Int32))) (sLe_s (sLe_n (sLe_s (sLe_s (sLe_s (sLe_s (sLe_s (sLe_s (sLe_n (sLe_n sLe_e))))))))))
    exact fun a => xK46 a.1 a.2.1 a.2.2
  refine sX_rc ?_
  refine sX_aload_n (i := 0) (by decide +kernel) rfl ?_
  refine sX_getR lf_X11_28 tk_11_2 (by decide +kernel) (fun x7 => ?_)
  refine sX_getR lf_X11_140 tk_1_4 (by decide +kernel) (fun x8 => ?_)
  refine sX_iload_n (i := 1) (by decide +kernel) rfl ?_
  refine sX_callVp (As := [.int v1]) (by decide +kernel) lm_X11_164 mf_X9_isThere mi_X9_isThere mc_9 (m_X9_isThere G l x8 v1 M0) (fun _ h => sRc_some h) (by decide) rfl rfl (Nat.le_of_ble_eq_true rfl) (fun x9 => ?_)
  refine sX_ifeq (o := 12) (t := 23) (by decide +kernel) (by decide) (fun _ => ?_) (fun _ => ?_)
  · refine sX_iconst (n := -1) (v := (-1 : Int32)) (by decide +kernel) (by decide) ?_
    exact sX_some (fun h _ => sW_iret (by decide +kernel) rfl (hr _ h).1.symm (hr _ h).2.symm)
  · refine sX_iload_n (i := 2) (by decide +kernel) rfl ?_
    refine sX_iflt (o := 8) (t := 23) (by decide +kernel) (by decide) (fun _ => ?_) (fun _ => ?_)
    · refine sX_iconst (n := -1) (v := (-1 : Int32)) (by decide +kernel) (by decide) ?_
      exact sX_some (fun h _ => sW_iret (by decide +kernel) rfl (hr _ h).1.symm (hr _ h).2.symm)
    · refine sX_iload_n (i := 2) (by decide +kernel) rfl ?_
      refine sX_iconst (n := 2) (v := (2 : Int32)) (by decide +kernel) (by decide) ?_
      refine sX_icle (o := 5) (t := 25) (by decide +kernel) (by decide) (fun _ => ?_) (fun _ => ?_)
      · refine sX_aload_n (i := 0) (by decide +kernel) rfl ?_
        refine sX_iload_n (i := 1) (by decide +kernel) rfl ?_
        refine sX_callV (As := [.int v1]) (by decide +kernel) lm_X11_267 mf_X11_findLates mi_X11_findLates mc_11 (m_X11_findLates G l v0 v1 M0) (fun _ h => sRc_some h) (by decide) rfl rfl (Nat.le_of_ble_eq_true rfl) (fun x10 M11 _ => ?_)
        refine sX_istore_n (i := 3) (ls2 := [some (.ref v0), some (.int v1), some (.int v2), some (.int x10), none, none, none, none, none, none]) (by decide +kernel) (by decide) rfl ?_
        refine sX_aload_n (i := 0) (by decide +kernel) rfl ?_
        refine sX_iload_n (i := 1) (by decide +kernel) rfl ?_
        refine sX_iload_n (i := 3) (by decide +kernel) rfl ?_
        refine sX_callVv (As := [.int v1, .int x10]) (by decide +kernel) lm_X11_270 mf_X11_countShut mi_X11_countShut mc_11 (m_X11_countShut G l v0 v1 x10 M11) (fun _ h => sRc_some h) (by decide) rfl rfl (Nat.le_of_ble_eq_true rfl) (fun M12 => ?_)
        refine sX_iconst (n := -1) (v := (-1 : Int32)) (by decide +kernel) (by decide) ?_
        refine sX_istore (i := 4) (ls2 := [some (.ref v0), some (.int v1), some (.int v2), some (.int x10), some (.int (-1 : Int32)), none, none, none, none, none]) (by decide +kernel) (by decide) rfl ?_
        refine sX_iload_n (i := 3) (by decide +kernel) rfl ?_
        refine sX_istore (i := 5) (ls2 := [some (.ref v0), some (.int v1), some (.int v2), some (.int x10), some (.int (-1 : Int32)), some (.int x10), none, none, none, none]) (by decide +kernel) (by decide) rfl ?_
        refine sX_iconst (n := 0) (v := (0 : Int32)) (by decide +kernel) (by decide) ?_
        refine sX_istore (i := 6) (ls2 := [some (.ref v0), some (.int v1), some (.int v2), some (.int x10), some (.int (-1 : Int32)), some (.int x10), some (.int (0 : Int32)), none, none, none]) (by decide +kernel) (by decide) rfl ?_
        exact sX.le (xL46 v0 v2 x10 ((-1 : Int32)) x10 ((0 : Int32)) M12) (sLe_s (sLe_n (sLe_s (sLe_s (sLe_s (sLe_s (sLe_s (sLe_n (sLe_n (sLe_n sLe_e))))))))))
      · refine sX_iconst (n := -1) (v := (-1 : Int32)) (by decide +kernel) (by decide) ?_
        exact sX_some (fun h _ => sW_iret (by decide +kernel) rfl (hr _ h).1.symm (hr _ h).2.symm)
def f_X11_remember_B28 (v0 : Nat) (M : sMem) : Option sMem :=
  (gR 11 20 6 M v0).bind fun x1 =>
  (gI 11 20 8 M v0).bind fun x2 =>
  (ldN 17 M x1 x2).bind fun x3 =>
  (gR 11 20 4 M v0).bind fun x4 =>
  (f_X8_copy x3 x4 M).bind fun M5 =>
  (gI 11 20 8 M5 v0).bind fun x6 =>
  (pI 11 20 8 M5 v0 (((x6 + (1 : Int32)) - (x6 + (1 : Int32)) / (20 : Int32) * (20 : Int32)))).bind fun M7 =>
  (gI 11 20 7 M7 v0).bind fun x8 =>
  (f_J9_min_7cf53 ((20 : Int32)) ((x8 + (1 : Int32))) M7).bind fun x9 =>
  (pI 11 20 7 M7 v0 x9).bind fun M10 =>
  some M10
def f_X11_remember (v0 : Nat) (M0 : sMem) : Option sMem :=
  sRc 11 20 M0 v0 (
    (gR 11 20 6 M0 v0).bind fun x11 =>
    (gI 11 20 8 M0 v0).bind fun x12 =>
    (ldR 17 M0 x11 x12).bind fun x13 =>
    match x13 with
    | none =>
      (gR 11 20 6 M0 v0).bind fun x14 =>
      (gI 11 20 8 M0 v0).bind fun x15 =>
      (f_X8_init ((sLen M0)) (sNew 8 8 M0)).bind fun M16 =>
      (stR 17 8 M16 x14 x15 ((sLen M0))).bind fun M17 =>
      f_X11_remember_B28 v0 M17
    | some _ =>
      f_X11_remember_B28 v0 M0)
set_option maxRecDepth 100000 in
set_option maxHeartbeats 4000000 in
theorem m_X11_remember (G : sG) (l : Launch) (v0 : Nat) (M0 : sMem) : sCv G l 2 yX11_remember cX11_remember 1 none [.ref v0] M0 (f_X11_remember v0 M0) := by
  refine sC_v (ls := [some (.ref v0)]) (by decide +kernel) rfl (Nat.le_of_ble_eq_true rfl) (fun r M' K hr => ?_)
  unfold f_X11_remember
  have xB28 : ∀ (v0 : Nat) (M : sMem), sX G l 2 yX11_remember cX11_remember 1 none M0 r M' 28 [some (.ref v0)] [] M (f_X11_remember_B28 v0 M) K := by
    intro v0 M
    unfold f_X11_remember_B28
    refine sX_aload_n (i := 0) (by decide +kernel) rfl ?_
    refine sX_getR lf_X11_45 tk_11_6 (by decide +kernel) (fun x1 => ?_)
    refine sX_aload_n (i := 0) (by decide +kernel) rfl ?_
    refine sX_getI lf_X11_298 tk_11_8 (by decide +kernel) (fun x2 => ?_)
    refine sX_aaloadN (Or.inl rfl) (by decide +kernel) (fun x3 => ?_)
    refine sX_aload_n (i := 0) (by decide +kernel) rfl ?_
    refine sX_getR lf_X11_38 tk_11_4 (by decide +kernel) (fun x4 => ?_)
    refine sX_callVv (As := [.ref x4]) (by decide +kernel) lm_X11_301 mf_X8_copy mi_X8_copy mc_8 (m_X8_copy G l x3 x4 M) (fun _ h => sRc_some h) (by decide) rfl rfl (Nat.le_of_ble_eq_true rfl) (fun M5 => ?_)
    refine sX_aload_n (i := 0) (by decide +kernel) rfl ?_
    refine sX_aload_n (i := 0) (by decide +kernel) rfl ?_
    refine sX_getI lf_X11_298 tk_11_8 (by decide +kernel) (fun x6 => ?_)
    refine sX_iconst (n := 1) (v := (1 : Int32)) (by decide +kernel) (by decide) ?_
    refine sX_iadd (by decide +kernel) ?_
    refine sX_bipush (n := 20) (v := (20 : Int32)) (by decide +kernel) (by decide) ?_
    refine sX_irem (by decide +kernel) (by decide) ?_
    refine sX_putI lf_X11_298 tp_11_8 (by decide +kernel) (by decide) (fun M7 => ?_)
    refine sX_aload_n (i := 0) (by decide +kernel) rfl ?_
    refine sX_bipush (n := 20) (v := (20 : Int32)) (by decide +kernel) (by decide) ?_
    refine sX_aload_n (i := 0) (by decide +kernel) rfl ?_
    refine sX_getI lf_X11_110 tk_11_7 (by decide +kernel) (fun x8 => ?_)
    refine sX_iconst (n := 1) (v := (1 : Int32)) (by decide +kernel) (by decide) ?_
    refine sX_iadd (by decide +kernel) ?_
    refine sX_callSp (As := [.int (20 : Int32), .int (x8 + (1 : Int32))]) (by decide +kernel) lm_X11_344 mf_J9_min_7cf53 ms_J9_min_7cf53 (m_J9_min_7cf53 G l ((20 : Int32)) ((x8 + (1 : Int32))) M7) (by decide) rfl rfl (Nat.le_of_ble_eq_true rfl) (fun x9 => ?_)
    refine sX_putI lf_X11_110 tp_11_7 (by decide +kernel) (by decide) (fun M10 => ?_)
    exact sX_some (fun h _ => sW_vret (by decide +kernel) rfl (hr _ h).1.symm (hr _ h).2.symm)
  refine sX_rc ?_
  refine sX_aload_n (i := 0) (by decide +kernel) rfl ?_
  refine sX_getR lf_X11_45 tk_11_6 (by decide +kernel) (fun x11 => ?_)
  refine sX_aload_n (i := 0) (by decide +kernel) rfl ?_
  refine sX_getI lf_X11_298 tk_11_8 (by decide +kernel) (fun x12 => ?_)
  refine sX_aaload (Or.inl rfl) (by decide +kernel) (fun x13 => ?_)
  refine sX_nonnull (o := 19) (t := 28) (by decide +kernel) (by decide) (fun _ => ?_) (fun _ _ => ?_)
  · refine sX_aload_n (i := 0) (by decide +kernel) rfl ?_
    refine sX_getR lf_X11_45 tk_11_6 (by decide +kernel) (fun x14 => ?_)
    refine sX_aload_n (i := 0) (by decide +kernel) rfl ?_
    refine sX_getI lf_X11_298 tk_11_8 (by decide +kernel) (fun x15 => ?_)
    refine sX_new cw_X11_35 (by decide +kernel) (by decide) ?_
    refine sX_dup (by decide +kernel) rfl ?_
    refine sX_callIv (As := []) (by decide +kernel) lm_X11_37 mf_X8_init mj_X8_init (m_X8_init G l ((sLen M0)) (sNew 8 8 M0)) (by decide) rfl rfl (Nat.le_of_ble_eq_true rfl) (fun M16 => ?_)
    refine sX_aastore (Or.inl ⟨rfl, rfl⟩) (by decide +kernel) (by decide) (fun M17 => ?_)
    exact sX.le (xB28 v0 M17) (sLe_s sLe_e)
  · exact sX.le (xB28 v0 M0) (sLe_s sLe_e)
def f_X11_put_B44 (v0 : Nat) (M : sMem) : Option (Int32 × sMem) :=
  (f_X11_refuse v0 ((2 : Int32)) M).bind fun (x1, M2) =>
  some (((0 : Int32), M2))
def f_X11_put_B41 (v0 : Nat) (v1 : Int32) (s0 : Int32) (s1 : Int32) (M : sMem) : Option (Int32 × sMem) :=
  if s0 = s1 then
    f_X11_put_B44 v0 M
  else
    (f_X11_remember v0 M).bind fun M3 =>
    (gR 11 20 4 M3 v0).bind fun x4 =>
    (gI 8 8 1 M3 x4).bind fun x5 =>
    (pI 8 8 1 M3 x4 ((x5 ^^^ ((1 : Int32) <<< (v1 &&& 31))))).bind fun M6 =>
    some (((1 : Int32), M6))
def f_X11_put (v0 : Nat) (v1 : Int32) (v2 : Int32) (M0 : sMem) : Option (Int32 × sMem) :=
  sRc 11 20 M0 v0 (
    (gR 11 20 2 M0 v0).bind fun x7 =>
    (gR 1 10 1 M0 x7).bind fun x8 =>
    (f_X9_isThere x8 v1 M0).bind fun x9 =>
    if x9 = 0 then
      f_X11_put_B44 v0 M0
    else
      if v2 < 0 then
        f_X11_put_B44 v0 M0
      else
        if (1 : Int32) < v2 then
          f_X11_put_B44 v0 M0
        else
          (gR 11 20 4 M0 v0).bind fun x10 =>
          (f_X8_isUp x10 v1 M0).bind fun x11 =>
          if v2 = (1 : Int32) then
            f_X11_put_B41 v0 v1 x11 ((1 : Int32)) M0
          else
            f_X11_put_B41 v0 v1 x11 ((0 : Int32)) M0)
set_option maxRecDepth 100000 in
set_option maxHeartbeats 4000000 in
theorem m_X11_put (G : sG) (l : Launch) (v0 : Nat) (v1 : Int32) (v2 : Int32) (M0 : sMem) : sC G l 3 yX11_put cX11_put 3 (some .boolean) [.ref v0, .int v1, .int v2] M0 rvI (f_X11_put v0 v1 v2 M0) := by
  refine sC_m (ls := [some (.ref v0), some (.int v1), some (.int v2)]) (by decide +kernel) rfl (Nat.le_of_ble_eq_true rfl) (fun r M' K hr => ?_)
  unfold f_X11_put
  have xB44 : ∀ (v0 : Nat) (M : sMem), sX G l 3 yX11_put cX11_put 3 (some .boolean) M0 r M' 44 [some (.ref v0), none, none] [] M (f_X11_put_B44 v0 M) K := by
    intro v0 M
    unfold f_X11_put_B44
    refine sX_aload_n (i := 0) (by decide +kernel) rfl ?_
    refine sX_iconst (n := 2) (v := (2 : Int32)) (by decide +kernel) (by decide) ?_
    refine sX_callV (As := [.int (2 : Int32)]) (by decide +kernel) lm_X11_92 mf_X11_refuse mi_X11_refuse mc_11 (m_X11_refuse G l v0 ((2 : Int32)) M) (fun _ h => sRc_some h) (by decide) rfl rfl (Nat.le_of_ble_eq_true rfl) (fun x1 M2 _ => ?_)
    refine sX_pop (by decide +kernel) rfl ?_
    refine sX_iconst (n := 0) (v := (0 : Int32)) (by decide +kernel) (by decide) ?_
    exact sX_some (fun h _ => sW_zret (by decide +kernel) rfl (by decide) (hr _ h).1.symm (hr _ h).2.symm)
  have xB41 : ∀ (v0 : Nat) (v1 : Int32) (s0 : Int32) (s1 : Int32) (M : sMem), sX G l 3 yX11_put cX11_put 3 (some .boolean) M0 r M' 41 [some (.ref v0), some (.int v1), none] [.int s1, .int s0] M (f_X11_put_B41 v0 v1 s0 s1 M) K := by
    intro v0 v1 s0 s1 M
    unfold f_X11_put_B41
    refine sX_icne (o := 11) (t := 52) (by decide +kernel) (by decide) (fun _ => ?_) (fun _ => ?_)
    · exact sX.le (xB44 v0 M) (sLe_s (sLe_n (sLe_n sLe_e)))
    · refine sX_aload_n (i := 0) (by decide +kernel) rfl ?_
      refine sX_callVv (As := []) (by decide +kernel) lm_X11_279 mf_X11_remember mi_X11_remember mc_11 (m_X11_remember G l v0 M) (fun _ h => sRc_some h) (by decide) rfl rfl (Nat.le_of_ble_eq_true rfl) (fun M3 => ?_)
      refine sX_aload_n (i := 0) (by decide +kernel) rfl ?_
      refine sX_getR lf_X11_38 tk_11_4 (by decide +kernel) (fun x4 => ?_)
      refine sX_dup (by decide +kernel) rfl ?_
      refine sX_getI lf_X11_149 tk_8_1 (by decide +kernel) (fun x5 => ?_)
      refine sX_iconst (n := 1) (v := (1 : Int32)) (by decide +kernel) (by decide) ?_
      refine sX_iload_n (i := 1) (by decide +kernel) rfl ?_
      refine sX_ishl (by decide +kernel) ?_
      refine sX_ixor (by decide +kernel) ?_
      refine sX_putI lf_X11_149 tp_8_1 (by decide +kernel) (by decide) (fun M6 => ?_)
      refine sX_iconst (n := 1) (v := (1 : Int32)) (by decide +kernel) (by decide) ?_
      exact sX_some (fun h _ => sW_zret (by decide +kernel) rfl (by decide) (hr _ h).1.symm (hr _ h).2.symm)
  refine sX_rc ?_
  refine sX_aload_n (i := 0) (by decide +kernel) rfl ?_
  refine sX_getR lf_X11_28 tk_11_2 (by decide +kernel) (fun x7 => ?_)
  refine sX_getR lf_X11_125 tk_1_1 (by decide +kernel) (fun x8 => ?_)
  refine sX_iload_n (i := 1) (by decide +kernel) rfl ?_
  refine sX_callVp (As := [.int v1]) (by decide +kernel) lm_X11_164 mf_X9_isThere mi_X9_isThere mc_9 (m_X9_isThere G l x8 v1 M0) (fun _ h => sRc_some h) (by decide) rfl rfl (Nat.le_of_ble_eq_true rfl) (fun x9 => ?_)
  refine sX_ifeq (o := 33) (t := 44) (by decide +kernel) (by decide) (fun _ => ?_) (fun _ => ?_)
  · exact sX.le (xB44 v0 M0) (sLe_s (sLe_n (sLe_n sLe_e)))
  · refine sX_iload_n (i := 2) (by decide +kernel) rfl ?_
    refine sX_iflt (o := 29) (t := 44) (by decide +kernel) (by decide) (fun _ => ?_) (fun _ => ?_)
    · exact sX.le (xB44 v0 M0) (sLe_s (sLe_n (sLe_n sLe_e)))
    · refine sX_iload_n (i := 2) (by decide +kernel) rfl ?_
      refine sX_iconst (n := 1) (v := (1 : Int32)) (by decide +kernel) (by decide) ?_
      refine sX_icgt (o := 24) (t := 44) (by decide +kernel) (by decide) (fun _ => ?_) (fun _ => ?_)
      · exact sX.le (xB44 v0 M0) (sLe_s (sLe_n (sLe_n sLe_e)))
      · refine sX_aload_n (i := 0) (by decide +kernel) rfl ?_
        refine sX_getR lf_X11_38 tk_11_4 (by decide +kernel) (fun x10 => ?_)
        refine sX_iload_n (i := 1) (by decide +kernel) rfl ?_
        refine sX_callVp (As := [.int v1]) (by decide +kernel) lm_X11_171 mf_X8_isUp mi_X8_isUp mc_8 (m_X8_isUp G l x10 v1 M0) (fun _ h => sRc_some h) (by decide) rfl rfl (Nat.le_of_ble_eq_true rfl) (fun x11 => ?_)
        refine sX_iload_n (i := 2) (by decide +kernel) rfl ?_
        refine sX_iconst (n := 1) (v := (1 : Int32)) (by decide +kernel) (by decide) ?_
        refine sX_icne (o := 7) (t := 40) (by decide +kernel) (by decide) (fun _ => ?_) (fun _ => ?_)
        · refine sX_iconst (n := 1) (v := (1 : Int32)) (by decide +kernel) (by decide) ?_
          refine sX_goto (o := 4) (t := 41) (by decide +kernel) (by decide) ?_
          exact sX.le (xB41 v0 v1 x11 ((1 : Int32)) M0) (sLe_s (sLe_s (sLe_n sLe_e)))
        · refine sX_iconst (n := 0) (v := (0 : Int32)) (by decide +kernel) (by decide) ?_
          exact sX.le (xB41 v0 v1 x11 ((0 : Int32)) M0) (sLe_s (sLe_s (sLe_n sLe_e)))
