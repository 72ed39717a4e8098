def f_X11_hold_B37 (v0 : Nat) (M : sMem) : Option (Int32 × sMem) :=
  (f_X11_refuse v0 ((2 : Int32)) M).bind fun (x1, M2) =>
  some (((0 : Int32), M2))
def f_X11_hold (v0 : Nat) (v1 : Int32) (v2 : Int32) (M0 : sMem) : Option (Int32 × sMem) :=
  sRc 11 20 M0 v0 (
    (gR 11 20 2 M0 v0).bind fun x3 =>
    (gR 1 10 4 M0 x3).bind fun x4 =>
    (f_X9_isThere x4 v1 M0).bind fun x5 =>
    if x5 = 0 then
      f_X11_hold_B37 v0 M0
    else
      if v2 < 0 then
        f_X11_hold_B37 v0 M0
      else
        if (99 : Int32) < v2 then
          f_X11_hold_B37 v0 M0
        else
          (gR 11 20 4 M0 v0).bind fun x6 =>
          (gR 8 8 2 M0 x6).bind fun x7 =>
          (ldI 14 M0 x7 v1).bind fun x8 =>
          if x8 = v2 then
            f_X11_hold_B37 v0 M0
          else
            (f_X11_remember v0 M0).bind fun M9 =>
            (gR 11 20 4 M9 v0).bind fun x10 =>
            (gR 8 8 2 M9 x10).bind fun x11 =>
            (stI M9 x11 v1 v2).bind fun M12 =>
            some (((1 : Int32), M12)))
set_option maxRecDepth 100000 in
set_option maxHeartbeats 4000000 in
theorem m_X11_hold (G : sG) (l : Launch) (v0 : Nat) (v1 : Int32) (v2 : Int32) (M0 : sMem) : sC G l 3 yX11_hold cX11_hold 3 (some .boolean) [.ref v0, .int v1, .int v2] M0 rvI (f_X11_hold v0 v1 v2 M0) := by
  refine sC_m (ls := [some (.ref v0), some (.int v1), some (.int v2)]) (by decide +kernel) rfl (Nat.le_of_ble_eq_true rfl) (fun r M' K hr => ?_)
  unfold f_X11_hold
  have xB37 : ∀ (v0 : Nat) (M : sMem), sX G l 3 yX11_hold cX11_hold 3 (some .boolean) M0 r M' 37 [some (.ref v0), none, none] [] M (f_X11_hold_B37 v0 M) K := by
    intro v0 M
    unfold f_X11_hold_B37
    refine sX_aload_n (i := 0) (by decide +kernel) rfl ?_
    refine sX_iconst (n := 2) (v := (2 : Int32)) (by decide +kernel) (by decide) ?_
    refine sX_callV (As := [.int (2 : Int32)]) (by decide +kernel) lm_X11_92 mf_X11_refuse mi_X11_refuse mc_11 (m_X11_refuse G l v0 ((2 : Int32)) M) (fun _ h => sRc_some h) (by decide) rfl rfl (Nat.le_of_ble_eq_true rfl) (fun x1 M2 _ => ?_)
    refine sX_pop (by decide +kernel) rfl ?_
    refine sX_iconst (n := 0) (v := (0 : Int32)) (by decide +kernel) (by decide) ?_
    exact sX_some (fun h _ => sW_zret (by decide +kernel) rfl (by decide) (hr _ h).1.symm (hr _ h).2.symm)
  refine sX_rc ?_
  refine sX_aload_n (i := 0) (by decide +kernel) rfl ?_
  refine sX_getR lf_X11_28 tk_11_2 (by decide +kernel) (fun x3 => ?_)
  refine sX_getR lf_X11_140 tk_1_4 (by decide +kernel) (fun x4 => ?_)
  refine sX_iload_n (i := 1) (by decide +kernel) rfl ?_
  refine sX_callVp (As := [.int v1]) (by decide +kernel) lm_X11_164 mf_X9_isThere mi_X9_isThere mc_9 (m_X9_isThere G l x4 v1 M0) (fun _ h => sRc_some h) (by decide) rfl rfl (Nat.le_of_ble_eq_true rfl) (fun x5 => ?_)
  refine sX_ifeq (o := 26) (t := 37) (by decide +kernel) (by decide) (fun _ => ?_) (fun _ => ?_)
  · exact sX.le (xB37 v0 M0) (sLe_s (sLe_n (sLe_n sLe_e)))
  · refine sX_iload_n (i := 2) (by decide +kernel) rfl ?_
    refine sX_iflt (o := 22) (t := 37) (by decide +kernel) (by decide) (fun _ => ?_) (fun _ => ?_)
    · exact sX.le (xB37 v0 M0) (sLe_s (sLe_n (sLe_n sLe_e)))
    · refine sX_iload_n (i := 2) (by decide +kernel) rfl ?_
      refine sX_bipush (n := 99) (v := (99 : Int32)) (by decide +kernel) (by decide) ?_
      refine sX_icgt (o := 16) (t := 37) (by decide +kernel) (by decide) (fun _ => ?_) (fun _ => ?_)
      · exact sX.le (xB37 v0 M0) (sLe_s (sLe_n (sLe_n sLe_e)))
      · refine sX_aload_n (i := 0) (by decide +kernel) rfl ?_
        refine sX_getR lf_X11_38 tk_11_4 (by decide +kernel) (fun x6 => ?_)
        refine sX_getR lf_X11_174 tk_8_2 (by decide +kernel) (fun x7 => ?_)
        refine sX_iload_n (i := 1) (by decide +kernel) rfl ?_
        refine sX_iaload (by decide +kernel) (fun x8 => ?_)
        refine sX_iload_n (i := 2) (by decide +kernel) rfl ?_
        refine sX_icne (o := 11) (t := 45) (by decide +kernel) (by decide) (fun _ => ?_) (fun _ => ?_)
        · exact sX.le (xB37 v0 M0) (sLe_s (sLe_n (sLe_n sLe_e)))
        · refine sX_aload_n (i := 0) (by decide +kernel) rfl ?_
          refine sX_callVv (As := []) (by decide +kernel) lm_X11_279 mf_X11_remember mi_X11_remember mc_11 (m_X11_remember G l v0 M0) (fun _ h => sRc_some h) (by decide) rfl rfl (Nat.le_of_ble_eq_true rfl) (fun M9 => ?_)
          refine sX_aload_n (i := 0) (by decide +kernel) rfl ?_
          refine sX_getR lf_X11_38 tk_11_4 (by decide +kernel) (fun x10 => ?_)
          refine sX_getR lf_X11_174 tk_8_2 (by decide +kernel) (fun x11 => ?_)
          refine sX_iload_n (i := 1) (by decide +kernel) rfl ?_
          refine sX_iload_n (i := 2) (by decide +kernel) rfl ?_
          refine sX_iastore (by decide +kernel) (by decide) (fun M12 => ?_)
          refine sX_iconst (n := 1) (v := (1 : Int32)) (by decide +kernel) (by decide) ?_
          exact sX_some (fun h _ => sW_zret (by decide +kernel) rfl (by decide) (hr _ h).1.symm (hr _ h).2.symm)
def f_X11_send_B54 (v0 : Nat) (M : sMem) : Option (Int32 × sMem) :=
  (f_X11_refuse v0 ((2 : Int32)) M).bind fun (x1, M2) =>
  some (((0 : Int32), M2))
def f_X11_send (v0 : Nat) (v1 : Int32) (v2 : Int32) (M0 : sMem) : Option (Int32 × sMem) :=
  sRc 11 20 M0 v0 (
    (gR 11 20 2 M0 v0).bind fun x3 =>
    (gR 1 10 5 M0 x3).bind fun x4 =>
    (f_X9_isThere x4 v1 M0).bind fun x5 =>
    if x5 = 0 then
      f_X11_send_B54 v0 M0
    else
      (gR 11 20 2 M0 v0).bind fun x6 =>
      (gR 1 10 2 M0 x6).bind fun x7 =>
      (f_X9_isThere x7 v2 M0).bind fun x8 =>
      if x8 = 0 then
        f_X11_send_B54 v0 M0
      else
        (gR 11 20 4 M0 v0).bind fun x9 =>
        (gR 8 8 4 M0 x9).bind fun x10 =>
        (ldI 14 M0 x10 v1).bind fun x11 =>
        if x11 = v2 then
          f_X11_send_B54 v0 M0
        else
          (gR 11 20 4 M0 v0).bind fun x12 =>
          (gR 8 8 3 M0 x12).bind fun x13 =>
          (ldI 14 M0 x13 v1).bind fun x14 =>
          if x14 = v2 then
            f_X11_send_B54 v0 M0
          else
            (f_X11_remember v0 M0).bind fun M15 =>
            (gR 11 20 4 M15 v0).bind fun x16 =>
            (gR 8 8 4 M15 x16).bind fun x17 =>
            (stI M15 x17 v1 v2).bind fun M18 =>
            some (((1 : Int32), M18)))
set_option maxRecDepth 100000 in
set_option maxHeartbeats 4000000 in
theorem m_X11_send (G : sG) (l : Launch) (v0 : Nat) (v1 : Int32) (v2 : Int32) (M0 : sMem) : sC G l 3 yX11_send cX11_send 3 (some .boolean) [.ref v0, .int v1, .int v2] M0 rvI (f_X11_send v0 v1 v2 M0) := by
  refine sC_m (ls := [some (.ref v0), some (.int v1), some (.int v2)]) (by decide +kernel) rfl (Nat.le_of_ble_eq_true rfl) (fun r M' K hr => ?_)
  unfold f_X11_send
  have xB54 : ∀ (v0 : Nat) (M : sMem), sX G l 3 yX11_send cX11_send 3 (some .boolean) M0 r M' 54 [some (.ref v0), none, none] [] M (f_X11_send_B54 v0 M) K := by
    intro v0 M
    unfold f_X11_send_B54
    refine sX_aload_n (i := 0) (by decide +kernel) rfl ?_
    refine sX_iconst (n := 2) (v := (2 : Int32)) (by decide +kernel) (by decide) ?_
    refine sX_callV (As := [.int (2 : Int32)]) (by decide +kernel) lm_X11_92 mf_X11_refuse mi_X11_refuse mc_11 (m_X11_refuse G l v0 ((2 : Int32)) M) (fun _ h => sRc_some h) (by decide) rfl rfl (Nat.le_of_ble_eq_true rfl) (fun x1 M2 _ => ?_)
    refine sX_pop (by decide +kernel) rfl ?_
    refine sX_iconst (n := 0) (v := (0 : Int32)) (by decide +kernel) (by decide) ?_
    exact sX_some (fun h _ => sW_zret (by decide +kernel) rfl (by decide) (hr _ h).1.symm (hr _ h).2.symm)
  refine sX_rc ?_
  refine sX_aload_n (i := 0) (by decide +kernel) rfl ?_
  refine sX_getR lf_X11_28 tk_11_2 (by decide +kernel) (fun x3 => ?_)
  refine sX_getR lf_X11_143 tk_1_5 (by decide +kernel) (fun x4 => ?_)
  refine sX_iload_n (i := 1) (by decide +kernel) rfl ?_
  refine sX_callVp (As := [.int v1]) (by decide +kernel) lm_X11_164 mf_X9_isThere mi_X9_isThere mc_9 (m_X9_isThere G l x4 v1 M0) (fun _ h => sRc_some h) (by decide) rfl rfl (Nat.le_of_ble_eq_true rfl) (fun x5 => ?_)
  refine sX_ifeq (o := 43) (t := 54) (by decide +kernel) (by decide) (fun _ => ?_) (fun _ => ?_)
  · exact sX.le (xB54 v0 M0) (sLe_s (sLe_n (sLe_n sLe_e)))
  · refine sX_aload_n (i := 0) (by decide +kernel) rfl ?_
    refine sX_getR lf_X11_28 tk_11_2 (by decide +kernel) (fun x6 => ?_)
    refine sX_getR lf_X11_134 tk_1_2 (by decide +kernel) (fun x7 => ?_)
    refine sX_iload_n (i := 2) (by decide +kernel) rfl ?_
    refine sX_callVp (As := [.int v2]) (by decide +kernel) lm_X11_164 mf_X9_isThere mi_X9_isThere mc_9 (m_X9_isThere G l x7 v2 M0) (fun _ h => sRc_some h) (by decide) rfl rfl (Nat.le_of_ble_eq_true rfl) (fun x8 => ?_)
    refine sX_ifeq (o := 29) (t := 54) (by decide +kernel) (by decide) (fun _ => ?_) (fun _ => ?_)
    · exact sX.le (xB54 v0 M0) (sLe_s (sLe_n (sLe_n sLe_e)))
    · refine sX_aload_n (i := 0) (by decide +kernel) rfl ?_
      refine sX_getR lf_X11_38 tk_11_4 (by decide +kernel) (fun x9 => ?_)
      refine sX_getR lf_X11_180 tk_8_4 (by decide +kernel) (fun x10 => ?_)
      refine sX_iload_n (i := 1) (by decide +kernel) rfl ?_
      refine sX_iaload (by decide +kernel) (fun x11 => ?_)
      refine sX_iload_n (i := 2) (by decide +kernel) rfl ?_
      refine sX_iceq (o := 16) (t := 54) (by decide +kernel) (by decide) (fun _ => ?_) (fun _ => ?_)
      · exact sX.le (xB54 v0 M0) (sLe_s (sLe_n (sLe_n sLe_e)))
      · refine sX_aload_n (i := 0) (by decide +kernel) rfl ?_
        refine sX_getR lf_X11_38 tk_11_4 (by decide +kernel) (fun x12 => ?_)
        refine sX_getR lf_X11_177 tk_8_3 (by decide +kernel) (fun x13 => ?_)
        refine sX_iload_n (i := 1) (by decide +kernel) rfl ?_
        refine sX_iaload (by decide +kernel) (fun x14 => ?_)
        refine sX_iload_n (i := 2) (by decide +kernel) rfl ?_
        refine sX_icne (o := 11) (t := 62) (by decide +kernel) (by decide) (fun _ => ?_) (fun _ => ?_)
        · exact sX.le (xB54 v0 M0) (sLe_s (sLe_n (sLe_n sLe_e)))
        · refine sX_aload_n (i := 0) (by decide +kernel) rfl ?_
          refine sX_callVv (As := []) (by decide +kernel) lm_X11_279 mf_X11_remember mi_X11_remember mc_11 (m_X11_remember G l v0 M0) (fun _ h => sRc_some h) (by decide) rfl rfl (Nat.le_of_ble_eq_true rfl) (fun M15 => ?_)
          refine sX_aload_n (i := 0) (by decide +kernel) rfl ?_
          refine sX_getR lf_X11_38 tk_11_4 (by decide +kernel) (fun x16 => ?_)
          refine sX_getR lf_X11_180 tk_8_4 (by decide +kernel) (fun x17 => ?_)
          refine sX_iload_n (i := 1) (by decide +kernel) rfl ?_
          refine sX_iload_n (i := 2) (by decide +kernel) rfl ?_
          refine sX_iastore (by decide +kernel) (by decide) (fun M18 => ?_)
          refine sX_iconst (n := 1) (v := (1 : Int32)) (by decide +kernel) (by decide) ?_
          exact sX_some (fun h _ => sW_zret (by decide +kernel) rfl (by decide) (hr _ h).1.symm (hr _ h).2.symm)
def f_X11_canPass (v0 : Nat) (v1 : Int32) (M0 : sMem) : Option Int32 :=
  sRc 11 20 M0 v0 (
    (f_X11_isTold v0 M0).bind fun x1 =>
    if x1 = 0 then
      some ((0 : Int32))
    else
      if v1 < (1 : Int32) then
        some ((0 : Int32))
      else
        if (40 : Int32) < v1 then
          some ((0 : Int32))
        else
          (gR 11 20 4 M0 v0).bind fun x2 =>
          (gI 8 8 0 M0 x2).bind fun x3 =>
          if (999 : Int32) < (x3 + v1) then
            some ((0 : Int32))
          else
            some ((1 : Int32)))
set_option maxRecDepth 100000 in
set_option maxHeartbeats 4000000 in
theorem m_X11_canPass (G : sG) (l : Launch) (v0 : Nat) (v1 : Int32) (M0 : sMem) : sCp G l 2 yX11_canPass cX11_canPass 2 (some .boolean) [.ref v0, .int v1] M0 rvI (f_X11_canPass v0 v1 M0) := by
  refine sC_p (ls := [some (.ref v0), some (.int v1)]) (by decide +kernel) rfl (Nat.le_of_ble_eq_true rfl) (fun r M' K hr => ?_)
  unfold f_X11_canPass
  refine sX_rc ?_
  refine sX_aload_n (i := 0) (by decide +kernel) rfl ?_
  refine sX_callVp (As := []) (by decide +kernel) lm_X11_249 mf_X11_isTold mi_X11_isTold mc_11 (m_X11_isTold G l v0 M0) (fun _ h => sRc_some h) (by decide) rfl rfl (Nat.le_of_ble_eq_true rfl) (fun x1 => ?_)
  refine sX_ifeq (o := 33) (t := 37) (by decide +kernel) (by decide) (fun _ => ?_) (fun _ => ?_)
  · refine sX_iconst (n := 0) (v := (0 : Int32)) (by decide +kernel) (by decide) ?_
    exact sX_some (fun h _ => sW_zret (by decide +kernel) rfl (by decide) (hr _ h).1.symm (hr _ h).2.symm)
  · refine sX_iload_n (i := 1) (by decide +kernel) rfl ?_
    refine sX_iconst (n := 1) (v := (1 : Int32)) (by decide +kernel) (by decide) ?_
    refine sX_iclt (o := 28) (t := 37) (by decide +kernel) (by decide) (fun _ => ?_) (fun _ => ?_)
    · refine sX_iconst (n := 0) (v := (0 : Int32)) (by decide +kernel) (by decide) ?_
      exact sX_some (fun h _ => sW_zret (by decide +kernel) rfl (by decide) (hr _ h).1.symm (hr _ h).2.symm)
    · refine sX_iload_n (i := 1) (by decide +kernel) rfl ?_
      refine sX_bipush (n := 40) (v := (40 : Int32)) (by decide +kernel) (by decide) ?_
      refine sX_icgt (o := 22) (t := 37) (by decide +kernel) (by decide) (fun _ => ?_) (fun _ => ?_)
      · refine sX_iconst (n := 0) (v := (0 : Int32)) (by decide +kernel) (by decide) ?_
        exact sX_some (fun h _ => sW_zret (by decide +kernel) rfl (by decide) (hr _ h).1.symm (hr _ h).2.symm)
      · refine sX_aload_n (i := 0) (by decide +kernel) rfl ?_
        refine sX_getR lf_X11_38 tk_11_4 (by decide +kernel) (fun x2 => ?_)
        refine sX_getI lf_X11_146 tk_8_0 (by decide +kernel) (fun x3 => ?_)
        refine sX_iload_n (i := 1) (by decide +kernel) rfl ?_
        refine sX_iadd (by decide +kernel) ?_
        refine sX_sipush (n := 999) (v := (999 : Int32)) (by decide +kernel) (by decide) ?_
        refine sX_icgt (o := 7) (t := 37) (by decide +kernel) (by decide) (fun _ => ?_) (fun _ => ?_)
        · refine sX_iconst (n := 0) (v := (0 : Int32)) (by decide +kernel) (by decide) ?_
          exact sX_some (fun h _ => sW_zret (by decide +kernel) rfl (by decide) (hr _ h).1.symm (hr _ h).2.symm)
        · refine sX_iconst (n := 1) (v := (1 : Int32)) (by decide +kernel) (by decide) ?_
          refine sX_goto (o := 4) (t := 38) (by decide +kernel) (by decide) ?_
          exact sX_some (fun h _ => sW_zret (by decide +kernel) rfl (by decide) (hr _ h).1.symm (hr _ h).2.symm)
def f_X11_days_K22 (v0 : Nat) (v1 : Int32) (v2 : Int32) (v3 : Int32) (M : sMem) : Option ((Int32 × Int32 × sMem) ⊕ (((Int32 × sMem)))) :=
  if v1 ≤ v3 then
    some (.inr ((v2, M)))
  else
    (gR 11 20 9 M v0).bind fun x1 =>
    (gR 11 20 4 M v0).bind fun x2 =>
    (f_X0_pass x1 x2 M).bind fun (x3, M4) =>
    some (.inl ((((v2 + x3)), ((v3 + (1 : Int32))), M4)))
def f_X11_days_L22 (v0 : Nat) (v1 : Int32) (v2 : Int32) (v3 : Int32) (M : sMem) : Option (Int32 × sMem) :=
  (sItr (fun a : (Int32 × Int32 × sMem) => f_X11_days_K22 v0 v1 a.1 a.2.1 a.2.2) sFuel (v2, v3, M)).bind (fun b => some b)
def f_X11_days (v0 : Nat) (v1 : Int32) (M0 : sMem) : Option (Int32 × sMem) :=
  sRc 11 20 M0 v0 (
    (f_X11_canPass v0 v1 M0).bind fun x5 =>
    if x5 = 0 then
      (f_X11_refuse v0 ((3 : Int32)) M0).bind fun (x6, M7) =>
      some ((x6, M7))
    else
      (f_X11_remember v0 M0).bind fun M8 =>
      f_X11_days_L22 v0 v1 ((0 : Int32)) ((0 : Int32)) M8)
set_option maxRecDepth 100000 in
set_option maxHeartbeats 4000000 in
theorem m_X11_days (G : sG) (l : Launch) (v0 : Nat) (v1 : Int32) (M0 : sMem) : sC G l 7 yX11_days cX11_days 4 (some .int) [.ref v0, .int v1] M0 rvI (f_X11_days v0 v1 M0) := by
  refine sC_m (ls := [some (.ref v0), some (.int v1), none, none]) (by decide +kernel) rfl (Nat.le_of_ble_eq_true rfl) (fun r M' K hr => ?_)
  unfold f_X11_days
  have xL22 : ∀ (v0 : Nat) (v1 : Int32) (v2 : Int32) (v3 : Int32) (M : sMem), sX G l 7 yX11_days cX11_days 4 (some .int) M0 r M' 22 [some (.ref v0), some (.int v1), some (.int v2), some (.int v3)] [] M (f_X11_days_L22 v0 v1 v2 v3 M) K := by
    intro v0 v1 v2 v3 M
    unfold f_X11_days_L22
    refine sX_bind ?_
    refine sX_loop (LS := fun a : (Int32 × Int32 × sMem) => [some (.ref v0), some (.int v1), some (.int a.1), some (.int a.2.1)]) (MM := fun a => a.2.2) (fun K1 hb1 he1 => ?_) sFuel ((v2, v3, M))
    have xK22 : ∀ (v2 : Int32) (v3 : Int32) (M : sMem), sX G l 7 yX11_days cX11_days 4 (some .int) M0 r M' 22 [some (.ref v0), some (.int v1), some (.int v2), some (.int v3)] [] M (f_X11_days_K22 v0 v1 v2 v3 M) K1 := by
      intro v2 v3 M
      unfold f_X11_days_K22
      refine sX_iload_n (i := 3) (by decide +kernel) rfl ?_
      refine sX_iload_n (i := 1) (by decide +kernel) rfl ?_
      refine sX_icge (o := 23) (t := 47) (by decide +kernel) (by decide) (fun _ => ?_) (fun _ => ?_)
      · refine sX_iload_n (i := 2) (by decide +kernel) rfl ?_
        refine sX_exit he1 ?_
        exact sX_some (fun h _ => sW_iret (by decide +kernel) rfl (hr _ h).1.symm (hr _ h).2.symm)
      · refine sX_iload_n (i := 2) (by decide +kernel) rfl ?_
        refine sX_aload_n (i := 0) (by decide +kernel) rfl ?_
        refine sX_getR lf_X11_54 tk_11_9 (by decide +kernel) (fun x1 => ?_)
        refine sX_aload_n (i := 0) (by decide +kernel) rfl ?_
        refine sX_getR lf_X11_38 tk_11_4 (by decide +kernel) (fun x2 => ?_)
        refine sX_callV (As := [.ref x2]) (by decide +kernel) lm_X11_285 mf_X0_pass mi_X0_pass mc_0 (m_X0_pass G l x1 x2 M) (fun _ h => sRc_some h) (by decide) rfl rfl (Nat.le_of_ble_eq_true rfl) (fun x3 M4 _ => ?_)
        refine sX_iadd (by decide +kernel) ?_
        refine sX_istore_n (i := 2) (ls2 := [some (.ref v0), some (.int v1), some (.int (v2 + x3)), some (.int v3)]) (by decide +kernel) (by decide) rfl ?_
        refine sX_iinc (i := 3) (n := 1) (v := v3 + (1 : Int32)) (ls2 := [some (.ref v0), some (.int v1), some (.int (v2 + x3)), some (.int (v3 + (1 : Int32)))]) (by decide +kernel) rfl rfl (by decide) rfl ?_
        refine sX_goto (o := -22) (t := 22) (by decide +kernel) (by decide) ?_
        exact sX_back (a := (((v2 + x3)), ((v3 + (1 : Int32))), M4)) hb1 rfl (sLe_s (sLe_s (sLe_s (sLe_s sLe_e))))
    exact fun a => xK22 a.1 a.2.1 a.2.2
  refine sX_rc ?_
  refine sX_aload_n (i := 0) (by decide +kernel) rfl ?_
  refine sX_iload_n (i := 1) (by decide +kernel) rfl ?_
  refine sX_callVp (As := [.int v1]) (by decide +kernel) lm_X11_282 mf_X11_canPass mi_X11_canPass mc_11 (m_X11_canPass G l v0 v1 M0) (fun _ h => sRc_some h) (by decide) rfl rfl (Nat.le_of_ble_eq_true rfl) (fun x5 => ?_)
  refine sX_ifne (o := 9) (t := 14) (by decide +kernel) (by decide) (fun _ => ?_) (fun _ => ?_)
  · refine sX_aload_n (i := 0) (by decide +kernel) rfl ?_
    refine sX_iconst (n := 3) (v := (3 : Int32)) (by decide +kernel) (by decide) ?_
    refine sX_callV (As := [.int (3 : Int32)]) (by decide +kernel) lm_X11_92 mf_X11_refuse mi_X11_refuse mc_11 (m_X11_refuse G l v0 ((3 : Int32)) M0) (fun _ h => sRc_some h) (by decide) rfl rfl (Nat.le_of_ble_eq_true rfl) (fun x6 M7 _ => ?_)
    exact sX_some (fun h _ => sW_iret (by decide +kernel) rfl (hr _ h).1.symm (hr _ h).2.symm)
  · refine sX_aload_n (i := 0) (by decide +kernel) rfl ?_
    refine sX_callVv (As := []) (by decide +kernel) lm_X11_279 mf_X11_remember mi_X11_remember mc_11 (m_X11_remember G l v0 M0) (fun _ h => sRc_some h) (by decide) rfl rfl (Nat.le_of_ble_eq_true rfl) (fun M8 => ?_)
    refine sX_iconst (n := 0) (v := (0 : Int32)) (by decide +kernel) (by decide) ?_
    refine sX_istore_n (i := 2) (ls2 := [some (.ref v0), some (.int v1), some (.int (0 : Int32)), none]) (by decide +kernel) (by decide) rfl ?_
    refine sX_iconst (n := 0) (v := (0 : Int32)) (by decide +kernel) (by decide) ?_
    refine sX_istore_n (i := 3) (ls2 := [some (.ref v0), some (.int v1), some (.int (0 : Int32)), some (.int (0 : Int32))]) (by decide +kernel) (by decide) rfl ?_
    exact sX.le (xL22 v0 v1 ((0 : Int32)) ((0 : Int32)) M8) (sLe_s (sLe_s (sLe_s (sLe_s sLe_e))))
def f_X11_draw (v0 : Nat) (v1 : Int32) (M0 : sMem) : Option (Int32 × sMem) :=
  sRc 11 20 M0 v0 (
    (gI 11 20 19 M0 v0).bind fun x1 =>
    (pI 11 20 19 M0 v0 (((((1103515245 : Int32) * x1) + (12345 : Int32)) &&& (2147483647 : Int32)))).bind fun M2 =>
    if v1 ≤ 0 then
      some (((0 : Int32), M2))
    else
      (gI 11 20 19 M2 v0).bind fun x3 =>
      if v1 = 0 then none else
      some ((((x3 / (64 : Int32)) - (x3 / (64 : Int32)) / v1 * v1), M2)))
set_option maxRecDepth 100000 in
set_option maxHeartbeats 4000000 in
theorem m_X11_draw (G : sG) (l : Launch) (v0 : Nat) (v1 : Int32) (M0 : sMem) : sC G l 1 yX11_draw cX11_draw 2 (some .int) [.ref v0, .int v1] M0 rvI (f_X11_draw v0 v1 M0) := by
  refine sC_m (ls := [some (.ref v0), some (.int v1)]) (by decide +kernel) rfl (Nat.le_of_ble_eq_true rfl) (fun r M' K hr => ?_)
  unfold f_X11_draw
  refine sX_rc ?_
  refine sX_aload_n (i := 0) (by decide +kernel) rfl ?_
  refine sX_ldcw (v := (1103515245 : Int32)) (by decide +kernel) kc_X11_347 ?_
  refine sX_aload_n (i := 0) (by decide +kernel) rfl ?_
  refine sX_getI lf_X11_85 tk_11_19 (by decide +kernel) (fun x1 => ?_)
  refine sX_imul (by decide +kernel) ?_
  refine sX_sipush (n := 12345) (v := (12345 : Int32)) (by decide +kernel) (by decide) ?_
  refine sX_iadd (by decide +kernel) ?_
  refine sX_ldcw (v := (2147483647 : Int32)) (by decide +kernel) kc_X11_348 ?_
  refine sX_iand (by decide +kernel) ?_
  refine sX_putI lf_X11_85 tp_11_19 (by decide +kernel) (by decide) (fun M2 => ?_)
  refine sX_iload_n (i := 1) (by decide +kernel) rfl ?_
  refine sX_ifle (o := 15) (t := 36) (by decide +kernel) (by decide) (fun _ => ?_) (fun _ => ?_)
  · refine sX_iconst (n := 0) (v := (0 : Int32)) (by decide +kernel) (by decide) ?_
    exact sX_some (fun h _ => sW_iret (by decide +kernel) rfl (hr _ h).1.symm (hr _ h).2.symm)
  · refine sX_aload_n (i := 0) (by decide +kernel) rfl ?_
    refine sX_getI lf_X11_85 tk_11_19 (by decide +kernel) (fun x3 => ?_)
    refine sX_bipush (n := 64) (v := (64 : Int32)) (by decide +kernel) (by decide) ?_
    refine sX_idiv (by decide +kernel) (by decide) ?_
    refine sX_iload_n (i := 1) (by decide +kernel) rfl ?_
    refine sX_if (fun _ => sX_none) (fun hz => ?_)
    refine sX_irem (by decide +kernel) hz ?_
    refine sX_goto (o := 4) (t := 37) (by decide +kernel) (by decide) ?_
    exact sX_some (fun h _ => sW_iret (by decide +kernel) rfl (hr _ h).1.symm (hr _ h).2.symm)
def f_X11_letPigsOut (v0 : Nat) (M0 : sMem) : Option sMem :=
  sRc 11 20 M0 v0 (
    (gR 11 20 2 M0 v0).bind fun x1 =>
    (gR 1 10 4 M0 x1).bind fun x2 =>
    (gI 9 4 3 M0 x2).bind fun x3 =>
    (f_X11_draw v0 x3 M0).bind fun (x4, M5) =>
    (gR 11 20 4 M5 v0).bind fun x6 =>
    (gR 8 8 2 M5 x6).bind fun x7 =>
    (gR 11 20 4 M5 v0).bind fun x8 =>
    (gR 8 8 2 M5 x8).bind fun x9 =>
    (ldI 14 M5 x9 x4).bind fun x10 =>
    (f_X11_draw v0 ((20 : Int32)) M5).bind fun (x11, M12) =>
    (f_J9_min_7cf53 ((99 : Int32)) ((x10 + x11)) M12).bind fun x13 =>
    (stI M12 x7 x4 x13).bind fun M14 =>
    some M14)
set_option maxRecDepth 100000 in
set_option maxHeartbeats 4000000 in
theorem m_X11_letPigsOut (G : sG) (l : Launch) (v0 : Nat) (M0 : sMem) : sCv G l 2 yX11_letPigsOut cX11_letPigsOut 2 none [.ref v0] M0 (f_X11_letPigsOut v0 M0) := by
  refine sC_v (ls := [some (.ref v0), none]) (by decide +kernel) rfl (Nat.le_of_ble_eq_true rfl) (fun r M' K hr => ?_)
  unfold f_X11_letPigsOut
  refine sX_rc ?_
  refine sX_aload_n (i := 0) (by decide +kernel) rfl ?_
  refine sX_aload_n (i := 0) (by decide +kernel) rfl ?_
  refine sX_getR lf_X11_28 tk_11_2 (by decide +kernel) (fun x1 => ?_)
  refine sX_getR lf_X11_140 tk_1_4 (by decide +kernel) (fun x2 => ?_)
  refine sX_getI lf_X11_129 tk_9_3 (by decide +kernel) (fun x3 => ?_)
  refine sX_callV (As := [.int x3]) (by decide +kernel) lm_X11_289 mf_X11_draw mi_X11_draw mc_11 (m_X11_draw G l v0 x3 M0) (fun _ h => sRc_some h) (by decide) rfl rfl (Nat.le_of_ble_eq_true rfl) (fun x4 M5 _ => ?_)
  refine sX_istore_n (i := 1) (ls2 := [some (.ref v0), some (.int x4)]) (by decide +kernel) (by decide) rfl ?_
  refine sX_aload_n (i := 0) (by decide +kernel) rfl ?_
  refine sX_getR lf_X11_38 tk_11_4 (by decide +kernel) (fun x6 => ?_)
  refine sX_getR lf_X11_174 tk_8_2 (by decide +kernel) (fun x7 => ?_)
  refine sX_iload_n (i := 1) (by decide +kernel) rfl ?_
  refine sX_bipush (n := 99) (v := (99 : Int32)) (by decide +kernel) (by decide) ?_
  refine sX_aload_n (i := 0) (by decide +kernel) rfl ?_
  refine sX_getR lf_X11_38 tk_11_4 (by decide +kernel) (fun x8 => ?_)
  refine sX_getR lf_X11_174 tk_8_2 (by decide +kernel) (fun x9 => ?_)
  refine sX_iload_n (i := 1) (by decide +kernel) rfl ?_
  refine sX_iaload (by decide +kernel) (fun x10 => ?_)
  refine sX_aload_n (i := 0) (by decide +kernel) rfl ?_
  refine sX_bipush (n := 20) (v := (20 : Int32)) (by decide +kernel) (by decide) ?_
  refine sX_callV (As := [.int (20 : Int32)]) (by decide +kernel) lm_X11_289 mf_X11_draw mi_X11_draw mc_11 (m_X11_draw G l v0 ((20 : Int32)) M5) (fun _ h => sRc_some h) (by decide) rfl rfl (Nat.le_of_ble_eq_true rfl) (fun x11 M12 _ => ?_)
  refine sX_iadd (by decide +kernel) ?_
  refine sX_callSp (As := [.int (99 : Int32), .int (x10 + x11)]) (by decide +kernel) lm_X11_344 mf_J9_min_7cf53 ms_J9_min_7cf53 (m_J9_min_7cf53 G l ((99 : Int32)) ((x10 + x11)) M12) (by decide) rfl rfl (Nat.le_of_ble_eq_true rfl) (fun x13 => ?_)
  refine sX_iastore (by decide +kernel) (by decide) (fun M14 => ?_)
  exact sX_some (fun h _ => sW_vret (by decide +kernel) rfl (hr _ h).1.symm (hr _ h).2.symm)
def f_X11_chance_B63 (v0 : Nat) (v1 : Int32) (v2 : Int32) (v3 : Int32) (M : sMem) : Option ((Int32 × Int32 × sMem) ⊕ (((Int32 × sMem)))) :=
  (gR 11 20 9 M v0).bind fun x1 =>
  (gR 11 20 4 M v0).bind fun x2 =>
  (f_X0_pass x1 x2 M).bind fun (x3, M4) =>
  some (.inl ((v2, ((v3 + (1 : Int32))), M4)))
def f_X11_chance_K22 (v0 : Nat) (v1 : Int32) (v2 : Int32) (v3 : Int32) (M : sMem) : Option ((Int32 × Int32 × sMem) ⊕ (((Int32 × sMem)))) :=
  if v1 ≤ v3 then
    some (.inr ((v2, M)))
  else
    (f_X11_draw v0 ((100 : Int32)) M).bind fun (x5, M6) =>
    (gR 11 20 2 M6 v0).bind fun x7 =>
    (gI 1 10 9 M6 x7).bind fun x8 =>
    if x8 ≤ x5 then
      f_X11_chance_B63 v0 v1 v2 v3 M6
    else
      (gR 11 20 2 M6 v0).bind fun x9 =>
      (gR 1 10 4 M6 x9).bind fun x10 =>
      (gI 9 4 3 M6 x10).bind fun x11 =>
      if x11 ≤ 0 then
        f_X11_chance_B63 v0 v1 v2 v3 M6
      else
        (f_X11_letPigsOut v0 M6).bind fun M12 =>
        f_X11_chance_B63 v0 v1 ((v2 + (1 : Int32))) v3 M12
def f_X11_chance_L22 (v0 : Nat) (v1 : Int32) (v2 : Int32) (v3 : Int32) (M : sMem) : Option (Int32 × sMem) :=
  (sItr (fun a : (Int32 × Int32 × sMem) => f_X11_chance_K22 v0 v1 a.1 a.2.1 a.2.2) sFuel (v2, v3, M)).bind (fun b => some b)
def f_X11_chance (v0 : Nat) (v1 : Int32) (M0 : sMem) : Option (Int32 × sMem) :=
  sRc 11 20 M0 v0 (
    (f_X11_canPass v0 v1 M0).bind fun x13 =>
    if x13 = 0 then
      (f_X11_refuse v0 ((3 : Int32)) M0).bind fun (x14, M15) =>
      some ((x14, M15))
    else
      (f_X11_remember v0 M0).bind fun M16 =>
      f_X11_chance_L22 v0 v1 ((0 : Int32)) ((0 : Int32)) M16)
set_option maxRecDepth 100000 in
set_option maxHeartbeats 4000000 in
theorem m_X11_chance (G : sG) (l : Launch) (v0 : Nat) (v1 : Int32) (M0 : sMem) : sC G l 7 yX11_chance cX11_chance 4 (some .int) [.ref v0, .int v1] M0 rvI (f_X11_chance v0 v1 M0) := by
  refine sC_m (ls := [some (.ref v0), some (.int v1), none, none]) (by decide +kernel) rfl (Nat.le_of_ble_eq_true rfl) (fun r M' K hr => ?_)
  unfold f_X11_chance
  have xL22 : ∀ (v0 : Nat) (v1 : Int32) (v2 : Int32) (v3 : Int32) (M : sMem), sX G l 7 yX11_chance cX11_chance 4 (some .int) M0 r M' 22 [some (.ref v0), some (.int v1), some (.int v2), some (.int v3)] [] M (f_X11_chance_L22 v0 v1 v2 v3 M) K := by
    intro v0 v1 v2 v3 M
    unfold f_X11_chance_L22
    refine sX_bind ?_
    refine sX_loop (LS := fun a : (Int32 × Int32 × sMem) => [some (.ref v0), some (.int v1), some (.int a.1), some (.int a.2.1)]) (MM := fun a => a.2.2) (fun K1 hb1 he1 => ?_) sFuel ((v2, v3, M))
    have xB63 : ∀ (v2 : Int32) (v3 : Int32) (M : sMem), sX G l 7 yX11_chance cX11_chance 4 (some .int) M0 r M' 63 [some (.ref v0), some (.int v1), some (.int v2), some (.int v3)] [] M (f_X11_chance_B63 v0 v1 v2 v3 M) K1 := by
      intro v2 v3 M
      unfold f_X11_chance_B63
      refine sX_aload_n (i := 0) (by decide +kernel) rfl ?_
      refine sX_getR lf_X11_54 tk_11_9 (by decide +kernel) (fun x1 => ?_)
      refine sX_aload_n (i := 0) (by decide +kernel) rfl ?_
      refine sX_getR lf_X11_38 tk_11_4 (by decide +kernel) (fun x2 => ?_)
      refine sX_callV (As := [.ref x2]) (by decide +kernel) lm_X11_285 mf_X0_pass mi_X0_pass mc_0 (m_X0_pass G l x1 x2 M) (fun _ h => sRc_some h) (by decide) rfl rfl (Nat.le_of_ble_eq_true rfl) (fun x3 M4 _ => ?_)
      refine sX_pop (by decide +kernel) rfl ?_
      refine sX_iinc (i := 3) (n := 1) (v := v3 + (1 : Int32)) (ls2 := [some (.ref v0), some (.int v1), some (.int v2), some (.int (v3 + (1 : Int32)))]) (by decide +kernel) rfl rfl (by decide) rfl ?_
      refine sX_goto (o := -56) (t := 22) (by decide +kernel) (by decide) ?_
      exact sX_back (a := (v2, ((v3 + (1 : Int32))), M4)) hb1 rfl (sLe_s (sLe_s (sLe_s (sLe_s sLe_e))))
    have xK22 : ∀ (v2 : Int32) (v3 : Int32) (M : sMem), sX G l 7 yX11_chance cX11_chance 4 (some .int) M0 r M' 22 [some (.ref v0), some (.int v1), some (.int v2), some (.int v3)] [] M (f_X11_chance_K22 v0 v1 v2 v3 M) K1 := by
      intro v2 v3 M
      unfold f_X11_chance_K22
      refine sX_iload_n (i := 3) (by decide +kernel) rfl ?_
      refine sX_iload_n (i := 1) (by decide +kernel) rfl ?_
      refine sX_icge (o := 57) (t := 81) (by decide +kernel) (by decide) (fun _ => ?_) (fun _ => ?_)
      · refine sX_iload_n (i := 2) (by decide +kernel) rfl ?_
        refine sX_exit he1 ?_
        exact sX_some (fun h _ => sW_iret (by decide +kernel) rfl (hr _ h).1.symm (hr _ h).2.symm)
      · refine sX_aload_n (i := 0) (by decide +kernel) rfl ?_
        refine sX_bipush (n := 100) (v := (100 : Int32)) (by decide +kernel) (by decide) ?_
        refine sX_callV (As := [.int (100 : Int32)]) (by decide +kernel) lm_X11_289 mf_X11_draw mi_X11_draw mc_11 (m_X11_draw G l v0 ((100 : Int32)) M) (fun _ h => sRc_some h) (by decide) rfl rfl (Nat.le_of_ble_eq_true rfl) (fun x5 M6 _ => ?_)
        refine sX_aload_n (i := 0) (by decide +kernel) rfl ?_
        refine sX_getR lf_X11_28 tk_11_2 (by decide +kernel) (fun x7 => ?_)
        refine sX_getI lf_X11_292 tk_1_9 (by decide +kernel) (fun x8 => ?_)
        refine sX_icge (o := 23) (t := 63) (by decide +kernel) (by decide) (fun _ => ?_) (fun _ => ?_)
        · exact sX.le (xB63 v2 v3 M6) (sLe_s (sLe_s (sLe_s (sLe_s sLe_e))))
        · refine sX_aload_n (i := 0) (by decide +kernel) rfl ?_
          refine sX_getR lf_X11_28 tk_11_2 (by decide +kernel) (fun x9 => ?_)
          refine sX_getR lf_X11_140 tk_1_4 (by decide +kernel) (fun x10 => ?_)
          refine sX_getI lf_X11_129 tk_9_3 (by decide +kernel) (fun x11 => ?_)
          refine sX_ifle (o := 10) (t := 63) (by decide +kernel) (by decide) (fun _ => ?_) (fun _ => ?_)
          · exact sX.le (xB63 v2 v3 M6) (sLe_s (sLe_s (sLe_s (sLe_s sLe_e))))
          · refine sX_iinc (i := 2) (n := 1) (v := v2 + (1 : Int32)) (ls2 := [some (.ref v0), some (.int v1), some (.int (v2 + (1 : Int32))), some (.int v3)]) (by decide +kernel) rfl rfl (by decide) rfl ?_
            refine sX_aload_n (i := 0) (by decide +kernel) rfl ?_
            refine sX_callVv (As := []) (by decide +kernel) lm_X11_295 mf_X11_letPigsOut mi_X11_letPigsOut mc_11 (m_X11_letPigsOut G l v0 M6) (fun _ h => sRc_some h) (by decide) rfl rfl (Nat.le_of_ble_eq_true rfl) (fun M12 => ?_)
            exact sX.le (xB63 ((v2 + (1 : Int32))) v3 M12) (sLe_s (sLe_s (sLe_s (sLe_s sLe_e))))
    exact fun a => xK22 a.1 a.2.1 a.2.2
  refine sX_rc ?_
  refine sX_aload_n (i := 0) (by decide +kernel) rfl ?_
  refine sX_iload_n (i := 1) (by decide +kernel) rfl ?_
  refine sX_callVp (As := [.int v1]) (by decide +kernel) lm_X11_282 mf_X11_canPass mi_X11_canPass mc_11 (m_X11_canPass G l v0 v1 M0) (fun _ h => sRc_some h) (by decide) rfl rfl (Nat.le_of_ble_eq_true rfl) (fun x13 => ?_)
  refine sX_ifne (o := 9) (t := 14) (by decide +kernel) (by decide) (fun _ => ?_) (fun _ => ?_)
  · refine sX_aload_n (i := 0) (by decide +kernel) rfl ?_
    refine sX_iconst (n := 3) (v := (3 : Int32)) (by decide +kernel) (by decide) ?_
    refine sX_callV (As := [.int (3 : Int32)]) (by decide +kernel) lm_X11_92 mf_X11_refuse mi_X11_refuse mc_11 (m_X11_refuse G l v0 ((3 : Int32)) M0) (fun _ h => sRc_some h) (by decide) rfl rfl (Nat.le_of_ble_eq_true rfl) (fun x14 M15 _ => ?_)
    exact sX_some (fun h _ => sW_iret (by decide +kernel) rfl (hr _ h).1.symm (hr _ h).2.symm)
  · refine sX_aload_n (i := 0) (by decide +kernel) rfl ?_
    refine sX_callVv (As := []) (by decide +kernel) lm_X11_279 mf_X11_remember mi_X11_remember mc_11 (m_X11_remember G l v0 M0) (fun _ h => sRc_some h) (by decide) rfl rfl (Nat.le_of_ble_eq_true rfl) (fun M16 => ?_)
    refine sX_iconst (n := 0) (v := (0 : Int32)) (by decide +kernel) (by decide) ?_
    refine sX_istore_n (i := 2) (ls2 := [some (.ref v0), some (.int v1), some (.int (0 : Int32)), none]) (by decide +kernel) (by decide) rfl ?_
    refine sX_iconst (n := 0) (v := (0 : Int32)) (by decide +kernel) (by decide) ?_
    refine sX_istore_n (i := 3) (ls2 := [some (.ref v0), some (.int v1), some (.int (0 : Int32)), some (.int (0 : Int32))]) (by decide +kernel) (by decide) rfl ?_
    exact sX.le (xL22 v0 v1 ((0 : Int32)) ((0 : Int32)) M16) (sLe_s (sLe_s (sLe_s (sLe_s sLe_e))))
def f_X11_undo_B29 (v0 : Nat) (M : sMem) : Option (Int32 × sMem) :=
  (f_X11_refuse v0 ((4 : Int32)) M).bind fun (x1, M2) =>
  some (((0 : Int32), M2))
def f_X11_undo (v0 : Nat) (M0 : sMem) : Option (Int32 × sMem) :=
  sRc 11 20 M0 v0 (
    (gI 11 20 8 M0 v0).bind fun x3 =>
    (gI 11 20 7 M0 v0).bind fun x4 =>
    if x4 = 0 then
      f_X11_undo_B29 v0 M0
    else
      (gR 11 20 6 M0 v0).bind fun x5 =>
      (ldR 17 M0 x5 ((((x3 + (20 : Int32)) - (1 : Int32)) - ((x3 + (20 : Int32)) - (1 : Int32)) / (20 : Int32) * (20 : Int32)))).bind fun x6 =>
      match x6 with
      | none =>
        f_X11_undo_B29 v0 M0
      | some _ =>
        (gI 11 20 7 M0 v0).bind fun x8 =>
        (pI 11 20 7 M0 v0 ((x8 - (1 : Int32)))).bind fun M9 =>
        (pI 11 20 8 M9 v0 ((((x3 + (20 : Int32)) - (1 : Int32)) - ((x3 + (20 : Int32)) - (1 : Int32)) / (20 : Int32) * (20 : Int32)))).bind fun M10 =>
        (gR 11 20 4 M10 v0).bind fun x11 =>
        (gR 11 20 6 M10 v0).bind fun x12 =>
        (ldN 17 M10 x12 ((((x3 + (20 : Int32)) - (1 : Int32)) - ((x3 + (20 : Int32)) - (1 : Int32)) / (20 : Int32) * (20 : Int32)))).bind fun x13 =>
        (f_X8_copy x11 x13 M10).bind fun M14 =>
        some (((1 : Int32), M14)))
set_option maxRecDepth 100000 in
set_option maxHeartbeats 4000000 in
theorem m_X11_undo (G : sG) (l : Launch) (v0 : Nat) (M0 : sMem) : sC G l 2 yX11_undo cX11_undo 2 (some .boolean) [.ref v0] M0 rvI (f_X11_undo v0 M0) := by
  refine sC_m (ls := [some (.ref v0), none]) (by decide +kernel) rfl (Nat.le_of_ble_eq_true rfl) (fun r M' K hr => ?_)
  unfold f_X11_undo
  have xB29 : ∀ (v0 : Nat) (M : sMem), sX G l 2 yX11_undo cX11_undo 2 (some .boolean) M0 r M' 29 [some (.ref v0), none] [] M (f_X11_undo_B29 v0 M) K := by
    intro v0 M
    unfold f_X11_undo_B29
    refine sX_aload_n (i := 0) (by decide +kernel) rfl ?_
    refine sX_iconst (n := 4) (v := (4 : Int32)) (by decide +kernel) (by decide) ?_
    refine sX_callV (As := [.int (4 : Int32)]) (by decide +kernel) lm_X11_92 mf_X11_refuse mi_X11_refuse mc_11 (m_X11_refuse G l v0 ((4 : Int32)) M) (fun _ h => sRc_some h) (by decide) rfl rfl (Nat.le_of_ble_eq_true rfl) (fun x1 M2 _ => ?_)
    refine sX_pop (by decide +kernel) rfl ?_
    refine sX_iconst (n := 0) (v := (0 : Int32)) (by decide +kernel) (by decide) ?_
    exact sX_some (fun h _ => sW_zret (by decide +kernel) rfl (by decide) (hr _ h).1.symm (hr _ h).2.symm)
  refine sX_rc ?_
  refine sX_aload_n (i := 0) (by decide +kernel) rfl ?_
  refine sX_getI lf_X11_298 tk_11_8 (by decide +kernel) (fun x3 => ?_)
  refine sX_bipush (n := 20) (v := (20 : Int32)) (by decide +kernel) (by decide) ?_
  refine sX_iadd (by decide +kernel) ?_
  refine sX_iconst (n := 1) (v := (1 : Int32)) (by decide +kernel) (by decide) ?_
  refine sX_isub (by decide +kernel) ?_
  refine sX_bipush (n := 20) (v := (20 : Int32)) (by decide +kernel) (by decide) ?_
  refine sX_irem (by decide +kernel) (by decide) ?_
  refine sX_istore_n (i := 1) (ls2 := [some (.ref v0), some (.int (((x3 + (20 : Int32)) - (1 : Int32)) - ((x3 + (20 : Int32)) - (1 : Int32)) / (20 : Int32) * (20 : Int32)))]) (by decide +kernel) (by decide) rfl ?_
  refine sX_aload_n (i := 0) (by decide +kernel) rfl ?_
  refine sX_getI lf_X11_110 tk_11_7 (by decide +kernel) (fun x4 => ?_)
  refine sX_ifeq (o := 12) (t := 29) (by decide +kernel) (by decide) (fun _ => ?_) (fun _ => ?_)
  · exact sX.le (xB29 v0 M0) (sLe_s (sLe_n sLe_e))
  · refine sX_aload_n (i := 0) (by decide +kernel) rfl ?_
    refine sX_getR lf_X11_45 tk_11_6 (by decide +kernel) (fun x5 => ?_)
    refine sX_iload_n (i := 1) (by decide +kernel) rfl ?_
    refine sX_aaload (Or.inl rfl) (by decide +kernel) (fun x6 => ?_)
    refine sX_nonnull (o := 11) (t := 37) (by decide +kernel) (by decide) (fun _ => ?_) (fun _ _ => ?_)
    · exact sX.le (xB29 v0 M0) (sLe_s (sLe_n sLe_e))
    · refine sX_aload_n (i := 0) (by decide +kernel) rfl ?_
      refine sX_dup (by decide +kernel) rfl ?_
      refine sX_getI lf_X11_110 tk_11_7 (by decide +kernel) (fun x8 => ?_)
      refine sX_iconst (n := 1) (v := (1 : Int32)) (by decide +kernel) (by decide) ?_
      refine sX_isub (by decide +kernel) ?_
      refine sX_putI lf_X11_110 tp_11_7 (by decide +kernel) (by decide) (fun M9 => ?_)
      refine sX_aload_n (i := 0) (by decide +kernel) rfl ?_
      refine sX_iload_n (i := 1) (by decide +kernel) rfl ?_
      refine sX_putI lf_X11_298 tp_11_8 (by decide +kernel) (by decide) (fun M10 => ?_)
      refine sX_aload_n (i := 0) (by decide +kernel) rfl ?_
      refine sX_getR lf_X11_38 tk_11_4 (by decide +kernel) (fun x11 => ?_)
      refine sX_aload_n (i := 0) (by decide +kernel) rfl ?_
      refine sX_getR lf_X11_45 tk_11_6 (by decide +kernel) (fun x12 => ?_)
      refine sX_iload_n (i := 1) (by decide +kernel) rfl ?_
      refine sX_aaloadN (Or.inl rfl) (by decide +kernel) (fun x13 => ?_)
      refine sX_callVv (As := [.ref x13]) (by decide +kernel) lm_X11_301 mf_X8_copy mi_X8_copy mc_8 (m_X8_copy G l x11 x13 M10) (fun _ h => sRc_some h) (by decide) rfl rfl (Nat.le_of_ble_eq_true rfl) (fun M14 => ?_)
      refine sX_iconst (n := 1) (v := (1 : Int32)) (by decide +kernel) (by decide) ?_
      exact sX_some (fun h _ => sW_zret (by decide +kernel) rfl (by decide) (hr _ h).1.symm (hr _ h).2.symm)
def f_X11_seed (v0 : Nat) (v1 : Int32) (M0 : sMem) : Option (Int32 × sMem) :=
  sRc 11 20 M0 v0 (
    if 0 ≤ v1 then
      (pI 11 20 19 M0 v0 v1).bind fun M1 =>
      some (((1 : Int32), M1))
    else
      (f_X11_refuse v0 ((5 : Int32)) M0).bind fun (x2, M3) =>
      some (((0 : Int32), M3)))
set_option maxRecDepth 100000 in
set_option maxHeartbeats 4000000 in
theorem m_X11_seed (G : sG) (l : Launch) (v0 : Nat) (v1 : Int32) (M0 : sMem) : sC G l 2 yX11_seed cX11_seed 2 (some .boolean) [.ref v0, .int v1] M0 rvI (f_X11_seed v0 v1 M0) := by
  refine sC_m (ls := [some (.ref v0), some (.int v1)]) (by decide +kernel) rfl (Nat.le_of_ble_eq_true rfl) (fun r M' K hr => ?_)
  unfold f_X11_seed
  refine sX_rc ?_
  refine sX_iload_n (i := 1) (by decide +kernel) rfl ?_
  refine sX_ifge (o := 11) (t := 12) (by decide +kernel) (by decide) (fun _ => ?_) (fun _ => ?_)
  · refine sX_aload_n (i := 0) (by decide +kernel) rfl ?_
    refine sX_iload_n (i := 1) (by decide +kernel) rfl ?_
    refine sX_putI lf_X11_85 tp_11_19 (by decide +kernel) (by decide) (fun M1 => ?_)
    refine sX_iconst (n := 1) (v := (1 : Int32)) (by decide +kernel) (by decide) ?_
    exact sX_some (fun h _ => sW_zret (by decide +kernel) rfl (by decide) (hr _ h).1.symm (hr _ h).2.symm)
  · refine sX_aload_n (i := 0) (by decide +kernel) rfl ?_
    refine sX_iconst (n := 5) (v := (5 : Int32)) (by decide +kernel) (by decide) ?_
    refine sX_callV (As := [.int (5 : Int32)]) (by decide +kernel) lm_X11_92 mf_X11_refuse mi_X11_refuse mc_11 (m_X11_refuse G l v0 ((5 : Int32)) M0) (fun _ h => sRc_some h) (by decide) rfl rfl (Nat.le_of_ble_eq_true rfl) (fun x2 M3 _ => ?_)
    refine sX_pop (by decide +kernel) rfl ?_
    refine sX_iconst (n := 0) (v := (0 : Int32)) (by decide +kernel) (by decide) ?_
    exact sX_some (fun h _ => sW_zret (by decide +kernel) rfl (by decide) (hr _ h).1.symm (hr _ h).2.symm)
def f_J9_max_f86c9 (v0 : Int64) (v2 : Int64) (M0 : sMem) : Option Int64 :=
  if v0 < v2 then
    some v2
  else
    some v0
set_option maxRecDepth 100000 in
set_option maxHeartbeats 4000000 in
theorem m_J9_max_f86c9 (G : sG) (l : Launch) (v0 : Int64) (v2 : Int64) (M0 : sMem) : sCp G l 1 yJ9_max_f86c9 cJ9_max_f86c9 4 (some .long) [.long v0, .long v2] M0 rvJ (f_J9_max_f86c9 v0 v2 M0) := by
  refine sC_p (ls := [some (.long v0), none, some (.long v2), none]) (by decide +kernel) rfl (Nat.le_of_ble_eq_true rfl) (fun r M' K hr => ?_)
  unfold f_J9_max_f86c9
  refine sX_lload_n (i := 0) (by decide +kernel) rfl ?_
  refine sX_lload_n (i := 2) (by decide +kernel) rfl ?_
  refine sX_lclt (o := 7) (t := 10) (by decide +kernel) (by decide +kernel) (by decide) (fun _ => ?_) (fun _ => ?_)
  · refine sX_lload_n (i := 2) (by decide +kernel) rfl ?_
    exact sX_some (fun h _ => sW_lret (by decide +kernel) rfl (hr _ h).1.symm (hr _ h).2.symm)
  · refine sX_lload_n (i := 0) (by decide +kernel) rfl ?_
    refine sX_goto (o := 4) (t := 11) (by decide +kernel) (by decide) ?_
    exact sX_some (fun h _ => sW_lret (by decide +kernel) rfl (hr _ h).1.symm (hr _ h).2.symm)
def f_J9_min_f86c9 (v0 : Int64) (v2 : Int64) (M0 : sMem) : Option Int64 :=
  if v2 < v0 then
    some v2
  else
    some v0
set_option maxRecDepth 100000 in
set_option maxHeartbeats 4000000 in
theorem m_J9_min_f86c9 (G : sG) (l : Launch) (v0 : Int64) (v2 : Int64) (M0 : sMem) : sCp G l 1 yJ9_min_f86c9 cJ9_min_f86c9 4 (some .long) [.long v0, .long v2] M0 rvJ (f_J9_min_f86c9 v0 v2 M0) := by
  refine sC_p (ls := [some (.long v0), none, some (.long v2), none]) (by decide +kernel) rfl (Nat.le_of_ble_eq_true rfl) (fun r M' K hr => ?_)
  unfold f_J9_min_f86c9
  refine sX_lload_n (i := 0) (by decide +kernel) rfl ?_
  refine sX_lload_n (i := 2) (by decide +kernel) rfl ?_
  refine sX_lcgt (o := 7) (t := 10) (by decide +kernel) (by decide +kernel) (by decide) (fun _ => ?_) (fun _ => ?_)
  · refine sX_lload_n (i := 2) (by decide +kernel) rfl ?_
    exact sX_some (fun h _ => sW_lret (by decide +kernel) rfl (hr _ h).1.symm (hr _ h).2.symm)
  · refine sX_lload_n (i := 0) (by decide +kernel) rfl ?_
    refine sX_goto (o := 4) (t := 11) (by decide +kernel) (by decide) ?_
    exact sX_some (fun h _ => sW_lret (by decide +kernel) rfl (hr _ h).1.symm (hr _ h).2.symm)
def f_X11_joined_B109 (v4 : Int32) (M0 : sMem) : Option Int64 :=
  some v4.toInt64
def f_X11_joined (v0 : Int32) (v1 : Int64) (v3 : Int32) (v4 : Int32) (M0 : sMem) : Option Int64 :=
  if v0 = (33 : Int32) then
    if v4 = 0 then
      some v1
    else
      if v1 = (-1 : Int64) then
        some v3.toInt64
      else
        some v1
  else
  if v0 = (34 : Int32) then
    if v4 = 0 then
      some v1
    else
      some v3.toInt64
  else
  if v0 = (35 : Int32) then
    if v4 = 0 then
      some v1
    else
      some ((v1 + (1 : Int64)))
  else
  if v0 = (36 : Int32) then
    some ((v1 + v4.toInt64))
  else
  if v0 = (37 : Int32) then
    if v3 = 0 then
      some v4.toInt64
    else
      (f_J9_max_f86c9 v1 v4.toInt64 M0).bind fun x2 =>
      some x2
  else
  if v3 = 0 then
    f_X11_joined_B109 v4 M0
  else
    (f_J9_min_f86c9 v1 v4.toInt64 M0).bind fun x1 =>
    some x1
set_option maxRecDepth 100000 in
set_option maxHeartbeats 4000000 in
theorem m_X11_joined (G : sG) (l : Launch) (v0 : Int32) (v1 : Int64) (v3 : Int32) (v4 : Int32) (M0 : sMem) : sCp G l 2 yX11_joined cX11_joined 5 (some .long) [.int v0, .long v1, .int v3, .int v4] M0 rvJ (f_X11_joined v0 v1 v3 v4 M0) := by
  refine sC_p (ls := [some (.int v0), some (.long v1), none, some (.int v3), some (.int v4)]) (by decide +kernel) rfl (Nat.le_of_ble_eq_true rfl) (fun r M' K hr => ?_)
  unfold f_X11_joined
  have xB109 : ∀ (v4 : Int32), sX G l 2 yX11_joined cX11_joined 5 (some .long) M0 r M' 109 [none, none, none, none, some (.int v4)] [] M0 (f_X11_joined_B109 v4 M0) K := by
    intro v4
    unfold f_X11_joined_B109
    refine sX_iload (i := 4) (by decide +kernel) rfl ?_
    refine sX_i2l (by decide +kernel) ?_
    refine sX_goto (o := 10) (t := 122) (by decide +kernel) (by decide) ?_
    exact sX_some (fun h _ => sW_lret (by decide +kernel) rfl (hr _ h).1.symm (hr _ h).2.symm)
  refine sX_iload_n (i := 0) (by decide +kernel) rfl ?_
  refine sX_if (fun hx => ?_) (fun n0 => ?_)
  · refine sX_tin (n := (33 : Int32)) (t := 36) (off := 35) (dflt := 104) (lo := 33) (hi := 37) (offs := #[35, 55, 67, 80, 86]) (len := 35) (by decide +kernel) hx (by decide) (by decide) (by decide) (by decide) ?_
    refine sX_iload (i := 4) (by decide +kernel) rfl ?_
    refine sX_ifeq (o := 16) (t := 54) (by decide +kernel) (by decide) (fun _ => ?_) (fun _ => ?_)
    · refine sX_lload_n (i := 1) (by decide +kernel) rfl ?_
      exact sX_some (fun h _ => sW_lret (by decide +kernel) rfl (hr _ h).1.symm (hr _ h).2.symm)
    · refine sX_lload_n (i := 1) (by decide +kernel) rfl ?_
      refine sX_ldc2 (v := (-1 : Int64)) (by decide +kernel) kl_X11_310 ?_
      refine sX_lcne (o := 8) (t := 54) (by decide +kernel) (by decide +kernel) (by decide) (fun _ => ?_) (fun _ => ?_)
      · refine sX_iload_n (i := 3) (by decide +kernel) rfl ?_
        refine sX_i2l (by decide +kernel) ?_
        refine sX_goto (o := 4) (t := 55) (by decide +kernel) (by decide) ?_
        exact sX_some (fun h _ => sW_lret (by decide +kernel) rfl (hr _ h).1.symm (hr _ h).2.symm)
      · refine sX_lload_n (i := 1) (by decide +kernel) rfl ?_
        exact sX_some (fun h _ => sW_lret (by decide +kernel) rfl (hr _ h).1.symm (hr _ h).2.symm)
  · refine sX_if (fun hx => ?_) (fun n1 => ?_)
    · refine sX_tin (n := (34 : Int32)) (t := 56) (off := 55) (dflt := 104) (lo := 33) (hi := 37) (offs := #[35, 55, 67, 80, 86]) (len := 35) (by decide +kernel) hx (by decide) (by decide) (by decide) (by decide) ?_
      refine sX_iload (i := 4) (by decide +kernel) rfl ?_
      refine sX_ifeq (o := 8) (t := 66) (by decide +kernel) (by decide) (fun _ => ?_) (fun _ => ?_)
      · refine sX_lload_n (i := 1) (by decide +kernel) rfl ?_
        exact sX_some (fun h _ => sW_lret (by decide +kernel) rfl (hr _ h).1.symm (hr _ h).2.symm)
      · refine sX_iload_n (i := 3) (by decide +kernel) rfl ?_
        refine sX_i2l (by decide +kernel) ?_
        refine sX_goto (o := 4) (t := 67) (by decide +kernel) (by decide) ?_
        exact sX_some (fun h _ => sW_lret (by decide +kernel) rfl (hr _ h).1.symm (hr _ h).2.symm)
    · refine sX_if (fun hx => ?_) (fun n2 => ?_)
      · refine sX_tin (n := (35 : Int32)) (t := 68) (off := 67) (dflt := 104) (lo := 33) (hi := 37) (offs := #[35, 55, 67, 80, 86]) (len := 35) (by decide +kernel) hx (by decide) (by decide) (by decide) (by decide) ?_
        refine sX_iload (i := 4) (by decide +kernel) rfl ?_
        refine sX_ifeq (o := 9) (t := 79) (by decide +kernel) (by decide) (fun _ => ?_) (fun _ => ?_)
        · refine sX_lload_n (i := 1) (by decide +kernel) rfl ?_
          exact sX_some (fun h _ => sW_lret (by decide +kernel) rfl (hr _ h).1.symm (hr _ h).2.symm)
        · refine sX_lload_n (i := 1) (by decide +kernel) rfl ?_
          refine sX_lconst (n := 1) (v := (1 : Int64)) (by decide +kernel) (by decide) ?_
          refine sX_ladd (by decide +kernel) ?_
          refine sX_goto (o := 4) (t := 80) (by decide +kernel) (by decide) ?_
          exact sX_some (fun h _ => sW_lret (by decide +kernel) rfl (hr _ h).1.symm (hr _ h).2.symm)
      · refine sX_if (fun hx => ?_) (fun n3 => ?_)
        · refine sX_tin (n := (36 : Int32)) (t := 81) (off := 80) (dflt := 104) (lo := 33) (hi := 37) (offs := #[35, 55, 67, 80, 86]) (len := 35) (by decide +kernel) hx (by decide) (by decide) (by decide) (by decide) ?_
          refine sX_lload_n (i := 1) (by decide +kernel) rfl ?_
          refine sX_iload (i := 4) (by decide +kernel) rfl ?_
          refine sX_i2l (by decide +kernel) ?_
          refine sX_ladd (by decide +kernel) ?_
          exact sX_some (fun h _ => sW_lret (by decide +kernel) rfl (hr _ h).1.symm (hr _ h).2.symm)
        · refine sX_if (fun hx => ?_) (fun n4 => ?_)
          · refine sX_tin (n := (37 : Int32)) (t := 87) (off := 86) (dflt := 104) (lo := 33) (hi := 37) (offs := #[35, 55, 67, 80, 86]) (len := 35) (by decide +kernel) hx (by decide) (by decide) (by decide) (by decide) ?_
            refine sX_iload_n (i := 3) (by decide +kernel) rfl ?_
            refine sX_ifne (o := 9) (t := 97) (by decide +kernel) (by decide) (fun _ => ?_) (fun _ => ?_)
            · refine sX_iload (i := 4) (by decide +kernel) rfl ?_
              refine sX_i2l (by decide +kernel) ?_
              refine sX_goto (o := 10) (t := 104) (by decide +kernel) (by decide) ?_
              exact sX_some (fun h _ => sW_lret (by decide +kernel) rfl (hr _ h).1.symm (hr _ h).2.symm)
            · refine sX_lload_n (i := 1) (by decide +kernel) rfl ?_
              refine sX_iload (i := 4) (by decide +kernel) rfl ?_
              refine sX_i2l (by decide +kernel) ?_
              refine sX_callSp (As := [.long v1, .long v4.toInt64]) (by decide +kernel) lm_X11_380 mf_J9_max_f86c9 ms_J9_max_f86c9 (m_J9_max_f86c9 G l v1 v4.toInt64 M0) (by decide) rfl rfl (Nat.le_of_ble_eq_true rfl) (fun x2 => ?_)
              exact sX_some (fun h _ => sW_lret (by decide +kernel) rfl (hr _ h).1.symm (hr _ h).2.symm)
          · refine sX_tout (t := 105) (dflt := 104) (lo := 33) (hi := 37) (offs := #[35, 55, 67, 80, 86]) (len := 35) (by decide +kernel) (by have e0 := sNe n0 (z := 33) (by decide); have e1 := sNe n1 (z := 34) (by decide); have e2 := sNe n2 (z := 35) (by decide); have e3 := sNe n3 (z := 36) (by decide); have e4 := sNe n4 (z := 37) (by decide); omega) (by decide) ?_
            refine sX_iload_n (i := 3) (by decide +kernel) rfl ?_
            refine sX_ifne (o := 9) (t := 115) (by decide +kernel) (by decide) (fun _ => ?_) (fun _ => ?_)
            · exact sX.le (xB109 v4) (sLe_n (sLe_n (sLe_n (sLe_n (sLe_s sLe_e)))))
            · refine sX_lload_n (i := 1) (by decide +kernel) rfl ?_
              refine sX_iload (i := 4) (by decide +kernel) rfl ?_
              refine sX_i2l (by decide +kernel) ?_
              refine sX_callSp (As := [.long v1, .long v4.toInt64]) (by decide +kernel) lm_X11_383 mf_J9_min_f86c9 ms_J9_min_f86c9 (m_J9_min_f86c9 G l v1 v4.toInt64 M0) (by decide) rfl rfl (Nat.le_of_ble_eq_true rfl) (fun x1 => ?_)
              exact sX_some (fun h _ => sW_lret (by decide +kernel) rfl (hr _ h).1.symm (hr _ h).2.symm)
def f_X11_ask_K63 (v0 : Nat) (v1 : Int32) (v2 : Int64) (v4 : Int32) (M : sMem) : Option ((Int64 × Int32 × sMem) ⊕ (((Int64 × sMem)))) :=
  (gR 11 20 2 M v0).bind fun x1 =>
  (gR 1 10 5 M x1).bind fun x2 =>
  (gI 9 4 3 M x2).bind fun x3 =>
  if x3 ≤ v4 then
    some (.inr ((v2, M)))
  else
    (gR 11 20 9 M v0).bind fun x4 =>
    (gR 11 20 4 M v0).bind fun x5 =>
    (gR 11 20 11 M v0).bind fun x6 =>
    (gR 11 20 1 M v0).bind fun x7 =>
    (gR 5 2 1 M x7).bind fun x8 =>
    (f_X0_answerOf x4 x5 v4 x6 x8 M).bind fun (x9, M10) =>
    (f_X11_joined v1 v2 v4 x9 M10).bind fun x11 =>
    some (.inl ((x11, ((v4 + (1 : Int32))), M10)))
def f_X11_ask_L63 (v0 : Nat) (v1 : Int32) (v2 : Int64) (v4 : Int32) (M : sMem) : Option (Int64 × sMem) :=
  (sItr (fun a : (Int64 × Int32 × sMem) => f_X11_ask_K63 v0 v1 a.1 a.2.1 a.2.2) sFuel (v2, v4, M)).bind (fun b => some b)
def f_X11_ask_B59 (v0 : Nat) (v1 : Int32) (s0 : Int64) (M : sMem) : Option (Int64 × sMem) :=
  f_X11_ask_L63 v0 v1 s0 ((0 : Int32)) M
def f_X11_ask_B52 (v0 : Nat) (v1 : Int32) (M : sMem) : Option (Int64 × sMem) :=
  f_X11_ask_B59 v0 v1 ((-1 : Int64)) M
def f_X11_ask_B18 (v0 : Nat) (s0 : Int32) (M : sMem) : Option (Int64 × sMem) :=
  (gR 11 20 0 M v0).bind fun x12 =>
  (pI 10 10 1 M x12 ((0 : Int32))).bind fun M13 =>
  if s0 = (-1 : Int32) then
    some (((-1000000000000000 : Int64), M13))
  else
    (f_X11_closeNow v0 M13).bind fun M14 =>
    if s0 = (33 : Int32) then
      f_X11_ask_B52 v0 s0 M14
    else
      if s0 = (34 : Int32) then
        f_X11_ask_B52 v0 s0 M14
      else
        f_X11_ask_B59 v0 s0 ((0 : Int64)) M14
def f_X11_ask (v0 : Nat) (M0 : sMem) : Option (Int64 × sMem) :=
  sRc 11 20 M0 v0 (
    (f_X11_isTold v0 M0).bind fun x15 =>
    if x15 = 0 then
      f_X11_ask_B18 v0 ((-1 : Int32)) M0
    else
      (gR 11 20 1 M0 v0).bind fun x16 =>
      (f_X5_readQuestion x16 M0).bind fun (x17, M18) =>
      f_X11_ask_B18 v0 x17 M18)
set_option maxRecDepth 100000 in
set_option maxHeartbeats 4000000 in
theorem m_X11_ask (G : sG) (l : Launch) (v0 : Nat) (M0 : sMem) : sC G l 71 yX11_ask cX11_ask 6 (some .long) [.ref v0] M0 rvJ (f_X11_ask v0 M0) := by
  refine sC_m (ls := [some (.ref v0), none, none, none, none, none]) (by decide +kernel) rfl (Nat.le_of_ble_eq_true rfl) (fun r M' K hr => ?_)
  unfold f_X11_ask
  have xL63 : ∀ (v0 : Nat) (v1 : Int32) (v2 : Int64) (v4 : Int32) (M : sMem), sX G l 71 yX11_ask cX11_ask 6 (some .long) M0 r M' 63 [some (.ref v0), some (.int v1), some (.long v2), none, some (.int v4), none] [] M (f_X11_ask_L63 v0 v1 v2 v4 M) K := by
    intro v0 v1 v2 v4 M
    unfold f_X11_ask_L63
    refine sX_bind ?_
    refine sX_loop (LS := fun a : (Int64 × Int32 × sMem) => [some (.ref v0), some (.int v1), some (.long a.1), none, some (.int a.2.1), none]) (MM := fun a => a.2.2) (fun K1 hb1 he1 => ?_) sFuel ((v2, v4, M))
    have xK63 : ∀ (v2 : Int64) (v4 : Int32) (M : sMem), sX G l 71 yX11_ask cX11_ask 6 (some .long) M0 r M' 63 [some (.ref v0), some (.int v1), some (.long v2), none, some (.int v4), none] [] M (f_X11_ask_K63 v0 v1 v2 v4 M) K1 := by
      intro v2 v4 M
      unfold f_X11_ask_K63
      refine sX_iload (i := 4) (by decide +kernel) rfl ?_
      refine sX_aload_n (i := 0) (by decide +kernel) rfl ?_
      refine sX_getR lf_X11_28 tk_11_2 (by decide +kernel) (fun x1 => ?_)
      refine sX_getR lf_X11_143 tk_1_5 (by decide +kernel) (fun x2 => ?_)
      refine sX_getI lf_X11_129 tk_9_3 (by decide +kernel) (fun x3 => ?_)
      refine sX_icge (o := 45) (t := 120) (by decide +kernel) (by decide) (fun _ => ?_) (fun _ => ?_)
      · refine sX_lload_n (i := 2) (by decide +kernel) rfl ?_
        refine sX_exit he1 ?_
        exact sX_some (fun h _ => sW_lret (by decide +kernel) rfl (hr _ h).1.symm (hr _ h).2.symm)
      · refine sX_aload_n (i := 0) (by decide +kernel) rfl ?_
        refine sX_getR lf_X11_54 tk_11_9 (by decide +kernel) (fun x4 => ?_)
        refine sX_aload_n (i := 0) (by decide +kernel) rfl ?_
        refine sX_getR lf_X11_38 tk_11_4 (by decide +kernel) (fun x5 => ?_)
        refine sX_iload (i := 4) (by decide +kernel) rfl ?_
        refine sX_aload_n (i := 0) (by decide +kernel) rfl ?_
        refine sX_getR lf_X11_65 tk_11_11 (by decide +kernel) (fun x6 => ?_)
        refine sX_aload_n (i := 0) (by decide +kernel) rfl ?_
        refine sX_getR lf_X11_21 tk_11_1 (by decide +kernel) (fun x7 => ?_)
        refine sX_getR lf_X11_312 tk_5_1 (by decide +kernel) (fun x8 => ?_)
        refine sX_callV (As := [.ref x5, .int v4, .ref x6, .ref x8]) (by decide +kernel) lm_X11_316 mf_X0_answerOf mi_X0_answerOf mc_0 (m_X0_answerOf G l x4 x5 v4 x6 x8 M) (fun _ h => sRc_some h) (by decide) rfl rfl (Nat.le_of_ble_eq_true rfl) (fun x9 M10 _ => ?_)
        refine sX_istore (i := 5) (ls2 := [some (.ref v0), some (.int v1), some (.long v2), none, some (.int v4), some (.int x9)]) (by decide +kernel) (by decide) rfl ?_
        refine sX_iload_n (i := 1) (by decide +kernel) rfl ?_
        refine sX_lload_n (i := 2) (by decide +kernel) rfl ?_
        refine sX_iload (i := 4) (by decide +kernel) rfl ?_
        refine sX_iload (i := 5) (by decide +kernel) rfl ?_
        refine sX_callSp (As := [.int v1, .long v2, .int v4, .int x9]) (by decide +kernel) lm_X11_320 mf_X11_joined ms_X11_joined (m_X11_joined G l v1 v2 v4 x9 M10) (by decide) rfl rfl (Nat.le_of_ble_eq_true rfl) (fun x11 => ?_)
        refine sX_lstore_n (i := 2) (ls2 := [some (.ref v0), some (.int v1), some (.long x11), none, some (.int v4), some (.int x9)]) (by decide +kernel) (by decide) rfl ?_
        refine sX_iinc (i := 4) (n := 1) (v := v4 + (1 : Int32)) (ls2 := [some (.ref v0), some (.int v1), some (.long x11), none, some (.int (v4 + (1 : Int32))), some (.int x9)]) (by decide +kernel) rfl rfl (by decide) rfl ?_
        refine sX_goto (o := -54) (t := 63) (by decide +kernel) (by decide) ?_
        exact sX_back (a := (x11, ((v4 + (1 : Int32))), M10)) hb1 rfl (sLe_s (sLe_s (sLe_s (sLe_n (sLe_s (sLe_n sLe_e))))))
    exact fun a => xK63 a.1 a.2.1 a.2.2
  have xB59 : ∀ (v0 : Nat) (v1 : Int32) (s0 : Int64) (M : sMem), sX G l 71 yX11_ask cX11_ask 6 (some .long) M0 r M' 59 [some (.ref v0), some (.int v1), none, none, none, none] [.long s0] M (f_X11_ask_B59 v0 v1 s0 M) K := by
    intro v0 v1 s0 M
    unfold f_X11_ask_B59
    refine sX_lstore_n (i := 2) (ls2 := [some (.ref v0), some (.int v1), some (.long s0), none, none, none]) (by decide +kernel) (by decide) rfl ?_
    refine sX_iconst (n := 0) (v := (0 : Int32)) (by decide +kernel) (by decide) ?_
    refine sX_istore (i := 4) (ls2 := [some (.ref v0), some (.int v1), some (.long s0), none, some (.int (0 : Int32)), none]) (by decide +kernel) (by decide) rfl ?_
    exact sX.le (xL63 v0 v1 s0 ((0 : Int32)) M) (sLe_s (sLe_s (sLe_s (sLe_n (sLe_s (sLe_n sLe_e))))))
  have xB52 : ∀ (v0 : Nat) (v1 : Int32) (M : sMem), sX G l 71 yX11_ask cX11_ask 6 (some .long) M0 r M' 52 [some (.ref v0), some (.int v1), none, none, none, none] [] M (f_X11_ask_B52 v0 v1 M) K := by
    intro v0 v1 M
    unfold f_X11_ask_B52
    refine sX_ldc2 (v := (-1 : Int64)) (by decide +kernel) kl_X11_310 ?_
    refine sX_goto (o := 4) (t := 59) (by decide +kernel) (by decide) ?_
    exact sX.le (xB59 v0 v1 ((-1 : Int64)) M) (sLe_s (sLe_s (sLe_n (sLe_n (sLe_n (sLe_n sLe_e))))))
  have xB18 : ∀ (v0 : Nat) (s0 : Int32) (M : sMem), sX G l 71 yX11_ask cX11_ask 6 (some .long) M0 r M' 18 [some (.ref v0), none, none, none, none, none] [.int s0] M (f_X11_ask_B18 v0 s0 M) K := by
    intro v0 s0 M
    unfold f_X11_ask_B18
    refine sX_istore_n (i := 1) (ls2 := [some (.ref v0), some (.int s0), none, none, none, none]) (by decide +kernel) (by decide) rfl ?_
    refine sX_aload_n (i := 0) (by decide +kernel) rfl ?_
    refine sX_getR lf_X11_12 tk_11_0 (by decide +kernel) (fun x12 => ?_)
    refine sX_iconst (n := 0) (v := (0 : Int32)) (by decide +kernel) (by decide) ?_
    refine sX_putI lf_X11_89 tp_10_1 (by decide +kernel) (by decide) (fun M13 => ?_)
    refine sX_iload_n (i := 1) (by decide +kernel) rfl ?_
    refine sX_iconst (n := -1) (v := (-1 : Int32)) (by decide +kernel) (by decide) ?_
    refine sX_icne (o := 7) (t := 36) (by decide +kernel) (by decide) (fun _ => ?_) (fun _ => ?_)
    · refine sX_ldc2 (v := (-1000000000000000 : Int64)) (by decide +kernel) kl_X11_308 ?_
      exact sX_some (fun h _ => sW_lret (by decide +kernel) rfl (hr _ h).1.symm (hr _ h).2.symm)
    · refine sX_aload_n (i := 0) (by decide +kernel) rfl ?_
      refine sX_callVv (As := []) (by decide +kernel) lm_X11_202 mf_X11_closeNow mi_X11_closeNow mc_11 (m_X11_closeNow G l v0 M13) (fun _ h => sRc_some h) (by decide) rfl rfl (Nat.le_of_ble_eq_true rfl) (fun M14 => ?_)
      refine sX_iload_n (i := 1) (by decide +kernel) rfl ?_
      refine sX_bipush (n := 33) (v := (33 : Int32)) (by decide +kernel) (by decide) ?_
      refine sX_iceq (o := 9) (t := 52) (by decide +kernel) (by decide) (fun _ => ?_) (fun _ => ?_)
      · exact sX.le (xB52 v0 s0 M14) (sLe_s (sLe_s (sLe_n (sLe_n (sLe_n (sLe_n sLe_e))))))
      · refine sX_iload_n (i := 1) (by decide +kernel) rfl ?_
        refine sX_bipush (n := 34) (v := (34 : Int32)) (by decide +kernel) (by decide) ?_
        refine sX_icne (o := 9) (t := 58) (by decide +kernel) (by decide) (fun _ => ?_) (fun _ => ?_)
        · exact sX.le (xB52 v0 s0 M14) (sLe_s (sLe_s (sLe_n (sLe_n (sLe_n (sLe_n sLe_e))))))
        · refine sX_lconst (n := 0) (v := (0 : Int64)) (by decide +kernel) (by decide) ?_
          exact sX.le (xB59 v0 s0 ((0 : Int64)) M14) (sLe_s (sLe_s (sLe_n (sLe_n (sLe_n (sLe_n sLe_e))))))
  refine sX_rc ?_
  refine sX_aload_n (i := 0) (by decide +kernel) rfl ?_
  refine sX_callVp (As := []) (by decide +kernel) lm_X11_249 mf_X11_isTold mi_X11_isTold mc_11 (m_X11_isTold G l v0 M0) (fun _ h => sRc_some h) (by decide) rfl rfl (Nat.le_of_ble_eq_true rfl) (fun x15 => ?_)
  refine sX_ifeq (o := 13) (t := 17) (by decide +kernel) (by decide) (fun _ => ?_) (fun _ => ?_)
  · refine sX_iconst (n := -1) (v := (-1 : Int32)) (by decide +kernel) (by decide) ?_
    exact sX.le (xB18 v0 ((-1 : Int32)) M0) (sLe_s (sLe_n (sLe_n (sLe_n (sLe_n (sLe_n sLe_e))))))
  · refine sX_aload_n (i := 0) (by decide +kernel) rfl ?_
    refine sX_getR lf_X11_21 tk_11_1 (by decide +kernel) (fun x16 => ?_)
    refine sX_callV (As := []) (by decide +kernel) lm_X11_305 mf_X5_readQuestion mi_X5_readQuestion mc_5 (m_X5_readQuestion G l x16 M0) (fun _ h => sRc_some h) (by decide) rfl rfl (Nat.le_of_ble_eq_true rfl) (fun x17 M18 _ => ?_)
    refine sX_goto (o := 4) (t := 18) (by decide +kernel) (by decide) ?_
    exact sX.le (xB18 v0 x17 M18) (sLe_s (sLe_n (sLe_n (sLe_n (sLe_n (sLe_n sLe_e))))))
def f_X11_write (v0 : Nat) (v1 : Int32) (M0 : sMem) : Option sMem :=
  sRc 11 20 M0 v0 (
    (gI 11 20 17 M0 v0).bind fun x1 =>
    (gR 11 20 16 M0 v0).bind fun x2 =>
    (aL 14 M0 x2).bind fun x3 =>
    if x3 ≤ x1 then
      some M0
    else
      (gR 11 20 16 M0 v0).bind fun x4 =>
      (gI 11 20 17 M0 v0).bind fun x5 =>
      (stI M0 x4 x5 v1).bind fun M6 =>
      (gI 11 20 17 M6 v0).bind fun x7 =>
      (pI 11 20 17 M6 v0 ((x7 + (1 : Int32)))).bind fun M8 =>
      some M8)
set_option maxRecDepth 100000 in
set_option maxHeartbeats 4000000 in
theorem m_X11_write (G : sG) (l : Launch) (v0 : Nat) (v1 : Int32) (M0 : sMem) : sCv G l 1 yX11_write cX11_write 2 none [.ref v0, .int v1] M0 (f_X11_write v0 v1 M0) := by
  refine sC_v (ls := [some (.ref v0), some (.int v1)]) (by decide +kernel) rfl (Nat.le_of_ble_eq_true rfl) (fun r M' K hr => ?_)
  unfold f_X11_write
  refine sX_rc ?_
  refine sX_aload_n (i := 0) (by decide +kernel) rfl ?_
  refine sX_getI lf_X11_324 tk_11_17 (by decide +kernel) (fun x1 => ?_)
  refine sX_aload_n (i := 0) (by decide +kernel) rfl ?_
  refine sX_getR lf_X11_79 tk_11_16 (by decide +kernel) (fun x2 => ?_)
  refine sX_alen (by decide) (by decide) (by decide +kernel) (fun x3 => ?_)
  refine sX_icge (o := 23) (t := 32) (by decide +kernel) (by decide) (fun _ => ?_) (fun _ => ?_)
  · exact sX_some (fun h _ => sW_vret (by decide +kernel) rfl (hr _ h).1.symm (hr _ h).2.symm)
  · refine sX_aload_n (i := 0) (by decide +kernel) rfl ?_
    refine sX_getR lf_X11_79 tk_11_16 (by decide +kernel) (fun x4 => ?_)
    refine sX_aload_n (i := 0) (by decide +kernel) rfl ?_
    refine sX_getI lf_X11_324 tk_11_17 (by decide +kernel) (fun x5 => ?_)
    refine sX_iload_n (i := 1) (by decide +kernel) rfl ?_
    refine sX_iastore (by decide +kernel) (by decide) (fun M6 => ?_)
    refine sX_aload_n (i := 0) (by decide +kernel) rfl ?_
    refine sX_dup (by decide +kernel) rfl ?_
    refine sX_getI lf_X11_324 tk_11_17 (by decide +kernel) (fun x7 => ?_)
    refine sX_iconst (n := 1) (v := (1 : Int32)) (by decide +kernel) (by decide) ?_
    refine sX_iadd (by decide +kernel) ?_
    refine sX_putI lf_X11_324 tp_11_17 (by decide +kernel) (by decide) (fun M8 => ?_)
    exact sX_some (fun h _ => sW_vret (by decide +kernel) rfl (hr _ h).1.symm (hr _ h).2.symm)
def f_X11_writePair (v0 : Nat) (v1 : Int32) (M0 : sMem) : Option sMem :=
  sRc 11 20 M0 v0 (
    (f_X11_write v0 ((v1 >>> ((8 : Int32) &&& 31))) M0).bind fun M1 =>
    (f_X11_write v0 ((v1 &&& (255 : Int32))) M1).bind fun M2 =>
    some M2)
set_option maxRecDepth 100000 in
set_option maxHeartbeats 4000000 in
theorem m_X11_writePair (G : sG) (l : Launch) (v0 : Nat) (v1 : Int32) (M0 : sMem) : sCv G l 2 yX11_writePair cX11_writePair 2 none [.ref v0, .int v1] M0 (f_X11_writePair v0 v1 M0) := by
  refine sC_v (ls := [some (.ref v0), some (.int v1)]) (by decide +kernel) rfl (Nat.le_of_ble_eq_true rfl) (fun r M' K hr => ?_)
  unfold f_X11_writePair
  refine sX_rc ?_
  refine sX_aload_n (i := 0) (by decide +kernel) rfl ?_
  refine sX_iload_n (i := 1) (by decide +kernel) rfl ?_
  refine sX_bipush (n := 8) (v := (8 : Int32)) (by decide +kernel) (by decide) ?_
  refine sX_ishr (by decide +kernel) ?_
  refine sX_callVv (As := [.int (v1 >>> ((8 : Int32) &&& 31))]) (by decide +kernel) lm_X11_330 mf_X11_write mi_X11_write mc_11 (m_X11_write G l v0 ((v1 >>> ((8 : Int32) &&& 31))) M0) (fun _ h => sRc_some h) (by decide) rfl rfl (Nat.le_of_ble_eq_true rfl) (fun M1 => ?_)
  refine sX_aload_n (i := 0) (by decide +kernel) rfl ?_
  refine sX_iload_n (i := 1) (by decide +kernel) rfl ?_
  refine sX_sipush (n := 255) (v := (255 : Int32)) (by decide +kernel) (by decide) ?_
  refine sX_iand (by decide +kernel) ?_
  refine sX_callVv (As := [.int (v1 &&& (255 : Int32))]) (by decide +kernel) lm_X11_330 mf_X11_write mi_X11_write mc_11 (m_X11_write G l v0 ((v1 &&& (255 : Int32))) M1) (fun _ h => sRc_some h) (by decide) rfl rfl (Nat.le_of_ble_eq_true rfl) (fun M2 => ?_)
  exact sX_some (fun h _ => sW_vret (by decide +kernel) rfl (hr _ h).1.symm (hr _ h).2.symm)
def f_X11_imageSum_K6 (v0 : Nat) (v1 : Int32) (v2 : Int32) (v3 : Int32) (M0 : sMem) : Option ((Int32 × Int32) ⊕ ((Int32))) :=
  if v1 ≤ v3 then
    some (.inr v2)
  else
    (aL 14 M0 v0).bind fun x1 =>
    if x1 ≤ v3 then
      some (.inr v2)
    else
      (ldI 14 M0 v0 v3).bind fun x2 =>
      some (.inl (((((((3 : Int32) * v2) + x2) - (((3 : Int32) * v2) + x2) / (251 : Int32) * (251 : Int32))), ((v3 + (1 : Int32))))))
def f_X11_imageSum_L6 (v0 : Nat) (v1 : Int32) (v2 : Int32) (v3 : Int32) (M0 : sMem) : Option Int32 :=
  (sItr (fun a : (Int32 × Int32) => f_X11_imageSum_K6 v0 v1 a.1 a.2 M0) sFuel (v2, v3)).bind (fun b => some b)
def f_X11_imageSum (v0 : Nat) (v1 : Int32) (M0 : sMem) : Option Int32 :=
  f_X11_imageSum_L6 v0 v1 ((229 : Int32)) ((0 : Int32)) M0
set_option maxRecDepth 100000 in
set_option maxHeartbeats 4000000 in
theorem m_X11_imageSum (G : sG) (l : Launch) (v0 : Nat) (v1 : Int32) (M0 : sMem) : sCp G l 1 yX11_imageSum cX11_imageSum 4 (some .int) [.ref v0, .int v1] M0 rvI (f_X11_imageSum v0 v1 M0) := by
  refine sC_p (ls := [some (.ref v0), some (.int v1), none, none]) (by decide +kernel) rfl (Nat.le_of_ble_eq_true rfl) (fun r M' K hr => ?_)
  unfold f_X11_imageSum
  have xL6 : ∀ (v0 : Nat) (v1 : Int32) (v2 : Int32) (v3 : Int32), sX G l 1 yX11_imageSum cX11_imageSum 4 (some .int) M0 r M' 6 [some (.ref v0), some (.int v1), some (.int v2), some (.int v3)] [] M0 (f_X11_imageSum_L6 v0 v1 v2 v3 M0) K := by
    intro v0 v1 v2 v3
    unfold f_X11_imageSum_L6
    refine sX_bind ?_
    refine sX_loop (LS := fun a : (Int32 × Int32) => [some (.ref v0), some (.int v1), some (.int a.1), some (.int a.2)]) (MM := fun a => M0) (fun K1 hb1 he1 => ?_) sFuel ((v2, v3))
    have xK6 : ∀ (v2 : Int32) (v3 : Int32), sX G l 1 yX11_imageSum cX11_imageSum 4 (some .int) M0 r M' 6 [some (.ref v0), some (.int v1), some (.int v2), some (.int v3)] [] M0 (f_X11_imageSum_K6 v0 v1 v2 v3 M0) K1 := by
      intro v2 v3
      unfold f_X11_imageSum_K6
      refine sX_iload_n (i := 3) (by decide +kernel) rfl ?_
      refine sX_iload_n (i := 1) (by decide +kernel) rfl ?_
      refine sX_icge (o := 27) (t := 35) (by decide +kernel) (by decide) (fun _ => ?_) (fun _ => ?_)
      · refine sX_iload_n (i := 2) (by decide +kernel) rfl ?_
        refine sX_exit he1 ?_
        exact sX_some (fun h _ => sW_iret (by decide +kernel) rfl (hr _ h).1.symm (hr _ h).2.symm)
      · refine sX_iload_n (i := 3) (by decide +kernel) rfl ?_
        refine sX_aload_n (i := 0) (by decide +kernel) rfl ?_
        refine sX_alen (by decide) (by decide) (by decide +kernel) (fun x1 => ?_)
        refine sX_icge (o := 21) (t := 35) (by decide +kernel) (by decide) (fun _ => ?_) (fun _ => ?_)
        · refine sX_iload_n (i := 2) (by decide +kernel) rfl ?_
          refine sX_exit he1 ?_
          exact sX_some (fun h _ => sW_iret (by decide +kernel) rfl (hr _ h).1.symm (hr _ h).2.symm)
        · refine sX_iconst (n := 3) (v := (3 : Int32)) (by decide +kernel) (by decide) ?_
          refine sX_iload_n (i := 2) (by decide +kernel) rfl ?_
          refine sX_imul (by decide +kernel) ?_
          refine sX_aload_n (i := 0) (by decide +kernel) rfl ?_
          refine sX_iload_n (i := 3) (by decide +kernel) rfl ?_
          refine sX_iaload (by decide +kernel) (fun x2 => ?_)
          refine sX_iadd (by decide +kernel) ?_
          refine sX_sipush (n := 251) (v := (251 : Int32)) (by decide +kernel) (by decide) ?_
          refine sX_irem (by decide +kernel) (by decide) ?_
          refine sX_istore_n (i := 2) (ls2 := [some (.ref v0), some (.int v1), some (.int ((((3 : Int32) * v2) + x2) - (((3 : Int32) * v2) + x2) / (251 : Int32) * (251 : Int32))), some (.int v3)]) (by decide +kernel) (by decide) rfl ?_
          refine sX_iinc (i := 3) (n := 1) (v := v3 + (1 : Int32)) (ls2 := [some (.ref v0), some (.int v1), some (.int ((((3 : Int32) * v2) + x2) - (((3 : Int32) * v2) + x2) / (251 : Int32) * (251 : Int32))), some (.int (v3 + (1 : Int32)))]) (by decide +kernel) rfl rfl (by decide) rfl ?_
          refine sX_goto (o := -26) (t := 6) (by decide +kernel) (by decide) ?_
          exact sX_back (a := ((((((3 : Int32) * v2) + x2) - (((3 : Int32) * v2) + x2) / (251 : Int32) * (251 : Int32))), ((v3 + (1 : Int32))))) hb1 rfl (sLe_s (sLe_s (sLe_s (sLe_s sLe_e))))
    exact fun a => xK6 a.1 a.2
  refine sX_sipush (n := 229) (v := (229 : Int32)) (by decide +kernel) (by decide) ?_
  refine sX_istore_n (i := 2) (ls2 := [some (.ref v0), some (.int v1), some (.int (229 : Int32)), none]) (by decide +kernel) (by decide) rfl ?_
  refine sX_iconst (n := 0) (v := (0 : Int32)) (by decide +kernel) (by decide) ?_
  refine sX_istore_n (i := 3) (ls2 := [some (.ref v0), some (.int v1), some (.int (229 : Int32)), some (.int (0 : Int32))]) (by decide +kernel) (by decide) rfl ?_
  exact sX.le (xL6 v0 v1 ((229 : Int32)) ((0 : Int32))) (sLe_s (sLe_s (sLe_s (sLe_s sLe_e))))
def f_X11_image_B154 (v0 : Nat) (M : sMem) : Option (Int32 × sMem) :=
  (gR 11 20 16 M v0).bind fun x1 =>
  (gI 11 20 17 M v0).bind fun x2 =>
  (f_X11_imageSum x1 x2 M).bind fun x3 =>
  (f_X11_write v0 x3 M).bind fun M4 =>
  (gI 11 20 17 M4 v0).bind fun x5 =>
  some ((x5, M4))
def f_X11_image_K95 (v0 : Nat) (v1 : Int32) (M : sMem) : Option ((Int32 × sMem) ⊕ ((sMem))) :=
  (gR 11 20 2 M v0).bind fun x6 =>
  (gR 1 10 5 M x6).bind fun x7 =>
  (gI 9 4 3 M x7).bind fun x8 =>
  if x8 ≤ v1 then
    some (.inr M)
  else
    (gR 11 20 4 M v0).bind fun x9 =>
    (gR 8 8 3 M x9).bind fun x10 =>
    (ldI 14 M x10 v1).bind fun x11 =>
    (f_X11_write v0 x11 M).bind fun M12 =>
    (gR 11 20 4 M12 v0).bind fun x13 =>
    (gR 8 8 4 M12 x13).bind fun x14 =>
    (ldI 14 M12 x14 v1).bind fun x15 =>
    (f_X11_write v0 x15 M12).bind fun M16 =>
    (gR 11 20 4 M16 v0).bind fun x17 =>
    (gR 8 8 5 M16 x17).bind fun x18 =>
    (ldI 14 M16 x18 v1).bind fun x19 =>
    (f_X11_writePair v0 x19 M16).bind fun M20 =>
    some (.inl ((((v1 + (1 : Int32))), M20)))
def f_X11_image_L95 (v0 : Nat) (v1 : Int32) (M : sMem) : Option (Int32 × sMem) :=
  (sItr (fun a : (Int32 × sMem) => f_X11_image_K95 v0 a.1 a.2) sFuel (v1, M)).bind (fun b => f_X11_image_B154 v0 b)
def f_X11_image_B93 (v0 : Nat) (M : sMem) : Option (Int32 × sMem) :=
  f_X11_image_L95 v0 ((0 : Int32)) M
def f_X11_image_K60 (v0 : Nat) (v1 : Int32) (M : sMem) : Option ((Int32 × sMem) ⊕ ((sMem))) :=
  (gR 11 20 2 M v0).bind fun x21 =>
  (gR 1 10 4 M x21).bind fun x22 =>
  (gI 9 4 3 M x22).bind fun x23 =>
  if x23 ≤ v1 then
    some (.inr M)
  else
    (gR 11 20 4 M v0).bind fun x24 =>
    (gR 8 8 2 M x24).bind fun x25 =>
    (ldI 14 M x25 v1).bind fun x26 =>
    (f_X11_write v0 x26 M).bind fun M27 =>
    some (.inl ((((v1 + (1 : Int32))), M27)))
def f_X11_image_L60 (v0 : Nat) (v1 : Int32) (M : sMem) : Option (Int32 × sMem) :=
  (sItr (fun a : (Int32 × sMem) => f_X11_image_K60 v0 a.1 a.2) sFuel (v1, M)).bind (fun b => f_X11_image_B93 v0 b)
def f_X11_image_B58 (v0 : Nat) (M : sMem) : Option (Int32 × sMem) :=
  f_X11_image_L60 v0 ((0 : Int32)) M
def f_X11_image_B49 (v0 : Nat) (v1 : Int32) (s0 : Nat) (s1 : Int32) (M : sMem) : Option ((Int32 × sMem) ⊕ ((sMem))) :=
  (f_X11_write s0 s1 M).bind fun M28 =>
  some (.inl ((((v1 + (1 : Int32))), M28)))
def f_X11_image_K18 (v0 : Nat) (v1 : Int32) (M : sMem) : Option ((Int32 × sMem) ⊕ ((sMem))) :=
  (gR 11 20 2 M v0).bind fun x29 =>
  (gR 1 10 1 M x29).bind fun x30 =>
  (gI 9 4 3 M x30).bind fun x31 =>
  if x31 ≤ v1 then
    some (.inr M)
  else
    (gR 11 20 4 M v0).bind fun x32 =>
    (f_X8_isUp x32 v1 M).bind fun x33 =>
    if x33 = 0 then
      f_X11_image_B49 v0 v1 v0 ((0 : Int32)) M
    else
      f_X11_image_B49 v0 v1 v0 ((1 : Int32)) M
def f_X11_image_L18 (v0 : Nat) (v1 : Int32) (M : sMem) : Option (Int32 × sMem) :=
  (sItr (fun a : (Int32 × sMem) => f_X11_image_K18 v0 a.1 a.2) sFuel (v1, M)).bind (fun b => f_X11_image_B58 v0 b)
def f_X11_image (v0 : Nat) (M0 : sMem) : Option (Int32 × sMem) :=
  sRc 11 20 M0 v0 (
    (pI 11 20 17 M0 v0 ((0 : Int32))).bind fun M34 =>
    (gR 11 20 4 M34 v0).bind fun x35 =>
    (gI 8 8 0 M34 x35).bind fun x36 =>
    (f_X11_writePair v0 x36 M34).bind fun M37 =>
    f_X11_image_L18 v0 ((0 : Int32)) M37)
set_option maxRecDepth 100000 in
set_option maxHeartbeats 4000000 in
theorem m_X11_image (G : sG) (l : Launch) (v0 : Nat) (M0 : sMem) : sC G l 3 yX11_image cX11_image 2 (some .int) [.ref v0] M0 rvI (f_X11_image v0 M0) := by
  refine sC_m (ls := [some (.ref v0), none]) (by decide +kernel) rfl (Nat.le_of_ble_eq_true rfl) (fun r M' K hr => ?_)
  unfold f_X11_image
  have xB154 : ∀ (v0 : Nat) (M : sMem), sX G l 3 yX11_image cX11_image 2 (some .int) M0 r M' 154 [some (.ref v0), none] [] M (f_X11_image_B154 v0 M) K := by
    intro v0 M
    unfold f_X11_image_B154
    refine sX_aload_n (i := 0) (by decide +kernel) rfl ?_
    refine sX_aload_n (i := 0) (by decide +kernel) rfl ?_
    refine sX_getR lf_X11_79 tk_11_16 (by decide +kernel) (fun x1 => ?_)
    refine sX_aload_n (i := 0) (by decide +kernel) rfl ?_
    refine sX_getI lf_X11_324 tk_11_17 (by decide +kernel) (fun x2 => ?_)
    refine sX_callSp (As := [.ref x1, .int x2]) (by decide +kernel) lm_X11_333 mf_X11_imageSum ms_X11_imageSum (m_X11_imageSum G l x1 x2 M) (by decide) rfl rfl (Nat.le_of_ble_eq_true rfl) (fun x3 => ?_)
    refine sX_callVv (As := [.int x3]) (by decide +kernel) lm_X11_330 mf_X11_write mi_X11_write mc_11 (m_X11_write G l v0 x3 M) (fun _ h => sRc_some h) (by decide) rfl rfl (Nat.le_of_ble_eq_true rfl) (fun M4 => ?_)
    refine sX_aload_n (i := 0) (by decide +kernel) rfl ?_
    refine sX_getI lf_X11_324 tk_11_17 (by decide +kernel) (fun x5 => ?_)
    exact sX_some (fun h _ => sW_iret (by decide +kernel) rfl (hr _ h).1.symm (hr _ h).2.symm)
  have xL95 : ∀ (v0 : Nat) (v1 : Int32) (M : sMem), sX G l 3 yX11_image cX11_image 2 (some .int) M0 r M' 95 [some (.ref v0), some (.int v1)] [] M (f_X11_image_L95 v0 v1 M) K := by
    intro v0 v1 M
    unfold f_X11_image_L95
    refine sX_bind ?_
    refine sX_loop (LS := fun a : (Int32 × sMem) => [some (.ref v0), some (.int a.1)]) (MM := fun a => a.2) (fun K1 hb1 he1 => ?_) sFuel ((v1, M))
    have xK95 : ∀ (v1 : Int32) (M : sMem), sX G l 3 yX11_image cX11_image 2 (some .int) M0 r M' 95 [some (.ref v0), some (.int v1)] [] M (f_X11_image_K95 v0 v1 M) K1 := by
      intro v1 M
      unfold f_X11_image_K95
      refine sX_iload_n (i := 1) (by decide +kernel) rfl ?_
      refine sX_aload_n (i := 0) (by decide +kernel) rfl ?_
      refine sX_getR lf_X11_28 tk_11_2 (by decide +kernel) (fun x6 => ?_)
      refine sX_getR lf_X11_143 tk_1_5 (by decide +kernel) (fun x7 => ?_)
      refine sX_getI lf_X11_129 tk_9_3 (by decide +kernel) (fun x8 => ?_)
      refine sX_icge (o := 48) (t := 154) (by decide +kernel) (by decide) (fun _ => ?_) (fun _ => ?_)
      · refine sX_exit he1 ?_
        exact sX.le (xB154 v0 M) (sLe_s (sLe_n sLe_e))
      · refine sX_aload_n (i := 0) (by decide +kernel) rfl ?_
        refine sX_aload_n (i := 0) (by decide +kernel) rfl ?_
        refine sX_getR lf_X11_38 tk_11_4 (by decide +kernel) (fun x9 => ?_)
        refine sX_getR lf_X11_177 tk_8_3 (by decide +kernel) (fun x10 => ?_)
        refine sX_iload_n (i := 1) (by decide +kernel) rfl ?_
        refine sX_iaload (by decide +kernel) (fun x11 => ?_)
        refine sX_callVv (As := [.int x11]) (by decide +kernel) lm_X11_330 mf_X11_write mi_X11_write mc_11 (m_X11_write G l v0 x11 M) (fun _ h => sRc_some h) (by decide) rfl rfl (Nat.le_of_ble_eq_true rfl) (fun M12 => ?_)
        refine sX_aload_n (i := 0) (by decide +kernel) rfl ?_
        refine sX_aload_n (i := 0) (by decide +kernel) rfl ?_
        refine sX_getR lf_X11_38 tk_11_4 (by decide +kernel) (fun x13 => ?_)
        refine sX_getR lf_X11_180 tk_8_4 (by decide +kernel) (fun x14 => ?_)
        refine sX_iload_n (i := 1) (by decide +kernel) rfl ?_
        refine sX_iaload (by decide +kernel) (fun x15 => ?_)
        refine sX_callVv (As := [.int x15]) (by decide +kernel) lm_X11_330 mf_X11_write mi_X11_write mc_11 (m_X11_write G l v0 x15 M12) (fun _ h => sRc_some h) (by decide) rfl rfl (Nat.le_of_ble_eq_true rfl) (fun M16 => ?_)
        refine sX_aload_n (i := 0) (by decide +kernel) rfl ?_
        refine sX_aload_n (i := 0) (by decide +kernel) rfl ?_
        refine sX_getR lf_X11_38 tk_11_4 (by decide +kernel) (fun x17 => ?_)
        refine sX_getR lf_X11_183 tk_8_5 (by decide +kernel) (fun x18 => ?_)
        refine sX_iload_n (i := 1) (by decide +kernel) rfl ?_
        refine sX_iaload (by decide +kernel) (fun x19 => ?_)
        refine sX_callVv (As := [.int x19]) (by decide +kernel) lm_X11_327 mf_X11_writePair mi_X11_writePair mc_11 (m_X11_writePair G l v0 x19 M16) (fun _ h => sRc_some h) (by decide) rfl rfl (Nat.le_of_ble_eq_true rfl) (fun M20 => ?_)
        refine sX_iinc (i := 1) (n := 1) (v := v1 + (1 : Int32)) (ls2 := [some (.ref v0), some (.int (v1 + (1 : Int32)))]) (by decide +kernel) rfl rfl (by decide) rfl ?_
        refine sX_goto (o := -56) (t := 95) (by decide +kernel) (by decide) ?_
        exact sX_back (a := (((v1 + (1 : Int32))), M20)) hb1 rfl (sLe_s (sLe_s sLe_e))
    exact fun a => xK95 a.1 a.2
  have xB93 : ∀ (v0 : Nat) (M : sMem), sX G l 3 yX11_image cX11_image 2 (some .int) M0 r M' 93 [some (.ref v0), none] [] M (f_X11_image_B93 v0 M) K := by
    intro v0 M
    unfold f_X11_image_B93
    refine sX_iconst (n := 0) (v := (0 : Int32)) (by decide +kernel) (by decide) ?_
    refine sX_istore_n (i := 1) (ls2 := [some (.ref v0), some (.int (0 : Int32))]) (by decide +kernel) (by decide) rfl ?_
    exact sX.le (xL95 v0 ((0 : Int32)) M) (sLe_s (sLe_s sLe_e))
  have xL60 : ∀ (v0 : Nat) (v1 : Int32) (M : sMem), sX G l 3 yX11_image cX11_image 2 (some .int) M0 r M' 60 [some (.ref v0), some (.int v1)] [] M (f_X11_image_L60 v0 v1 M) K := by
    intro v0 v1 M
    unfold f_X11_image_L60
    refine sX_bind ?_
    refine sX_loop (LS := fun a : (Int32 × sMem) => [some (.ref v0), some (.int a.1)]) (MM := fun a => a.2) (fun K1 hb1 he1 => ?_) sFuel ((v1, M))
    have xK60 : ∀ (v1 : Int32) (M : sMem), sX G l 3 yX11_image cX11_image 2 (some .int) M0 r M' 60 [some (.ref v0), some (.int v1)] [] M (f_X11_image_K60 v0 v1 M) K1 := by
      intro v1 M
      unfold f_X11_image_K60
      refine sX_iload_n (i := 1) (by decide +kernel) rfl ?_
      refine sX_aload_n (i := 0) (by decide +kernel) rfl ?_
      refine sX_getR lf_X11_28 tk_11_2 (by decide +kernel) (fun x21 => ?_)
      refine sX_getR lf_X11_140 tk_1_4 (by decide +kernel) (fun x22 => ?_)
      refine sX_getI lf_X11_129 tk_9_3 (by decide +kernel) (fun x23 => ?_)
      refine sX_icge (o := 22) (t := 93) (by decide +kernel) (by decide) (fun _ => ?_) (fun _ => ?_)
      · refine sX_exit he1 ?_
        exact sX.le (xB93 v0 M) (sLe_s (sLe_n sLe_e))
      · refine sX_aload_n (i := 0) (by decide +kernel) rfl ?_
        refine sX_aload_n (i := 0) (by decide +kernel) rfl ?_
        refine sX_getR lf_X11_38 tk_11_4 (by decide +kernel) (fun x24 => ?_)
        refine sX_getR lf_X11_174 tk_8_2 (by decide +kernel) (fun x25 => ?_)
        refine sX_iload_n (i := 1) (by decide +kernel) rfl ?_
        refine sX_iaload (by decide +kernel) (fun x26 => ?_)
        refine sX_callVv (As := [.int x26]) (by decide +kernel) lm_X11_330 mf_X11_write mi_X11_write mc_11 (m_X11_write G l v0 x26 M) (fun _ h => sRc_some h) (by decide) rfl rfl (Nat.le_of_ble_eq_true rfl) (fun M27 => ?_)
        refine sX_iinc (i := 1) (n := 1) (v := v1 + (1 : Int32)) (ls2 := [some (.ref v0), some (.int (v1 + (1 : Int32)))]) (by decide +kernel) rfl rfl (by decide) rfl ?_
        refine sX_goto (o := -30) (t := 60) (by decide +kernel) (by decide) ?_
        exact sX_back (a := (((v1 + (1 : Int32))), M27)) hb1 rfl (sLe_s (sLe_s sLe_e))
    exact fun a => xK60 a.1 a.2
  have xB58 : ∀ (v0 : Nat) (M : sMem), sX G l 3 yX11_image cX11_image 2 (some .int) M0 r M' 58 [some (.ref v0), none] [] M (f_X11_image_B58 v0 M) K := by
    intro v0 M
    unfold f_X11_image_B58
    refine sX_iconst (n := 0) (v := (0 : Int32)) (by decide +kernel) (by decide) ?_
    refine sX_istore_n (i := 1) (ls2 := [some (.ref v0), some (.int (0 : Int32))]) (by decide +kernel) (by decide) rfl ?_
    exact sX.le (xL60 v0 ((0 : Int32)) M) (sLe_s (sLe_s sLe_e))
  have xL18 : ∀ (v0 : Nat) (v1 : Int32) (M : sMem), sX G l 3 yX11_image cX11_image 2 (some .int) M0 r M' 18 [some (.ref v0), some (.int v1)] [] M (f_X11_image_L18 v0 v1 M) K := by
    intro v0 v1 M
    unfold f_X11_image_L18
    refine sX_bind ?_
    refine sX_loop (LS := fun a : (Int32 × sMem) => [some (.ref v0), some (.int a.1)]) (MM := fun a => a.2) (fun K1 hb1 he1 => ?_) sFuel ((v1, M))
    have xB49 : ∀ (v1 : Int32) (s0 : Nat) (s1 : Int32) (M : sMem), sX G l 3 yX11_image cX11_image 2 (some .int) M0 r M' 49 [some (.ref v0), some (.int v1)] [.int s1, .ref s0] M (f_X11_image_B49 v0 v1 s0 s1 M) K1 := by
      intro v1 s0 s1 M
      unfold f_X11_image_B49
      refine sX_callVv (As := [.int s1]) (by decide +kernel) lm_X11_330 mf_X11_write mi_X11_write mc_11 (m_X11_write G l s0 s1 M) (fun _ h => sRc_some h) (by decide) rfl rfl (Nat.le_of_ble_eq_true rfl) (fun M28 => ?_)
      refine sX_iinc (i := 1) (n := 1) (v := v1 + (1 : Int32)) (ls2 := [some (.ref v0), some (.int (v1 + (1 : Int32)))]) (by decide +kernel) rfl rfl (by decide) rfl ?_
      refine sX_goto (o := -37) (t := 18) (by decide +kernel) (by decide) ?_
      exact sX_back (a := (((v1 + (1 : Int32))), M28)) hb1 rfl (sLe_s (sLe_s sLe_e))
    have xK18 : ∀ (v1 : Int32) (M : sMem), sX G l 3 yX11_image cX11_image 2 (some .int) M0 r M' 18 [some (.ref v0), some (.int v1)] [] M (f_X11_image_K18 v0 v1 M) K1 := by
      intro v1 M
      unfold f_X11_image_K18
      refine sX_iload_n (i := 1) (by decide +kernel) rfl ?_
      refine sX_aload_n (i := 0) (by decide +kernel) rfl ?_
      refine sX_getR lf_X11_28 tk_11_2 (by decide +kernel) (fun x29 => ?_)
      refine sX_getR lf_X11_125 tk_1_1 (by decide +kernel) (fun x30 => ?_)
      refine sX_getI lf_X11_129 tk_9_3 (by decide +kernel) (fun x31 => ?_)
      refine sX_icge (o := 29) (t := 58) (by decide +kernel) (by decide) (fun _ => ?_) (fun _ => ?_)
      · refine sX_exit he1 ?_
        exact sX.le (xB58 v0 M) (sLe_s (sLe_n sLe_e))
      · refine sX_aload_n (i := 0) (by decide +kernel) rfl ?_
        refine sX_aload_n (i := 0) (by decide +kernel) rfl ?_
        refine sX_getR lf_X11_38 tk_11_4 (by decide +kernel) (fun x32 => ?_)
        refine sX_iload_n (i := 1) (by decide +kernel) rfl ?_
        refine sX_callVp (As := [.int v1]) (by decide +kernel) lm_X11_171 mf_X8_isUp mi_X8_isUp mc_8 (m_X8_isUp G l x32 v1 M) (fun _ h => sRc_some h) (by decide) rfl rfl (Nat.le_of_ble_eq_true rfl) (fun x33 => ?_)
        refine sX_ifeq (o := 7) (t := 48) (by decide +kernel) (by decide) (fun _ => ?_) (fun _ => ?_)
        · refine sX_iconst (n := 0) (v := (0 : Int32)) (by decide +kernel) (by decide) ?_
          exact sX.le (xB49 v1 v0 ((0 : Int32)) M) (sLe_s (sLe_s sLe_e))
        · refine sX_iconst (n := 1) (v := (1 : Int32)) (by decide +kernel) (by decide) ?_
          refine sX_goto (o := 4) (t := 49) (by decide +kernel) (by decide) ?_
          exact sX.le (xB49 v1 v0 ((1 : Int32)) M) (sLe_s (sLe_s sLe_e))
    exact fun a => xK18 a.1 a.2
  refine sX_rc ?_
  refine sX_aload_n (i := 0) (by decide +kernel) rfl ?_
  refine sX_iconst (n := 0) (v := (0 : Int32)) (by decide +kernel) (by decide) ?_
  refine sX_putI lf_X11_324 tp_11_17 (by decide +kernel) (by decide) (fun M34 => ?_)
  refine sX_aload_n (i := 0) (by decide +kernel) rfl ?_
  refine sX_aload_n (i := 0) (by decide +kernel) rfl ?_
  refine sX_getR lf_X11_38 tk_11_4 (by decide +kernel) (fun x35 => ?_)
  refine sX_getI lf_X11_146 tk_8_0 (by decide +kernel) (fun x36 => ?_)
  refine sX_callVv (As := [.int x36]) (by decide +kernel) lm_X11_327 mf_X11_writePair mi_X11_writePair mc_11 (m_X11_writePair G l v0 x36 M34) (fun _ h => sRc_some h) (by decide) rfl rfl (Nat.le_of_ble_eq_true rfl) (fun M37 => ?_)
  refine sX_iconst (n := 0) (v := (0 : Int32)) (by decide +kernel) (by decide) ?_
  refine sX_istore_n (i := 1) (ls2 := [some (.ref v0), some (.int (0 : Int32))]) (by decide +kernel) (by decide) rfl ?_
  exact sX.le (xL18 v0 ((0 : Int32)) M37) (sLe_s (sLe_s sLe_e))
def f_X11_octet (v0 : Nat) (v1 : Int32) (M0 : sMem) : Option Int32 :=
  sRc 11 20 M0 v0 (
    if v1 < 0 then
      some ((-1 : Int32))
    else
      (gI 11 20 17 M0 v0).bind fun x1 =>
      if x1 ≤ v1 then
        some ((-1 : Int32))
      else
        (gR 11 20 16 M0 v0).bind fun x2 =>
        (ldI 14 M0 x2 v1).bind fun x3 =>
        some x3)
set_option maxRecDepth 100000 in
set_option maxHeartbeats 4000000 in
theorem m_X11_octet (G : sG) (l : Launch) (v0 : Nat) (v1 : Int32) (M0 : sMem) : sCp G l 1 yX11_octet cX11_octet 2 (some .int) [.ref v0, .int v1] M0 rvI (f_X11_octet v0 v1 M0) := by
  refine sC_p (ls := [some (.ref v0), some (.int v1)]) (by decide +kernel) rfl (Nat.le_of_ble_eq_true rfl) (fun r M' K hr => ?_)
  unfold f_X11_octet
  refine sX_rc ?_
  refine sX_iload_n (i := 1) (by decide +kernel) rfl ?_
  refine sX_iflt (o := 20) (t := 21) (by decide +kernel) (by decide) (fun _ => ?_) (fun _ => ?_)
  · refine sX_iconst (n := -1) (v := (-1 : Int32)) (by decide +kernel) (by decide) ?_
    exact sX_some (fun h _ => sW_iret (by decide +kernel) rfl (hr _ h).1.symm (hr _ h).2.symm)
  · refine sX_iload_n (i := 1) (by decide +kernel) rfl ?_
    refine sX_aload_n (i := 0) (by decide +kernel) rfl ?_
    refine sX_getI lf_X11_324 tk_11_17 (by decide +kernel) (fun x1 => ?_)
    refine sX_icge (o := 12) (t := 21) (by decide +kernel) (by decide) (fun _ => ?_) (fun _ => ?_)
    · refine sX_iconst (n := -1) (v := (-1 : Int32)) (by decide +kernel) (by decide) ?_
      exact sX_some (fun h _ => sW_iret (by decide +kernel) rfl (hr _ h).1.symm (hr _ h).2.symm)
    · refine sX_aload_n (i := 0) (by decide +kernel) rfl ?_
      refine sX_getR lf_X11_79 tk_11_16 (by decide +kernel) (fun x2 => ?_)
      refine sX_iload_n (i := 1) (by decide +kernel) rfl ?_
      refine sX_iaload (by decide +kernel) (fun x3 => ?_)
      refine sX_goto (o := 4) (t := 22) (by decide +kernel) (by decide) ?_
      exact sX_some (fun h _ => sW_iret (by decide +kernel) rfl (hr _ h).1.symm (hr _ h).2.symm)
def f_X11_pairAt (v0 : Nat) (v1 : Int32) (M0 : sMem) : Option Int32 :=
  sRc 11 20 M0 v0 (
    (gR 11 20 0 M0 v0).bind fun x1 =>
    (f_X10_byteAt x1 v1 M0).bind fun x2 =>
    (gR 11 20 0 M0 v0).bind fun x3 =>
    (f_X10_byteAt x3 ((v1 + (1 : Int32))) M0).bind fun x4 =>
    some (((x2 * (256 : Int32)) + x4)))
set_option maxRecDepth 100000 in
set_option maxHeartbeats 4000000 in
theorem m_X11_pairAt (G : sG) (l : Launch) (v0 : Nat) (v1 : Int32) (M0 : sMem) : sCp G l 2 yX11_pairAt cX11_pairAt 2 (some .int) [.ref v0, .int v1] M0 rvI (f_X11_pairAt v0 v1 M0) := by
  refine sC_p (ls := [some (.ref v0), some (.int v1)]) (by decide +kernel) rfl (Nat.le_of_ble_eq_true rfl) (fun r M' K hr => ?_)
  unfold f_X11_pairAt
  refine sX_rc ?_
  refine sX_aload_n (i := 0) (by decide +kernel) rfl ?_
  refine sX_getR lf_X11_12 tk_11_0 (by decide +kernel) (fun x1 => ?_)
  refine sX_iload_n (i := 1) (by decide +kernel) rfl ?_
  refine sX_callVp (As := [.int v1]) (by decide +kernel) lm_X11_264 mf_X10_byteAt mi_X10_byteAt mc_10 (m_X10_byteAt G l x1 v1 M0) (fun _ h => sRc_some h) (by decide) rfl rfl (Nat.le_of_ble_eq_true rfl) (fun x2 => ?_)
  refine sX_sipush (n := 256) (v := (256 : Int32)) (by decide +kernel) (by decide) ?_
  refine sX_imul (by decide +kernel) ?_
  refine sX_aload_n (i := 0) (by decide +kernel) rfl ?_
  refine sX_getR lf_X11_12 tk_11_0 (by decide +kernel) (fun x3 => ?_)
  refine sX_iload_n (i := 1) (by decide +kernel) rfl ?_
  refine sX_iconst (n := 1) (v := (1 : Int32)) (by decide +kernel) (by decide) ?_
  refine sX_iadd (by decide +kernel) ?_
  refine sX_callVp (As := [.int (v1 + (1 : Int32))]) (by decide +kernel) lm_X11_264 mf_X10_byteAt mi_X10_byteAt mc_10 (m_X10_byteAt G l x3 ((v1 + (1 : Int32))) M0) (fun _ h => sRc_some h) (by decide) rfl rfl (Nat.le_of_ble_eq_true rfl) (fun x4 => ?_)
  refine sX_iadd (by decide +kernel) ?_
  exact sX_some (fun h _ => sW_iret (by decide +kernel) rfl (hr _ h).1.symm (hr _ h).2.symm)
def f_X11_readCarImage_B96 (v0 : Nat) (v1 : Int32) (M : sMem) : Option (Int32 × sMem) :=
  (gR 11 20 5 M v0).bind fun x1 =>
  (gR 8 8 3 M x1).bind fun x2 =>
  (ldI 14 M x2 v1).bind fun x3 =>
  (gR 11 20 5 M v0).bind fun x4 =>
  (gR 8 8 4 M x4).bind fun x5 =>
  (ldI 14 M x5 v1).bind fun x6 =>
  if x3 = x6 then
    some (((0 : Int32), M))
  else
    (gR 11 20 5 M v0).bind fun x7 =>
    (gR 8 8 5 M x7).bind fun x8 =>
    (ldI 14 M x8 v1).bind fun x9 =>
    if (999 : Int32) < x9 then
      some (((0 : Int32), M))
    else
      some (((1 : Int32), M))
def f_X11_readCarImage (v0 : Nat) (v1 : Int32) (v2 : Int32) (M0 : sMem) : Option (Int32 × sMem) :=
  sRc 11 20 M0 v0 (
    (gR 11 20 5 M0 v0).bind fun x10 =>
    (gR 8 8 3 M0 x10).bind fun x11 =>
    (gR 11 20 0 M0 v0).bind fun x12 =>
    (f_X10_byteAt x12 v2 M0).bind fun x13 =>
    (stI M0 x11 v1 x13).bind fun M14 =>
    (gR 11 20 5 M14 v0).bind fun x15 =>
    (gR 8 8 4 M14 x15).bind fun x16 =>
    (gR 11 20 0 M14 v0).bind fun x17 =>
    (f_X10_byteAt x17 ((v2 + (1 : Int32))) M14).bind fun x18 =>
    (stI M14 x16 v1 x18).bind fun M19 =>
    (gR 11 20 5 M19 v0).bind fun x20 =>
    (gR 8 8 5 M19 x20).bind fun x21 =>
    (f_X11_pairAt v0 ((v2 + (2 : Int32))) M19).bind fun x22 =>
    (stI M19 x21 v1 x22).bind fun M23 =>
    (gR 11 20 2 M23 v0).bind fun x24 =>
    (gR 1 10 2 M23 x24).bind fun x25 =>
    (gR 11 20 5 M23 v0).bind fun x26 =>
    (gR 8 8 3 M23 x26).bind fun x27 =>
    (ldI 14 M23 x27 v1).bind fun x28 =>
    (f_X9_isThere x25 x28 M23).bind fun x29 =>
    if x29 = 0 then
      some (((0 : Int32), M23))
    else
      (gR 11 20 2 M23 v0).bind fun x30 =>
      (gR 1 10 2 M23 x30).bind fun x31 =>
      (gR 11 20 5 M23 v0).bind fun x32 =>
      (gR 8 8 4 M23 x32).bind fun x33 =>
      (ldI 14 M23 x33 v1).bind fun x34 =>
      (f_X9_isThere x31 x34 M23).bind fun x35 =>
      if x35 = 0 then
        some (((0 : Int32), M23))
      else
        f_X11_readCarImage_B96 v0 v1 M23)
set_option maxRecDepth 100000 in
set_option maxHeartbeats 4000000 in
theorem m_X11_readCarImage (G : sG) (l : Launch) (v0 : Nat) (v1 : Int32) (v2 : Int32) (M0 : sMem) : sC G l 3 yX11_readCarImage cX11_readCarImage 3 (some .boolean) [.ref v0, .int v1, .int v2] M0 rvI (f_X11_readCarImage v0 v1 v2 M0) := by
  refine sC_m (ls := [some (.ref v0), some (.int v1), some (.int v2)]) (by decide +kernel) rfl (Nat.le_of_ble_eq_true rfl) (fun r M' K hr => ?_)
  unfold f_X11_readCarImage
  have xB96 : ∀ (v0 : Nat) (v1 : Int32) (M : sMem), sX G l 3 yX11_readCarImage cX11_readCarImage 3 (some .boolean) M0 r M' 96 [some (.ref v0), some (.int v1), none] [] M (f_X11_readCarImage_B96 v0 v1 M) K := by
    intro v0 v1 M
    unfold f_X11_readCarImage_B96
    refine sX_aload_n (i := 0) (by decide +kernel) rfl ?_
    refine sX_getR lf_X11_42 tk_11_5 (by decide +kernel) (fun x1 => ?_)
    refine sX_getR lf_X11_177 tk_8_3 (by decide +kernel) (fun x2 => ?_)
    refine sX_iload_n (i := 1) (by decide +kernel) rfl ?_
    refine sX_iaload (by decide +kernel) (fun x3 => ?_)
    refine sX_aload_n (i := 0) (by decide +kernel) rfl ?_
    refine sX_getR lf_X11_42 tk_11_5 (by decide +kernel) (fun x4 => ?_)
    refine sX_getR lf_X11_180 tk_8_4 (by decide +kernel) (fun x5 => ?_)
    refine sX_iload_n (i := 1) (by decide +kernel) rfl ?_
    refine sX_iaload (by decide +kernel) (fun x6 => ?_)
    refine sX_iceq (o := 22) (t := 136) (by decide +kernel) (by decide) (fun _ => ?_) (fun _ => ?_)
    · refine sX_iconst (n := 0) (v := (0 : Int32)) (by decide +kernel) (by decide) ?_
      exact sX_some (fun h _ => sW_zret (by decide +kernel) rfl (by decide) (hr _ h).1.symm (hr _ h).2.symm)
    · refine sX_aload_n (i := 0) (by decide +kernel) rfl ?_
      refine sX_getR lf_X11_42 tk_11_5 (by decide +kernel) (fun x7 => ?_)
      refine sX_getR lf_X11_183 tk_8_5 (by decide +kernel) (fun x8 => ?_)
      refine sX_iload_n (i := 1) (by decide +kernel) rfl ?_
      refine sX_iaload (by decide +kernel) (fun x9 => ?_)
      refine sX_sipush (n := 999) (v := (999 : Int32)) (by decide +kernel) (by decide) ?_
      refine sX_icgt (o := 7) (t := 136) (by decide +kernel) (by decide) (fun _ => ?_) (fun _ => ?_)
      · refine sX_iconst (n := 0) (v := (0 : Int32)) (by decide +kernel) (by decide) ?_
        exact sX_some (fun h _ => sW_zret (by decide +kernel) rfl (by decide) (hr _ h).1.symm (hr _ h).2.symm)
      · refine sX_iconst (n := 1) (v := (1 : Int32)) (by decide +kernel) (by decide) ?_
        refine sX_goto (o := 4) (t := 137) (by decide +kernel) (by decide) ?_
        exact sX_some (fun h _ => sW_zret (by decide +kernel) rfl (by decide) (hr _ h).1.symm (hr _ h).2.symm)
  refine sX_rc ?_
  refine sX_aload_n (i := 0) (by decide +kernel) rfl ?_
  refine sX_getR lf_X11_42 tk_11_5 (by decide +kernel) (fun x10 => ?_)
  refine sX_getR lf_X11_177 tk_8_3 (by decide +kernel) (fun x11 => ?_)
  refine sX_iload_n (i := 1) (by decide +kernel) rfl ?_
  refine sX_aload_n (i := 0) (by decide +kernel) rfl ?_
  refine sX_getR lf_X11_12 tk_11_0 (by decide +kernel) (fun x12 => ?_)
  refine sX_iload_n (i := 2) (by decide +kernel) rfl ?_
  refine sX_callVp (As := [.int v2]) (by decide +kernel) lm_X11_264 mf_X10_byteAt mi_X10_byteAt mc_10 (m_X10_byteAt G l x12 v2 M0) (fun _ h => sRc_some h) (by decide) rfl rfl (Nat.le_of_ble_eq_true rfl) (fun x13 => ?_)
  refine sX_iastore (by decide +kernel) (by decide) (fun M14 => ?_)
  refine sX_aload_n (i := 0) (by decide +kernel) rfl ?_
  refine sX_getR lf_X11_42 tk_11_5 (by decide +kernel) (fun x15 => ?_)
  refine sX_getR lf_X11_180 tk_8_4 (by decide +kernel) (fun x16 => ?_)
  refine sX_iload_n (i := 1) (by decide +kernel) rfl ?_
  refine sX_aload_n (i := 0) (by decide +kernel) rfl ?_
  refine sX_getR lf_X11_12 tk_11_0 (by decide +kernel) (fun x17 => ?_)
  refine sX_iload_n (i := 2) (by decide +kernel) rfl ?_
  refine sX_iconst (n := 1) (v := (1 : Int32)) (by decide +kernel) (by decide) ?_
  refine sX_iadd (by decide +kernel) ?_
  refine sX_callVp (As := [.int (v2 + (1 : Int32))]) (by decide +kernel) lm_X11_264 mf_X10_byteAt mi_X10_byteAt mc_10 (m_X10_byteAt G l x17 ((v2 + (1 : Int32))) M14) (fun _ h => sRc_some h) (by decide) rfl rfl (Nat.le_of_ble_eq_true rfl) (fun x18 => ?_)
  refine sX_iastore (by decide +kernel) (by decide) (fun M19 => ?_)
  refine sX_aload_n (i := 0) (by decide +kernel) rfl ?_
  refine sX_getR lf_X11_42 tk_11_5 (by decide +kernel) (fun x20 => ?_)
  refine sX_getR lf_X11_183 tk_8_5 (by decide +kernel) (fun x21 => ?_)
  refine sX_iload_n (i := 1) (by decide +kernel) rfl ?_
  refine sX_aload_n (i := 0) (by decide +kernel) rfl ?_
  refine sX_iload_n (i := 2) (by decide +kernel) rfl ?_
  refine sX_iconst (n := 2) (v := (2 : Int32)) (by decide +kernel) (by decide) ?_
  refine sX_iadd (by decide +kernel) ?_
  refine sX_callVp (As := [.int (v2 + (2 : Int32))]) (by decide +kernel) lm_X11_388 mf_X11_pairAt mi_X11_pairAt mc_11 (m_X11_pairAt G l v0 ((v2 + (2 : Int32))) M19) (fun _ h => sRc_some h) (by decide) rfl rfl (Nat.le_of_ble_eq_true rfl) (fun x22 => ?_)
  refine sX_iastore (by decide +kernel) (by decide) (fun M23 => ?_)
  refine sX_aload_n (i := 0) (by decide +kernel) rfl ?_
  refine sX_getR lf_X11_28 tk_11_2 (by decide +kernel) (fun x24 => ?_)
  refine sX_getR lf_X11_134 tk_1_2 (by decide +kernel) (fun x25 => ?_)
  refine sX_aload_n (i := 0) (by decide +kernel) rfl ?_
  refine sX_getR lf_X11_42 tk_11_5 (by decide +kernel) (fun x26 => ?_)
  refine sX_getR lf_X11_177 tk_8_3 (by decide +kernel) (fun x27 => ?_)
  refine sX_iload_n (i := 1) (by decide +kernel) rfl ?_
  refine sX_iaload (by decide +kernel) (fun x28 => ?_)
  refine sX_callVp (As := [.int x28]) (by decide +kernel) lm_X11_164 mf_X9_isThere mi_X9_isThere mc_9 (m_X9_isThere G l x25 x28 M23) (fun _ h => sRc_some h) (by decide) rfl rfl (Nat.le_of_ble_eq_true rfl) (fun x29 => ?_)
  refine sX_ifeq (o := 65) (t := 136) (by decide +kernel) (by decide) (fun _ => ?_) (fun _ => ?_)
  · refine sX_iconst (n := 0) (v := (0 : Int32)) (by decide +kernel) (by decide) ?_
    exact sX_some (fun h _ => sW_zret (by decide +kernel) rfl (by decide) (hr _ h).1.symm (hr _ h).2.symm)
  · refine sX_aload_n (i := 0) (by decide +kernel) rfl ?_
    refine sX_getR lf_X11_28 tk_11_2 (by decide +kernel) (fun x30 => ?_)
    refine sX_getR lf_X11_134 tk_1_2 (by decide +kernel) (fun x31 => ?_)
    refine sX_aload_n (i := 0) (by decide +kernel) rfl ?_
    refine sX_getR lf_X11_42 tk_11_5 (by decide +kernel) (fun x32 => ?_)
    refine sX_getR lf_X11_180 tk_8_4 (by decide +kernel) (fun x33 => ?_)
    refine sX_iload_n (i := 1) (by decide +kernel) rfl ?_
    refine sX_iaload (by decide +kernel) (fun x34 => ?_)
    refine sX_callVp (As := [.int x34]) (by decide +kernel) lm_X11_164 mf_X9_isThere mi_X9_isThere mc_9 (m_X9_isThere G l x31 x34 M23) (fun _ h => sRc_some h) (by decide) rfl rfl (Nat.le_of_ble_eq_true rfl) (fun x35 => ?_)
    refine sX_ifeq (o := 43) (t := 136) (by decide +kernel) (by decide) (fun _ => ?_) (fun _ => ?_)
    · refine sX_iconst (n := 0) (v := (0 : Int32)) (by decide +kernel) (by decide) ?_
      exact sX_some (fun h _ => sW_zret (by decide +kernel) rfl (by decide) (hr _ h).1.symm (hr _ h).2.symm)
    · exact sX.le (xB96 v0 v1 M23) (sLe_s (sLe_s (sLe_n sLe_e)))
