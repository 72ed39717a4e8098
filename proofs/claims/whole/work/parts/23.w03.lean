def f_X10_note (v0 : Nat) (v1 : Int32) (v2 : Int32) (v3 : Int32) (v4 : Int32) (M0 : sMem) : Option sMem :=
  sRc 10 10 M0 v0 (
    (gI 10 10 6 M0 v0).bind fun x1 =>
    (gR 10 10 2 M0 v0).bind fun x2 =>
    (aL 14 M0 x2).bind fun x3 =>
    if x3 ≤ x1 then
      some M0
    else
      (gR 10 10 2 M0 v0).bind fun x4 =>
      (gI 10 10 6 M0 v0).bind fun x5 =>
      (stI M0 x4 x5 v1).bind fun M6 =>
      (gR 10 10 3 M6 v0).bind fun x7 =>
      (gI 10 10 6 M6 v0).bind fun x8 =>
      (stI M6 x7 x8 v2).bind fun M9 =>
      (gR 10 10 4 M9 v0).bind fun x10 =>
      (gI 10 10 6 M9 v0).bind fun x11 =>
      (stI M9 x10 x11 v3).bind fun M12 =>
      (gR 10 10 5 M12 v0).bind fun x13 =>
      (gI 10 10 6 M12 v0).bind fun x14 =>
      (stI M12 x13 x14 v4).bind fun M15 =>
      (gI 10 10 6 M15 v0).bind fun x16 =>
      (pI 10 10 6 M15 v0 ((x16 + (1 : Int32)))).bind fun M17 =>
      some M17)
set_option maxRecDepth 100000 in
set_option maxHeartbeats 4000000 in
theorem m_X10_note (G : sG) (l : Launch) (v0 : Nat) (v1 : Int32) (v2 : Int32) (v3 : Int32) (v4 : Int32) (M0 : sMem) : sCv G l 1 yX10_note cX10_note 5 none [.ref v0, .int v1, .int v2, .int v3, .int v4] M0 (f_X10_note v0 v1 v2 v3 v4 M0) := by
  refine sC_v (ls := [some (.ref v0), some (.int v1), some (.int v2), some (.int v3), some (.int v4)]) (by decide +kernel) rfl (Nat.le_of_ble_eq_true rfl) (fun r M' K hr => ?_)
  unfold f_X10_note
  refine sX_rc ?_
  refine sX_aload_n (i := 0) (by decide +kernel) rfl ?_
  refine sX_getI lf_X10_40 tk_10_6 (by decide +kernel) (fun x1 => ?_)
  refine sX_aload_n (i := 0) (by decide +kernel) rfl ?_
  refine sX_getR lf_X10_15 tk_10_2 (by decide +kernel) (fun x2 => ?_)
  refine sX_alen (by decide) (by decide) (by decide +kernel) (fun x3 => ?_)
  refine sX_icge (o := 54) (t := 63) (by decide +kernel) (by decide) (fun _ => ?_) (fun _ => ?_)
  · exact sX_some (fun h _ => sW_vret (by decide +kernel) rfl (hr _ h).1.symm (hr _ h).2.symm)
  · refine sX_aload_n (i := 0) (by decide +kernel) rfl ?_
    refine sX_getR lf_X10_15 tk_10_2 (by decide +kernel) (fun x4 => ?_)
    refine sX_aload_n (i := 0) (by decide +kernel) rfl ?_
    refine sX_getI lf_X10_40 tk_10_6 (by decide +kernel) (fun x5 => ?_)
    refine sX_iload_n (i := 1) (by decide +kernel) rfl ?_
    refine sX_iastore (by decide +kernel) (by decide) (fun M6 => ?_)
    refine sX_aload_n (i := 0) (by decide +kernel) rfl ?_
    refine sX_getR lf_X10_18 tk_10_3 (by decide +kernel) (fun x7 => ?_)
    refine sX_aload_n (i := 0) (by decide +kernel) rfl ?_
    refine sX_getI lf_X10_40 tk_10_6 (by decide +kernel) (fun x8 => ?_)
    refine sX_iload_n (i := 2) (by decide +kernel) rfl ?_
    refine sX_iastore (by decide +kernel) (by decide) (fun M9 => ?_)
    refine sX_aload_n (i := 0) (by decide +kernel) rfl ?_
    refine sX_getR lf_X10_21 tk_10_4 (by decide +kernel) (fun x10 => ?_)
    refine sX_aload_n (i := 0) (by decide +kernel) rfl ?_
    refine sX_getI lf_X10_40 tk_10_6 (by decide +kernel) (fun x11 => ?_)
    refine sX_iload_n (i := 3) (by decide +kernel) rfl ?_
    refine sX_iastore (by decide +kernel) (by decide) (fun M12 => ?_)
    refine sX_aload_n (i := 0) (by decide +kernel) rfl ?_
    refine sX_getR lf_X10_24 tk_10_5 (by decide +kernel) (fun x13 => ?_)
    refine sX_aload_n (i := 0) (by decide +kernel) rfl ?_
    refine sX_getI lf_X10_40 tk_10_6 (by decide +kernel) (fun x14 => ?_)
    refine sX_iload (i := 4) (by decide +kernel) rfl ?_
    refine sX_iastore (by decide +kernel) (by decide) (fun M15 => ?_)
    refine sX_aload_n (i := 0) (by decide +kernel) rfl ?_
    refine sX_dup (by decide +kernel) rfl ?_
    refine sX_getI lf_X10_40 tk_10_6 (by decide +kernel) (fun x16 => ?_)
    refine sX_iconst (n := 1) (v := (1 : Int32)) (by decide +kernel) (by decide) ?_
    refine sX_iadd (by decide +kernel) ?_
    refine sX_putI lf_X10_40 tp_10_6 (by decide +kernel) (by decide) (fun M17 => ?_)
    exact sX_some (fun h _ => sW_vret (by decide +kernel) rfl (hr _ h).1.symm (hr _ h).2.symm)
def f_X10_valueBetween_K5 (v0 : Nat) (v1 : Int32) (v2 : Int32) (v3 : Int32) (v4 : Int32) (M0 : sMem) : Option ((Int32 × Int32) ⊕ ((Int32))) :=
  if v2 ≤ v4 then
    some (.inr v3)
  else
    if (v1 + (4 : Int32)) ≤ v4 then
      some (.inr v3)
    else
      (f_X10_byteAt v0 v4 M0).bind fun x1 =>
      some (.inl ((((((v3 * (10 : Int32)) + x1) - (48 : Int32))), ((v4 + (1 : Int32))))))
def f_X10_valueBetween_L5 (v0 : Nat) (v1 : Int32) (v2 : Int32) (v3 : Int32) (v4 : Int32) (M0 : sMem) : Option Int32 :=
  (sItr (fun a : (Int32 × Int32) => f_X10_valueBetween_K5 v0 v1 v2 a.1 a.2 M0) sFuel (v3, v4)).bind (fun b => some b)
def f_X10_valueBetween (v0 : Nat) (v1 : Int32) (v2 : Int32) (M0 : sMem) : Option Int32 :=
  sRc 10 10 M0 v0 (
    f_X10_valueBetween_L5 v0 v1 v2 ((0 : Int32)) v1 M0)
set_option maxRecDepth 100000 in
set_option maxHeartbeats 4000000 in
theorem m_X10_valueBetween (G : sG) (l : Launch) (v0 : Nat) (v1 : Int32) (v2 : Int32) (M0 : sMem) : sCp G l 2 yX10_valueBetween cX10_valueBetween 5 (some .int) [.ref v0, .int v1, .int v2] M0 rvI (f_X10_valueBetween v0 v1 v2 M0) := by
  refine sC_p (ls := [some (.ref v0), some (.int v1), some (.int v2), none, none]) (by decide +kernel) rfl (Nat.le_of_ble_eq_true rfl) (fun r M' K hr => ?_)
  unfold f_X10_valueBetween
  have xL5 : ∀ (v0 : Nat) (v1 : Int32) (v2 : Int32) (v3 : Int32) (v4 : Int32), sX G l 2 yX10_valueBetween cX10_valueBetween 5 (some .int) M0 r M' 5 [some (.ref v0), some (.int v1), some (.int v2), some (.int v3), some (.int v4)] [] M0 (f_X10_valueBetween_L5 v0 v1 v2 v3 v4 M0) K := by
    intro v0 v1 v2 v3 v4
    unfold f_X10_valueBetween_L5
    refine sX_bind ?_
    refine sX_loop (LS := fun a : (Int32 × Int32) => [some (.ref v0), some (.int v1), some (.int v2), some (.int a.1), some (.int a.2)]) (MM := fun a => M0) (fun K1 hb1 he1 => ?_) sFuel ((v3, v4))
    have xK5 : ∀ (v3 : Int32) (v4 : Int32), sX G l 2 yX10_valueBetween cX10_valueBetween 5 (some .int) M0 r M' 5 [some (.ref v0), some (.int v1), some (.int v2), some (.int v3), some (.int v4)] [] M0 (f_X10_valueBetween_K5 v0 v1 v2 v3 v4 M0) K1 := by
      intro v3 v4
      unfold f_X10_valueBetween_K5
      refine sX_iload (i := 4) (by decide +kernel) rfl ?_
      refine sX_iload_n (i := 2) (by decide +kernel) rfl ?_
      refine sX_icge (o := 32) (t := 40) (by decide +kernel) (by decide) (fun _ => ?_) (fun _ => ?_)
      · refine sX_iload_n (i := 3) (by decide +kernel) rfl ?_
        refine sX_exit he1 ?_
        exact sX_some (fun h _ => sW_iret (by decide +kernel) rfl (hr _ h).1.symm (hr _ h).2.symm)
      · refine sX_iload (i := 4) (by decide +kernel) rfl ?_
        refine sX_iload_n (i := 1) (by decide +kernel) rfl ?_
        refine sX_iconst (n := 4) (v := (4 : Int32)) (by decide +kernel) (by decide) ?_
        refine sX_iadd (by decide +kernel) ?_
        refine sX_icge (o := 24) (t := 40) (by decide +kernel) (by decide) (fun _ => ?_) (fun _ => ?_)
        · refine sX_iload_n (i := 3) (by decide +kernel) rfl ?_
          refine sX_exit he1 ?_
          exact sX_some (fun h _ => sW_iret (by decide +kernel) rfl (hr _ h).1.symm (hr _ h).2.symm)
        · refine sX_iload_n (i := 3) (by decide +kernel) rfl ?_
          refine sX_bipush (n := 10) (v := (10 : Int32)) (by decide +kernel) (by decide) ?_
          refine sX_imul (by decide +kernel) ?_
          refine sX_aload_n (i := 0) (by decide +kernel) rfl ?_
          refine sX_iload (i := 4) (by decide +kernel) rfl ?_
          refine sX_callVp (As := [.int v4]) (by decide +kernel) lm_X10_72 mf_X10_byteAt mi_X10_byteAt mc_10 (m_X10_byteAt G l v0 v4 M0) (fun _ h => sRc_some h) (by decide) rfl rfl (Nat.le_of_ble_eq_true rfl) (fun x1 => ?_)
          refine sX_iadd (by decide +kernel) ?_
          refine sX_bipush (n := 48) (v := (48 : Int32)) (by decide +kernel) (by decide) ?_
          refine sX_isub (by decide +kernel) ?_
          refine sX_istore_n (i := 3) (ls2 := [some (.ref v0), some (.int v1), some (.int v2), some (.int (((v3 * (10 : Int32)) + x1) - (48 : Int32))), some (.int v4)]) (by decide +kernel) (by decide) rfl ?_
          refine sX_iinc (i := 4) (n := 1) (v := v4 + (1 : Int32)) (ls2 := [some (.ref v0), some (.int v1), some (.int v2), some (.int (((v3 * (10 : Int32)) + x1) - (48 : Int32))), some (.int (v4 + (1 : Int32)))]) (by decide +kernel) rfl rfl (by decide) rfl ?_
          refine sX_goto (o := -32) (t := 5) (by decide +kernel) (by decide) ?_
          exact sX_back (a := (((((v3 * (10 : Int32)) + x1) - (48 : Int32))), ((v4 + (1 : Int32))))) hb1 rfl (sLe_s (sLe_s (sLe_s (sLe_s (sLe_s sLe_e)))))
    exact fun a => xK5 a.1 a.2
  refine sX_rc ?_
  refine sX_iconst (n := 0) (v := (0 : Int32)) (by decide +kernel) (by decide) ?_
  refine sX_istore_n (i := 3) (ls2 := [some (.ref v0), some (.int v1), some (.int v2), some (.int (0 : Int32)), none]) (by decide +kernel) (by decide) rfl ?_
  refine sX_iload_n (i := 1) (by decide +kernel) rfl ?_
  refine sX_istore (i := 4) (ls2 := [some (.ref v0), some (.int v1), some (.int v2), some (.int (0 : Int32)), some (.int v1)]) (by decide +kernel) (by decide) rfl ?_
  exact sX.le (xL5 v0 v1 v2 ((0 : Int32)) v1) (sLe_s (sLe_s (sLe_s (sLe_s (sLe_s sLe_e)))))
def f_X10_cutToken_B18 (v1 : Int32) (M : sMem) : Option (Int32 × sMem) :=
  some (((v1 + (1 : Int32)), M))
def f_X10_cutToken_B93 (v0 : Nat) (v1 : Int32) (v3 : Int32) (s0 : Nat) (s1 : Int32) (M : sMem) : Option (Int32 × sMem) :=
  (f_X10_valueBetween v0 v1 v3 M).bind fun x1 =>
  (f_X10_note s0 s1 v1 v3 x1 M).bind fun M2 =>
  some ((v3, M2))
def f_X10_cutToken_B51 (v0 : Nat) (v1 : Int32) (v3 : Int32) (s0 : Nat) (s1 : Int32) (M : sMem) : Option (Int32 × sMem) :=
  (f_X10_wordBetween v0 v1 v3 M).bind fun (x3, M4) =>
  (f_X10_note s0 s1 v1 v3 x3 M4).bind fun M5 =>
  some ((v3, M5))
def f_X10_cutToken (v0 : Nat) (v1 : Int32) (M0 : sMem) : Option (Int32 × sMem) :=
  sRc 10 10 M0 v0 (
    (f_X10_byteAt v0 v1 M0).bind fun x6 =>
    if x6 = (32 : Int32) then
      f_X10_cutToken_B18 v1 M0
    else
      if x6 = (10 : Int32) then
        f_X10_cutToken_B18 v1 M0
      else
        (f_X10_runEnd v0 v1 ((97 : Int32)) ((122 : Int32)) M0).bind fun x7 =>
        if x7 ≤ v1 then
          (f_X10_runEnd v0 v1 ((48 : Int32)) ((57 : Int32)) M0).bind fun x8 =>
          if x8 ≤ v1 then
            (f_X10_note v0 ((3 : Int32)) v1 ((v1 + (1 : Int32))) x6 M0).bind fun M9 =>
            some (((v1 + (1 : Int32)), M9))
          else
            (f_X10_isGlued v0 v1 M0).bind fun x10 =>
            if x10 = 0 then
              f_X10_cutToken_B93 v0 v1 x8 v0 ((2 : Int32)) M0
            else
              f_X10_cutToken_B93 v0 v1 x8 v0 ((4 : Int32)) M0
        else
          (f_X10_isGlued v0 v1 M0).bind fun x11 =>
          if x11 = 0 then
            f_X10_cutToken_B51 v0 v1 x7 v0 ((1 : Int32)) M0
          else
            f_X10_cutToken_B51 v0 v1 x7 v0 ((4 : Int32)) M0)
set_option maxRecDepth 100000 in
set_option maxHeartbeats 4000000 in
theorem m_X10_cutToken (G : sG) (l : Launch) (v0 : Nat) (v1 : Int32) (M0 : sMem) : sC G l 11 yX10_cutToken cX10_cutToken 4 (some .int) [.ref v0, .int v1] M0 rvI (f_X10_cutToken v0 v1 M0) := by
  refine sC_m (ls := [some (.ref v0), some (.int v1), none, none]) (by decide +kernel) rfl (Nat.le_of_ble_eq_true rfl) (fun r M' K hr => ?_)
  unfold f_X10_cutToken
  have xB18 : ∀ (v1 : Int32) (M : sMem), sX G l 11 yX10_cutToken cX10_cutToken 4 (some .int) M0 r M' 18 [none, some (.int v1), none, none] [] M (f_X10_cutToken_B18 v1 M) K := by
    intro v1 M
    unfold f_X10_cutToken_B18
    refine sX_iload_n (i := 1) (by decide +kernel) rfl ?_
    refine sX_iconst (n := 1) (v := (1 : Int32)) (by decide +kernel) (by decide) ?_
    refine sX_iadd (by decide +kernel) ?_
    exact sX_some (fun h _ => sW_iret (by decide +kernel) rfl (hr _ h).1.symm (hr _ h).2.symm)
  have xB93 : ∀ (v0 : Nat) (v1 : Int32) (v3 : Int32) (s0 : Nat) (s1 : Int32) (M : sMem), sX G l 11 yX10_cutToken cX10_cutToken 4 (some .int) M0 r M' 93 [some (.ref v0), some (.int v1), none, some (.int v3)] [.int s1, .ref s0] M (f_X10_cutToken_B93 v0 v1 v3 s0 s1 M) K := by
    intro v0 v1 v3 s0 s1 M
    unfold f_X10_cutToken_B93
    refine sX_iload_n (i := 1) (by decide +kernel) rfl ?_
    refine sX_iload_n (i := 3) (by decide +kernel) rfl ?_
    refine sX_aload_n (i := 0) (by decide +kernel) rfl ?_
    refine sX_iload_n (i := 1) (by decide +kernel) rfl ?_
    refine sX_iload_n (i := 3) (by decide +kernel) rfl ?_
    refine sX_callVp (As := [.int v1, .int v3]) (by decide +kernel) lm_X10_85 mf_X10_valueBetween mi_X10_valueBetween mc_10 (m_X10_valueBetween G l v0 v1 v3 M) (fun _ h => sRc_some h) (by decide) rfl rfl (Nat.le_of_ble_eq_true rfl) (fun x1 => ?_)
    refine sX_callVv (As := [.int s1, .int v1, .int v3, .int x1]) (by decide +kernel) lm_X10_47 mf_X10_note mi_X10_note mc_10 (m_X10_note G l s0 s1 v1 v3 x1 M) (fun _ h => sRc_some h) (by decide) rfl rfl (Nat.le_of_ble_eq_true rfl) (fun M2 => ?_)
    refine sX_iload_n (i := 3) (by decide +kernel) rfl ?_
    exact sX_some (fun h _ => sW_iret (by decide +kernel) rfl (hr _ h).1.symm (hr _ h).2.symm)
  have xB51 : ∀ (v0 : Nat) (v1 : Int32) (v3 : Int32) (s0 : Nat) (s1 : Int32) (M : sMem), sX G l 11 yX10_cutToken cX10_cutToken 4 (some .int) M0 r M' 51 [some (.ref v0), some (.int v1), none, some (.int v3)] [.int s1, .ref s0] M (f_X10_cutToken_B51 v0 v1 v3 s0 s1 M) K := by
    intro v0 v1 v3 s0 s1 M
    unfold f_X10_cutToken_B51
    refine sX_iload_n (i := 1) (by decide +kernel) rfl ?_
    refine sX_iload_n (i := 3) (by decide +kernel) rfl ?_
    refine sX_aload_n (i := 0) (by decide +kernel) rfl ?_
    refine sX_iload_n (i := 1) (by decide +kernel) rfl ?_
    refine sX_iload_n (i := 3) (by decide +kernel) rfl ?_
    refine sX_callV (As := [.int v1, .int v3]) (by decide +kernel) lm_X10_82 mf_X10_wordBetween mi_X10_wordBetween mc_10 (m_X10_wordBetween G l v0 v1 v3 M) (fun _ h => sRc_some h) (by decide) rfl rfl (Nat.le_of_ble_eq_true rfl) (fun x3 M4 _ => ?_)
    refine sX_callVv (As := [.int s1, .int v1, .int v3, .int x3]) (by decide +kernel) lm_X10_47 mf_X10_note mi_X10_note mc_10 (m_X10_note G l s0 s1 v1 v3 x3 M4) (fun _ h => sRc_some h) (by decide) rfl rfl (Nat.le_of_ble_eq_true rfl) (fun M5 => ?_)
    refine sX_iload_n (i := 3) (by decide +kernel) rfl ?_
    exact sX_some (fun h _ => sW_iret (by decide +kernel) rfl (hr _ h).1.symm (hr _ h).2.symm)
  refine sX_rc ?_
  refine sX_aload_n (i := 0) (by decide +kernel) rfl ?_
  refine sX_iload_n (i := 1) (by decide +kernel) rfl ?_
  refine sX_callVp (As := [.int v1]) (by decide +kernel) lm_X10_72 mf_X10_byteAt mi_X10_byteAt mc_10 (m_X10_byteAt G l v0 v1 M0) (fun _ h => sRc_some h) (by decide) rfl rfl (Nat.le_of_ble_eq_true rfl) (fun x6 => ?_)
  refine sX_istore_n (i := 2) (ls2 := [some (.ref v0), some (.int v1), some (.int x6), none]) (by decide +kernel) (by decide) rfl ?_
  refine sX_iload_n (i := 2) (by decide +kernel) rfl ?_
  refine sX_bipush (n := 32) (v := (32 : Int32)) (by decide +kernel) (by decide) ?_
  refine sX_iceq (o := 9) (t := 18) (by decide +kernel) (by decide) (fun _ => ?_) (fun _ => ?_)
  · exact sX.le (xB18 v1 M0) (sLe_n (sLe_s (sLe_n (sLe_n sLe_e))))
  · refine sX_iload_n (i := 2) (by decide +kernel) rfl ?_
    refine sX_bipush (n := 10) (v := (10 : Int32)) (by decide +kernel) (by decide) ?_
    refine sX_icne (o := 7) (t := 22) (by decide +kernel) (by decide) (fun _ => ?_) (fun _ => ?_)
    · exact sX.le (xB18 v1 M0) (sLe_n (sLe_s (sLe_n (sLe_n sLe_e))))
    · refine sX_aload_n (i := 0) (by decide +kernel) rfl ?_
      refine sX_iload_n (i := 1) (by decide +kernel) rfl ?_
      refine sX_bipush (n := 97) (v := (97 : Int32)) (by decide +kernel) (by decide) ?_
      refine sX_bipush (n := 122) (v := (122 : Int32)) (by decide +kernel) (by decide) ?_
      refine sX_callVp (As := [.int v1, .int (97 : Int32), .int (122 : Int32)]) (by decide +kernel) lm_X10_75 mf_X10_runEnd mi_X10_runEnd mc_10 (m_X10_runEnd G l v0 v1 ((97 : Int32)) ((122 : Int32)) M0) (fun _ h => sRc_some h) (by decide) rfl rfl (Nat.le_of_ble_eq_true rfl) (fun x7 => ?_)
      refine sX_istore_n (i := 3) (ls2 := [some (.ref v0), some (.int v1), some (.int x6), some (.int x7)]) (by decide +kernel) (by decide) rfl ?_
      refine sX_iload_n (i := 3) (by decide +kernel) rfl ?_
      refine sX_iload_n (i := 1) (by decide +kernel) rfl ?_
      refine sX_icle (o := 30) (t := 64) (by decide +kernel) (by decide) (fun _ => ?_) (fun _ => ?_)
      · refine sX_aload_n (i := 0) (by decide +kernel) rfl ?_
        refine sX_iload_n (i := 1) (by decide +kernel) rfl ?_
        refine sX_bipush (n := 48) (v := (48 : Int32)) (by decide +kernel) (by decide) ?_
        refine sX_bipush (n := 57) (v := (57 : Int32)) (by decide +kernel) (by decide) ?_
        refine sX_callVp (As := [.int v1, .int (48 : Int32), .int (57 : Int32)]) (by decide +kernel) lm_X10_75 mf_X10_runEnd mi_X10_runEnd mc_10 (m_X10_runEnd G l v0 v1 ((48 : Int32)) ((57 : Int32)) M0) (fun _ h => sRc_some h) (by decide) rfl rfl (Nat.le_of_ble_eq_true rfl) (fun x8 => ?_)
        refine sX_istore_n (i := 3) (ls2 := [some (.ref v0), some (.int v1), some (.int x6), some (.int x8)]) (by decide +kernel) (by decide) rfl ?_
        refine sX_iload_n (i := 3) (by decide +kernel) rfl ?_
        refine sX_iload_n (i := 1) (by decide +kernel) rfl ?_
        refine sX_icle (o := 30) (t := 106) (by decide +kernel) (by decide) (fun _ => ?_) (fun _ => ?_)
        · refine sX_aload_n (i := 0) (by decide +kernel) rfl ?_
          refine sX_iconst (n := 3) (v := (3 : Int32)) (by decide +kernel) (by decide) ?_
          refine sX_iload_n (i := 1) (by decide +kernel) rfl ?_
          refine sX_iload_n (i := 1) (by decide +kernel) rfl ?_
          refine sX_iconst (n := 1) (v := (1 : Int32)) (by decide +kernel) (by decide) ?_
          refine sX_iadd (by decide +kernel) ?_
          refine sX_iload_n (i := 2) (by decide +kernel) rfl ?_
          refine sX_callVv (As := [.int (3 : Int32), .int v1, .int (v1 + (1 : Int32)), .int x6]) (by decide +kernel) lm_X10_47 mf_X10_note mi_X10_note mc_10 (m_X10_note G l v0 ((3 : Int32)) v1 ((v1 + (1 : Int32))) x6 M0) (fun _ h => sRc_some h) (by decide) rfl rfl (Nat.le_of_ble_eq_true rfl) (fun M9 => ?_)
          refine sX_iload_n (i := 1) (by decide +kernel) rfl ?_
          refine sX_iconst (n := 1) (v := (1 : Int32)) (by decide +kernel) (by decide) ?_
          refine sX_iadd (by decide +kernel) ?_
          exact sX_some (fun h _ => sW_iret (by decide +kernel) rfl (hr _ h).1.symm (hr _ h).2.symm)
        · refine sX_aload_n (i := 0) (by decide +kernel) rfl ?_
          refine sX_aload_n (i := 0) (by decide +kernel) rfl ?_
          refine sX_iload_n (i := 1) (by decide +kernel) rfl ?_
          refine sX_callVp (As := [.int v1]) (by decide +kernel) lm_X10_79 mf_X10_isGlued mi_X10_isGlued mc_10 (m_X10_isGlued G l v0 v1 M0) (fun _ h => sRc_some h) (by decide) rfl rfl (Nat.le_of_ble_eq_true rfl) (fun x10 => ?_)
          refine sX_ifeq (o := 7) (t := 92) (by decide +kernel) (by decide) (fun _ => ?_) (fun _ => ?_)
          · refine sX_iconst (n := 2) (v := (2 : Int32)) (by decide +kernel) (by decide) ?_
            exact sX.le (xB93 v0 v1 x8 v0 ((2 : Int32)) M0) (sLe_s (sLe_s (sLe_n (sLe_s sLe_e))))
          · refine sX_iconst (n := 4) (v := (4 : Int32)) (by decide +kernel) (by decide) ?_
            refine sX_goto (o := 4) (t := 93) (by decide +kernel) (by decide) ?_
            exact sX.le (xB93 v0 v1 x8 v0 ((4 : Int32)) M0) (sLe_s (sLe_s (sLe_n (sLe_s sLe_e))))
      · refine sX_aload_n (i := 0) (by decide +kernel) rfl ?_
        refine sX_aload_n (i := 0) (by decide +kernel) rfl ?_
        refine sX_iload_n (i := 1) (by decide +kernel) rfl ?_
        refine sX_callVp (As := [.int v1]) (by decide +kernel) lm_X10_79 mf_X10_isGlued mi_X10_isGlued mc_10 (m_X10_isGlued G l v0 v1 M0) (fun _ h => sRc_some h) (by decide) rfl rfl (Nat.le_of_ble_eq_true rfl) (fun x11 => ?_)
        refine sX_ifeq (o := 7) (t := 50) (by decide +kernel) (by decide) (fun _ => ?_) (fun _ => ?_)
        · refine sX_iconst (n := 1) (v := (1 : Int32)) (by decide +kernel) (by decide) ?_
          exact sX.le (xB51 v0 v1 x7 v0 ((1 : Int32)) M0) (sLe_s (sLe_s (sLe_n (sLe_s sLe_e))))
        · refine sX_iconst (n := 4) (v := (4 : Int32)) (by decide +kernel) (by decide) ?_
          refine sX_goto (o := 4) (t := 51) (by decide +kernel) (by decide) ?_
          exact sX.le (xB51 v0 v1 x7 v0 ((4 : Int32)) M0) (sLe_s (sLe_s (sLe_n (sLe_s sLe_e))))
def f_X10_startReading_B51 (v0 : Nat) (M : sMem) : Option sMem :=
  (gI 10 10 1 M v0).bind fun x1 =>
  (gI 10 10 1 M v0).bind fun x2 =>
  (f_X10_note v0 ((0 : Int32)) x1 x2 ((-1 : Int32)) M).bind fun M3 =>
  some M3
def f_X10_startReading_K24 (v0 : Nat) (v1 : Int32) (v2 : Int32) (M : sMem) : Option ((Int32 × Int32 × sMem) ⊕ ((sMem))) :=
  if (1600 : Int32) ≤ v2 then
    some (.inr M)
  else
    (gI 10 10 1 M v0).bind fun x4 =>
    if x4 ≤ v1 then
      some (.inr M)
    else
      (f_X10_cutToken v0 v1 M).bind fun (x5, M6) =>
      some (.inl ((x5, ((v2 + (1 : Int32))), M6)))
def f_X10_startReading_L24 (v0 : Nat) (v1 : Int32) (v2 : Int32) (M : sMem) : Option sMem :=
  (sItr (fun a : (Int32 × Int32 × sMem) => f_X10_startReading_K24 v0 a.1 a.2.1 a.2.2) sFuel (v1, v2, M)).bind (fun b => f_X10_startReading_B51 v0 b)
def f_X10_startReading (v0 : Nat) (M0 : sMem) : Option sMem :=
  sRc 10 10 M0 v0 (
    (pI 10 10 8 M0 v0 ((0 : Int32))).bind fun M7 =>
    (pI 10 10 9 M7 v0 ((-1 : Int32))).bind fun M8 =>
    (pI 10 10 7 M8 v0 ((0 : Int32))).bind fun M9 =>
    (pI 10 10 6 M9 v0 ((0 : Int32))).bind fun M10 =>
    f_X10_startReading_L24 v0 ((0 : Int32)) ((0 : Int32)) M10)
set_option maxRecDepth 100000 in
set_option maxHeartbeats 4000000 in
theorem m_X10_startReading (G : sG) (l : Launch) (v0 : Nat) (M0 : sMem) : sCv G l 12 yX10_startReading cX10_startReading 3 none [.ref v0] M0 (f_X10_startReading v0 M0) := by
  refine sC_v (ls := [some (.ref v0), none, none]) (by decide +kernel) rfl (Nat.le_of_ble_eq_true rfl) (fun r M' K hr => ?_)
  unfold f_X10_startReading
  have xB51 : ∀ (v0 : Nat) (M : sMem), sX G l 12 yX10_startReading cX10_startReading 3 none M0 r M' 51 [some (.ref v0), none, none] [] M (f_X10_startReading_B51 v0 M) K := by
    intro v0 M
    unfold f_X10_startReading_B51
    refine sX_aload_n (i := 0) (by decide +kernel) rfl ?_
    refine sX_iconst (n := 0) (v := (0 : Int32)) (by decide +kernel) (by decide) ?_
    refine sX_aload_n (i := 0) (by decide +kernel) rfl ?_
    refine sX_getI lf_X10_31 tk_10_1 (by decide +kernel) (fun x1 => ?_)
    refine sX_aload_n (i := 0) (by decide +kernel) rfl ?_
    refine sX_getI lf_X10_31 tk_10_1 (by decide +kernel) (fun x2 => ?_)
    refine sX_iconst (n := -1) (v := (-1 : Int32)) (by decide +kernel) (by decide) ?_
    refine sX_callVv (As := [.int (0 : Int32), .int x1, .int x2, .int (-1 : Int32)]) (by decide +kernel) lm_X10_47 mf_X10_note mi_X10_note mc_10 (m_X10_note G l v0 ((0 : Int32)) x1 x2 ((-1 : Int32)) M) (fun _ h => sRc_some h) (by decide) rfl rfl (Nat.le_of_ble_eq_true rfl) (fun M3 => ?_)
    exact sX_some (fun h _ => sW_vret (by decide +kernel) rfl (hr _ h).1.symm (hr _ h).2.symm)
  have xL24 : ∀ (v0 : Nat) (v1 : Int32) (v2 : Int32) (M : sMem), sX G l 12 yX10_startReading cX10_startReading 3 none M0 r M' 24 [some (.ref v0), some (.int v1), some (.int v2)] [] M (f_X10_startReading_L24 v0 v1 v2 M) K := by
    intro v0 v1 v2 M
    unfold f_X10_startReading_L24
    refine sX_bind ?_
    refine sX_loop (LS := fun a : (Int32 × Int32 × sMem) => [some (.ref v0), some (.int a.1), some (.int a.2.1)]) (MM := fun a => a.2.2) (fun K1 hb1 he1 => ?_) sFuel ((v1, v2, M))
    have xK24 : ∀ (v1 : Int32) (v2 : Int32) (M : sMem), sX G l 12 yX10_startReading cX10_startReading 3 none M0 r M' 24 [some (.ref v0), some (.int v1), some (.int v2)] [] M (f_X10_startReading_K24 v0 v1 v2 M) K1 := by
      intro v1 v2 M
      unfold f_X10_startReading_K24
      refine sX_iload_n (i := 2) (by decide +kernel) rfl ?_
      refine sX_sipush (n := 1600) (v := (1600 : Int32)) (by decide +kernel) (by decide) ?_
      refine sX_icge (o := 23) (t := 51) (by decide +kernel) (by decide) (fun _ => ?_) (fun _ => ?_)
      · refine sX_exit he1 ?_
        exact sX.le (xB51 v0 M) (sLe_s (sLe_n (sLe_n sLe_e)))
      · refine sX_iload_n (i := 1) (by decide +kernel) rfl ?_
        refine sX_aload_n (i := 0) (by decide +kernel) rfl ?_
        refine sX_getI lf_X10_31 tk_10_1 (by decide +kernel) (fun x4 => ?_)
        refine sX_icge (o := 15) (t := 51) (by decide +kernel) (by decide) (fun _ => ?_) (fun _ => ?_)
        · refine sX_exit he1 ?_
          exact sX.le (xB51 v0 M) (sLe_s (sLe_n (sLe_n sLe_e)))
        · refine sX_aload_n (i := 0) (by decide +kernel) rfl ?_
          refine sX_iload_n (i := 1) (by decide +kernel) rfl ?_
          refine sX_callV (As := [.int v1]) (by decide +kernel) lm_X10_43 mf_X10_cutToken mi_X10_cutToken mc_10 (m_X10_cutToken G l v0 v1 M) (fun _ h => sRc_some h) (by decide) rfl rfl (Nat.le_of_ble_eq_true rfl) (fun x5 M6 _ => ?_)
          refine sX_istore_n (i := 1) (ls2 := [some (.ref v0), some (.int x5), some (.int v2)]) (by decide +kernel) (by decide) rfl ?_
          refine sX_iinc (i := 2) (n := 1) (v := v2 + (1 : Int32)) (ls2 := [some (.ref v0), some (.int x5), some (.int (v2 + (1 : Int32)))]) (by decide +kernel) rfl rfl (by decide) rfl ?_
          refine sX_goto (o := -24) (t := 24) (by decide +kernel) (by decide) ?_
          exact sX_back (a := (x5, ((v2 + (1 : Int32))), M6)) hb1 rfl (sLe_s (sLe_s (sLe_s sLe_e)))
    exact fun a => xK24 a.1 a.2.1 a.2.2
  refine sX_rc ?_
  refine sX_aload_n (i := 0) (by decide +kernel) rfl ?_
  refine sX_iconst (n := 0) (v := (0 : Int32)) (by decide +kernel) (by decide) ?_
  refine sX_putI lf_X10_34 tp_10_8 (by decide +kernel) (by decide) (fun M7 => ?_)
  refine sX_aload_n (i := 0) (by decide +kernel) rfl ?_
  refine sX_iconst (n := -1) (v := (-1 : Int32)) (by decide +kernel) (by decide) ?_
  refine sX_putI lf_X10_27 tp_10_9 (by decide +kernel) (by decide) (fun M8 => ?_)
  refine sX_aload_n (i := 0) (by decide +kernel) rfl ?_
  refine sX_iconst (n := 0) (v := (0 : Int32)) (by decide +kernel) (by decide) ?_
  refine sX_putI lf_X10_37 tp_10_7 (by decide +kernel) (by decide) (fun M9 => ?_)
  refine sX_aload_n (i := 0) (by decide +kernel) rfl ?_
  refine sX_iconst (n := 0) (v := (0 : Int32)) (by decide +kernel) (by decide) ?_
  refine sX_putI lf_X10_40 tp_10_6 (by decide +kernel) (by decide) (fun M10 => ?_)
  refine sX_iconst (n := 0) (v := (0 : Int32)) (by decide +kernel) (by decide) ?_
  refine sX_istore_n (i := 1) (ls2 := [some (.ref v0), some (.int (0 : Int32)), none]) (by decide +kernel) (by decide) rfl ?_
  refine sX_iconst (n := 0) (v := (0 : Int32)) (by decide +kernel) (by decide) ?_
  refine sX_istore_n (i := 2) (ls2 := [some (.ref v0), some (.int (0 : Int32)), some (.int (0 : Int32))]) (by decide +kernel) (by decide) rfl ?_
  exact sX.le (xL24 v0 ((0 : Int32)) ((0 : Int32)) M10) (sLe_s (sLe_s (sLe_s sLe_e)))
def f_X10_isOver (v0 : Nat) (M0 : sMem) : Option Int32 :=
  sRc 10 10 M0 v0 (
    (gR 10 10 2 M0 v0).bind fun x1 =>
    (gI 10 10 7 M0 v0).bind fun x2 =>
    (ldI 14 M0 x1 x2).bind fun x3 =>
    if x3 = 0 then
      some ((1 : Int32))
    else
      some ((0 : Int32)))
set_option maxRecDepth 100000 in
set_option maxHeartbeats 4000000 in
theorem m_X10_isOver (G : sG) (l : Launch) (v0 : Nat) (M0 : sMem) : sCp G l 1 yX10_isOver cX10_isOver 1 (some .boolean) [.ref v0] M0 rvI (f_X10_isOver v0 M0) := by
  refine sC_p (ls := [some (.ref v0)]) (by decide +kernel) rfl (Nat.le_of_ble_eq_true rfl) (fun r M' K hr => ?_)
  unfold f_X10_isOver
  refine sX_rc ?_
  refine sX_aload_n (i := 0) (by decide +kernel) rfl ?_
  refine sX_getR lf_X10_15 tk_10_2 (by decide +kernel) (fun x1 => ?_)
  refine sX_aload_n (i := 0) (by decide +kernel) rfl ?_
  refine sX_getI lf_X10_37 tk_10_7 (by decide +kernel) (fun x2 => ?_)
  refine sX_iaload (by decide +kernel) (fun x3 => ?_)
  refine sX_ifne (o := 7) (t := 16) (by decide +kernel) (by decide) (fun _ => ?_) (fun _ => ?_)
  · refine sX_iconst (n := 1) (v := (1 : Int32)) (by decide +kernel) (by decide) ?_
    refine sX_goto (o := 4) (t := 17) (by decide +kernel) (by decide) ?_
    exact sX_some (fun h _ => sW_zret (by decide +kernel) rfl (by decide) (hr _ h).1.symm (hr _ h).2.symm)
  · refine sX_iconst (n := 0) (v := (0 : Int32)) (by decide +kernel) (by decide) ?_
    exact sX_some (fun h _ => sW_zret (by decide +kernel) rfl (by decide) (hr _ h).1.symm (hr _ h).2.symm)
def f_X10_place (v0 : Nat) (M0 : sMem) : Option Int32 :=
  sRc 10 10 M0 v0 (
    (gR 10 10 3 M0 v0).bind fun x1 =>
    (gI 10 10 7 M0 v0).bind fun x2 =>
    (ldI 14 M0 x1 x2).bind fun x3 =>
    some x3)
set_option maxRecDepth 100000 in
set_option maxHeartbeats 4000000 in
theorem m_X10_place (G : sG) (l : Launch) (v0 : Nat) (M0 : sMem) : sCp G l 1 yX10_place cX10_place 1 (some .int) [.ref v0] M0 rvI (f_X10_place v0 M0) := by
  refine sC_p (ls := [some (.ref v0)]) (by decide +kernel) rfl (Nat.le_of_ble_eq_true rfl) (fun r M' K hr => ?_)
  unfold f_X10_place
  refine sX_rc ?_
  refine sX_aload_n (i := 0) (by decide +kernel) rfl ?_
  refine sX_getR lf_X10_18 tk_10_3 (by decide +kernel) (fun x1 => ?_)
  refine sX_aload_n (i := 0) (by decide +kernel) rfl ?_
  refine sX_getI lf_X10_37 tk_10_7 (by decide +kernel) (fun x2 => ?_)
  refine sX_iaload (by decide +kernel) (fun x3 => ?_)
  exact sX_some (fun h _ => sW_iret (by decide +kernel) rfl (hr _ h).1.symm (hr _ h).2.symm)
def f_X10_word (v0 : Nat) (M0 : sMem) : Option Int32 :=
  sRc 10 10 M0 v0 (
    (gR 10 10 2 M0 v0).bind fun x1 =>
    (gI 10 10 7 M0 v0).bind fun x2 =>
    (ldI 14 M0 x1 x2).bind fun x3 =>
    if x3 = (1 : Int32) then
      (gR 10 10 5 M0 v0).bind fun x4 =>
      (gI 10 10 7 M0 v0).bind fun x5 =>
      (ldI 14 M0 x4 x5).bind fun x6 =>
      some x6
    else
      some ((-1 : Int32)))
set_option maxRecDepth 100000 in
set_option maxHeartbeats 4000000 in
theorem m_X10_word (G : sG) (l : Launch) (v0 : Nat) (M0 : sMem) : sCp G l 1 yX10_word cX10_word 1 (some .int) [.ref v0] M0 rvI (f_X10_word v0 M0) := by
  refine sC_p (ls := [some (.ref v0)]) (by decide +kernel) rfl (Nat.le_of_ble_eq_true rfl) (fun r M' K hr => ?_)
  unfold f_X10_word
  refine sX_rc ?_
  refine sX_aload_n (i := 0) (by decide +kernel) rfl ?_
  refine sX_getR lf_X10_15 tk_10_2 (by decide +kernel) (fun x1 => ?_)
  refine sX_aload_n (i := 0) (by decide +kernel) rfl ?_
  refine sX_getI lf_X10_37 tk_10_7 (by decide +kernel) (fun x2 => ?_)
  refine sX_iaload (by decide +kernel) (fun x3 => ?_)
  refine sX_iconst (n := 1) (v := (1 : Int32)) (by decide +kernel) (by decide) ?_
  refine sX_icne (o := 15) (t := 25) (by decide +kernel) (by decide) (fun _ => ?_) (fun _ => ?_)
  · refine sX_aload_n (i := 0) (by decide +kernel) rfl ?_
    refine sX_getR lf_X10_24 tk_10_5 (by decide +kernel) (fun x4 => ?_)
    refine sX_aload_n (i := 0) (by decide +kernel) rfl ?_
    refine sX_getI lf_X10_37 tk_10_7 (by decide +kernel) (fun x5 => ?_)
    refine sX_iaload (by decide +kernel) (fun x6 => ?_)
    refine sX_goto (o := 4) (t := 26) (by decide +kernel) (by decide) ?_
    exact sX_some (fun h _ => sW_iret (by decide +kernel) rfl (hr _ h).1.symm (hr _ h).2.symm)
  · refine sX_iconst (n := -1) (v := (-1 : Int32)) (by decide +kernel) (by decide) ?_
    exact sX_some (fun h _ => sW_iret (by decide +kernel) rfl (hr _ h).1.symm (hr _ h).2.symm)
def f_X10_fail_B17 (v0 : Nat) (M : sMem) : Option sMem :=
  (gI 10 10 6 M v0).bind fun x1 =>
  (f_J9_max_7cf53 ((0 : Int32)) ((x1 - (1 : Int32))) M).bind fun x2 =>
  (pI 10 10 7 M v0 x2).bind fun M3 =>
  some M3
def f_X10_fail (v0 : Nat) (v1 : Int32) (v2 : Int32) (M0 : sMem) : Option sMem :=
  sRc 10 10 M0 v0 (
    (gI 10 10 8 M0 v0).bind fun x4 =>
    if x4 = 0 then
      (pI 10 10 8 M0 v0 v1).bind fun M5 =>
      (pI 10 10 9 M5 v0 v2).bind fun M6 =>
      f_X10_fail_B17 v0 M6
    else
      f_X10_fail_B17 v0 M0)
set_option maxRecDepth 100000 in
set_option maxHeartbeats 4000000 in
theorem m_X10_fail (G : sG) (l : Launch) (v0 : Nat) (v1 : Int32) (v2 : Int32) (M0 : sMem) : sCv G l 2 yX10_fail cX10_fail 3 none [.ref v0, .int v1, .int v2] M0 (f_X10_fail v0 v1 v2 M0) := by
  refine sC_v (ls := [some (.ref v0), some (.int v1), some (.int v2)]) (by decide +kernel) rfl (Nat.le_of_ble_eq_true rfl) (fun r M' K hr => ?_)
  unfold f_X10_fail
  have xB17 : ∀ (v0 : Nat) (M : sMem), sX G l 2 yX10_fail cX10_fail 3 none M0 r M' 17 [some (.ref v0), none, none] [] M (f_X10_fail_B17 v0 M) K := by
    intro v0 M
    unfold f_X10_fail_B17
    refine sX_aload_n (i := 0) (by decide +kernel) rfl ?_
    refine sX_iconst (n := 0) (v := (0 : Int32)) (by decide +kernel) (by decide) ?_
    refine sX_aload_n (i := 0) (by decide +kernel) rfl ?_
    refine sX_getI lf_X10_40 tk_10_6 (by decide +kernel) (fun x1 => ?_)
    refine sX_iconst (n := 1) (v := (1 : Int32)) (by decide +kernel) (by decide) ?_
    refine sX_isub (by decide +kernel) ?_
    refine sX_callSp (As := [.int (0 : Int32), .int (x1 - (1 : Int32))]) (by decide +kernel) lm_X10_51 mf_J9_max_7cf53 ms_J9_max_7cf53 (m_J9_max_7cf53 G l ((0 : Int32)) ((x1 - (1 : Int32))) M) (by decide) rfl rfl (Nat.le_of_ble_eq_true rfl) (fun x2 => ?_)
    refine sX_putI lf_X10_37 tp_10_7 (by decide +kernel) (by decide) (fun M3 => ?_)
    exact sX_some (fun h _ => sW_vret (by decide +kernel) rfl (hr _ h).1.symm (hr _ h).2.symm)
  refine sX_rc ?_
  refine sX_aload_n (i := 0) (by decide +kernel) rfl ?_
  refine sX_getI lf_X10_34 tk_10_8 (by decide +kernel) (fun x4 => ?_)
  refine sX_ifne (o := 13) (t := 17) (by decide +kernel) (by decide) (fun _ => ?_) (fun _ => ?_)
  · refine sX_aload_n (i := 0) (by decide +kernel) rfl ?_
    refine sX_iload_n (i := 1) (by decide +kernel) rfl ?_
    refine sX_putI lf_X10_34 tp_10_8 (by decide +kernel) (by decide) (fun M5 => ?_)
    refine sX_aload_n (i := 0) (by decide +kernel) rfl ?_
    refine sX_iload_n (i := 2) (by decide +kernel) rfl ?_
    refine sX_putI lf_X10_27 tp_10_9 (by decide +kernel) (by decide) (fun M6 => ?_)
    exact sX.le (xB17 v0 M6) (sLe_s (sLe_n (sLe_n sLe_e)))
  · exact sX.le (xB17 v0 M0) (sLe_s (sLe_n (sLe_n sLe_e)))
def f_X10_goOn (v0 : Nat) (M0 : sMem) : Option sMem :=
  sRc 10 10 M0 v0 (
    (gI 10 10 7 M0 v0).bind fun x1 =>
    (gI 10 10 6 M0 v0).bind fun x2 =>
    if x2 ≤ (x1 + (1 : Int32)) then
      some M0
    else
      (gI 10 10 7 M0 v0).bind fun x3 =>
      (pI 10 10 7 M0 v0 ((x3 + (1 : Int32)))).bind fun M4 =>
      some M4)
set_option maxRecDepth 100000 in
set_option maxHeartbeats 4000000 in
theorem m_X10_goOn (G : sG) (l : Launch) (v0 : Nat) (M0 : sMem) : sCv G l 1 yX10_goOn cX10_goOn 1 none [.ref v0] M0 (f_X10_goOn v0 M0) := by
  refine sC_v (ls := [some (.ref v0)]) (by decide +kernel) rfl (Nat.le_of_ble_eq_true rfl) (fun r M' K hr => ?_)
  unfold f_X10_goOn
  refine sX_rc ?_
  refine sX_aload_n (i := 0) (by decide +kernel) rfl ?_
  refine sX_getI lf_X10_37 tk_10_7 (by decide +kernel) (fun x1 => ?_)
  refine sX_iconst (n := 1) (v := (1 : Int32)) (by decide +kernel) (by decide) ?_
  refine sX_iadd (by decide +kernel) ?_
  refine sX_aload_n (i := 0) (by decide +kernel) rfl ?_
  refine sX_getI lf_X10_40 tk_10_6 (by decide +kernel) (fun x2 => ?_)
  refine sX_icge (o := 13) (t := 23) (by decide +kernel) (by decide) (fun _ => ?_) (fun _ => ?_)
  · exact sX_some (fun h _ => sW_vret (by decide +kernel) rfl (hr _ h).1.symm (hr _ h).2.symm)
  · refine sX_aload_n (i := 0) (by decide +kernel) rfl ?_
    refine sX_dup (by decide +kernel) rfl ?_
    refine sX_getI lf_X10_37 tk_10_7 (by decide +kernel) (fun x3 => ?_)
    refine sX_iconst (n := 1) (v := (1 : Int32)) (by decide +kernel) (by decide) ?_
    refine sX_iadd (by decide +kernel) ?_
    refine sX_putI lf_X10_37 tp_10_7 (by decide +kernel) (by decide) (fun M4 => ?_)
    exact sX_some (fun h _ => sW_vret (by decide +kernel) rfl (hr _ h).1.symm (hr _ h).2.symm)
def f_X10_takesWord (v0 : Nat) (v1 : Int32) (M0 : sMem) : Option (Int32 × sMem) :=
  sRc 10 10 M0 v0 (
    (gR 10 10 2 M0 v0).bind fun x1 =>
    (gI 10 10 7 M0 v0).bind fun x2 =>
    (ldI 14 M0 x1 x2).bind fun x3 =>
    if x3 = (1 : Int32) then
      (gR 10 10 5 M0 v0).bind fun x4 =>
      (gI 10 10 7 M0 v0).bind fun x5 =>
      (ldI 14 M0 x4 x5).bind fun x6 =>
      if x6 = v1 then
        (f_X10_goOn v0 M0).bind fun M7 =>
        some (((1 : Int32), M7))
      else
        some (((0 : Int32), M0))
    else
      some (((0 : Int32), M0)))
set_option maxRecDepth 100000 in
set_option maxHeartbeats 4000000 in
theorem m_X10_takesWord (G : sG) (l : Launch) (v0 : Nat) (v1 : Int32) (M0 : sMem) : sC G l 2 yX10_takesWord cX10_takesWord 2 (some .boolean) [.ref v0, .int v1] M0 rvI (f_X10_takesWord v0 v1 M0) := by
  refine sC_m (ls := [some (.ref v0), some (.int v1)]) (by decide +kernel) rfl (Nat.le_of_ble_eq_true rfl) (fun r M' K hr => ?_)
  unfold f_X10_takesWord
  refine sX_rc ?_
  refine sX_aload_n (i := 0) (by decide +kernel) rfl ?_
  refine sX_getR lf_X10_15 tk_10_2 (by decide +kernel) (fun x1 => ?_)
  refine sX_aload_n (i := 0) (by decide +kernel) rfl ?_
  refine sX_getI lf_X10_37 tk_10_7 (by decide +kernel) (fun x2 => ?_)
  refine sX_iaload (by decide +kernel) (fun x3 => ?_)
  refine sX_iconst (n := 1) (v := (1 : Int32)) (by decide +kernel) (by decide) ?_
  refine sX_icne (o := 16) (t := 26) (by decide +kernel) (by decide) (fun _ => ?_) (fun _ => ?_)
  · refine sX_aload_n (i := 0) (by decide +kernel) rfl ?_
    refine sX_getR lf_X10_24 tk_10_5 (by decide +kernel) (fun x4 => ?_)
    refine sX_aload_n (i := 0) (by decide +kernel) rfl ?_
    refine sX_getI lf_X10_37 tk_10_7 (by decide +kernel) (fun x5 => ?_)
    refine sX_iaload (by decide +kernel) (fun x6 => ?_)
    refine sX_iload_n (i := 1) (by decide +kernel) rfl ?_
    refine sX_iceq (o := 5) (t := 28) (by decide +kernel) (by decide) (fun _ => ?_) (fun _ => ?_)
    · refine sX_aload_n (i := 0) (by decide +kernel) rfl ?_
      refine sX_callVv (As := []) (by decide +kernel) lm_X10_57 mf_X10_goOn mi_X10_goOn mc_10 (m_X10_goOn G l v0 M0) (fun _ h => sRc_some h) (by decide) rfl rfl (Nat.le_of_ble_eq_true rfl) (fun M7 => ?_)
      refine sX_iconst (n := 1) (v := (1 : Int32)) (by decide +kernel) (by decide) ?_
      exact sX_some (fun h _ => sW_zret (by decide +kernel) rfl (by decide) (hr _ h).1.symm (hr _ h).2.symm)
    · refine sX_iconst (n := 0) (v := (0 : Int32)) (by decide +kernel) (by decide) ?_
      exact sX_some (fun h _ => sW_zret (by decide +kernel) rfl (by decide) (hr _ h).1.symm (hr _ h).2.symm)
  · refine sX_iconst (n := 0) (v := (0 : Int32)) (by decide +kernel) (by decide) ?_
    exact sX_some (fun h _ => sW_zret (by decide +kernel) rfl (by decide) (hr _ h).1.symm (hr _ h).2.symm)
def f_X10_needWord (v0 : Nat) (v1 : Int32) (M0 : sMem) : Option sMem :=
  sRc 10 10 M0 v0 (
    (f_X10_takesWord v0 v1 M0).bind fun (x1, M2) =>
    if x1 = 0 then
      (gR 10 10 3 M2 v0).bind fun x3 =>
      (gI 10 10 7 M2 v0).bind fun x4 =>
      (ldI 14 M2 x3 x4).bind fun x5 =>
      (f_X10_fail v0 ((1 : Int32)) x5 M2).bind fun M6 =>
      some M6
    else
      some M2)
set_option maxRecDepth 100000 in
set_option maxHeartbeats 4000000 in
theorem m_X10_needWord (G : sG) (l : Launch) (v0 : Nat) (v1 : Int32) (M0 : sMem) : sCv G l 3 yX10_needWord cX10_needWord 2 none [.ref v0, .int v1] M0 (f_X10_needWord v0 v1 M0) := by
  refine sC_v (ls := [some (.ref v0), some (.int v1)]) (by decide +kernel) rfl (Nat.le_of_ble_eq_true rfl) (fun r M' K hr => ?_)
  unfold f_X10_needWord
  refine sX_rc ?_
  refine sX_aload_n (i := 0) (by decide +kernel) rfl ?_
  refine sX_iload_n (i := 1) (by decide +kernel) rfl ?_
  refine sX_callV (As := [.int v1]) (by decide +kernel) lm_X10_68 mf_X10_takesWord mi_X10_takesWord mc_10 (m_X10_takesWord G l v0 v1 M0) (fun _ h => sRc_some h) (by decide) rfl rfl (Nat.le_of_ble_eq_true rfl) (fun x1 M2 _ => ?_)
  refine sX_ifne (o := 17) (t := 22) (by decide +kernel) (by decide) (fun _ => ?_) (fun _ => ?_)
  · refine sX_aload_n (i := 0) (by decide +kernel) rfl ?_
    refine sX_iconst (n := 1) (v := (1 : Int32)) (by decide +kernel) (by decide) ?_
    refine sX_aload_n (i := 0) (by decide +kernel) rfl ?_
    refine sX_getR lf_X10_18 tk_10_3 (by decide +kernel) (fun x3 => ?_)
    refine sX_aload_n (i := 0) (by decide +kernel) rfl ?_
    refine sX_getI lf_X10_37 tk_10_7 (by decide +kernel) (fun x4 => ?_)
    refine sX_iaload (by decide +kernel) (fun x5 => ?_)
    refine sX_callVv (As := [.int (1 : Int32), .int x5]) (by decide +kernel) lm_X10_64 mf_X10_fail mi_X10_fail mc_10 (m_X10_fail G l v0 ((1 : Int32)) x5 M2) (fun _ h => sRc_some h) (by decide) rfl rfl (Nat.le_of_ble_eq_true rfl) (fun M6 => ?_)
    exact sX_some (fun h _ => sW_vret (by decide +kernel) rfl (hr _ h).1.symm (hr _ h).2.symm)
  · exact sX_some (fun h _ => sW_vret (by decide +kernel) rfl (hr _ h).1.symm (hr _ h).2.symm)
def f_X5_isNew_B16 (v1 : Nat) (M : sMem) : Option (Int32 × sMem) :=
  (gI 6 2 1 M v1).bind fun x1 =>
  if x1 = 0 then
    some (((1 : Int32), M))
  else
    some (((0 : Int32), M))
def f_X5_isNew (v0 : Nat) (v1 : Nat) (v2 : Int32) (M0 : sMem) : Option (Int32 × sMem) :=
  sRc 5 2 M0 v0 (
    (gI 6 2 1 M0 v1).bind fun x2 =>
    if x2 ≤ 0 then
      f_X5_isNew_B16 v1 M0
    else
      (gR 5 2 0 M0 v0).bind fun x3 =>
      (f_X10_fail x3 ((5 : Int32)) v2 M0).bind fun M4 =>
      f_X5_isNew_B16 v1 M4)
set_option maxRecDepth 100000 in
set_option maxHeartbeats 4000000 in
theorem m_X5_isNew (G : sG) (l : Launch) (v0 : Nat) (v1 : Nat) (v2 : Int32) (M0 : sMem) : sC G l 3 yX5_isNew cX5_isNew 3 (some .boolean) [.ref v0, .ref v1, .int v2] M0 rvI (f_X5_isNew v0 v1 v2 M0) := by
  refine sC_m (ls := [some (.ref v0), some (.ref v1), some (.int v2)]) (by decide +kernel) rfl (Nat.le_of_ble_eq_true rfl) (fun r M' K hr => ?_)
  unfold f_X5_isNew
  have xB16 : ∀ (v1 : Nat) (M : sMem), sX G l 3 yX5_isNew cX5_isNew 3 (some .boolean) M0 r M' 16 [none, some (.ref v1), none] [] M (f_X5_isNew_B16 v1 M) K := by
    intro v1 M
    unfold f_X5_isNew_B16
    refine sX_aload_n (i := 1) (by decide +kernel) rfl ?_
    refine sX_getI lf_X5_58 tk_6_1 (by decide +kernel) (fun x1 => ?_)
    refine sX_ifne (o := 7) (t := 27) (by decide +kernel) (by decide) (fun _ => ?_) (fun _ => ?_)
    · refine sX_iconst (n := 1) (v := (1 : Int32)) (by decide +kernel) (by decide) ?_
      refine sX_goto (o := 4) (t := 28) (by decide +kernel) (by decide) ?_
      exact sX_some (fun h _ => sW_zret (by decide +kernel) rfl (by decide) (hr _ h).1.symm (hr _ h).2.symm)
    · refine sX_iconst (n := 0) (v := (0 : Int32)) (by decide +kernel) (by decide) ?_
      exact sX_some (fun h _ => sW_zret (by decide +kernel) rfl (by decide) (hr _ h).1.symm (hr _ h).2.symm)
  refine sX_rc ?_
  refine sX_aload_n (i := 1) (by decide +kernel) rfl ?_
  refine sX_getI lf_X5_58 tk_6_1 (by decide +kernel) (fun x2 => ?_)
  refine sX_ifle (o := 12) (t := 16) (by decide +kernel) (by decide) (fun _ => ?_) (fun _ => ?_)
  · exact sX.le (xB16 v1 M0) (sLe_n (sLe_s (sLe_n sLe_e)))
  · refine sX_aload_n (i := 0) (by decide +kernel) rfl ?_
    refine sX_getR lf_X5_18 tk_5_0 (by decide +kernel) (fun x3 => ?_)
    refine sX_iconst (n := 5) (v := (5 : Int32)) (by decide +kernel) (by decide) ?_
    refine sX_iload_n (i := 2) (by decide +kernel) rfl ?_
    refine sX_callVv (As := [.int (5 : Int32), .int v2]) (by decide +kernel) lm_X5_48 mf_X10_fail mi_X10_fail mc_10 (m_X10_fail G l x3 ((5 : Int32)) v2 M0) (fun _ h => sRc_some h) (by decide) rfl rfl (Nat.le_of_ble_eq_true rfl) (fun M4 => ?_)
    exact sX.le (xB16 v1 M4) (sLe_n (sLe_s (sLe_n sLe_e)))
def f_X10_isGood (v0 : Nat) (M0 : sMem) : Option Int32 :=
  sRc 10 10 M0 v0 (
    (gI 10 10 8 M0 v0).bind fun x1 =>
    if x1 = 0 then
      some ((1 : Int32))
    else
      some ((0 : Int32)))
set_option maxRecDepth 100000 in
set_option maxHeartbeats 4000000 in
theorem m_X10_isGood (G : sG) (l : Launch) (v0 : Nat) (M0 : sMem) : sCp G l 1 yX10_isGood cX10_isGood 1 (some .boolean) [.ref v0] M0 rvI (f_X10_isGood v0 M0) := by
  refine sC_p (ls := [some (.ref v0)]) (by decide +kernel) rfl (Nat.le_of_ble_eq_true rfl) (fun r M' K hr => ?_)
  unfold f_X10_isGood
  refine sX_rc ?_
  refine sX_aload_n (i := 0) (by decide +kernel) rfl ?_
  refine sX_getI lf_X10_34 tk_10_8 (by decide +kernel) (fun x1 => ?_)
  refine sX_ifne (o := 7) (t := 11) (by decide +kernel) (by decide) (fun _ => ?_) (fun _ => ?_)
  · refine sX_iconst (n := 1) (v := (1 : Int32)) (by decide +kernel) (by decide) ?_
    refine sX_goto (o := 4) (t := 12) (by decide +kernel) (by decide) ?_
    exact sX_some (fun h _ => sW_zret (by decide +kernel) rfl (by decide) (hr _ h).1.symm (hr _ h).2.symm)
  · refine sX_iconst (n := 0) (v := (0 : Int32)) (by decide +kernel) (by decide) ?_
    exact sX_some (fun h _ => sW_zret (by decide +kernel) rfl (by decide) (hr _ h).1.symm (hr _ h).2.symm)
def f_X5_mayOpen_B15 (v0 : Nat) (M : sMem) : Option (Int32 × sMem) :=
  (gR 5 2 0 M v0).bind fun x1 =>
  (f_X10_isGood x1 M).bind fun x2 =>
  if x2 = 0 ∨ x2 = 1 then some ((x2, M)) else none
def f_X5_mayOpen (v0 : Nat) (v1 : Int32) (v2 : Int32) (M0 : sMem) : Option (Int32 × sMem) :=
  sRc 5 2 M0 v0 (
    if v1 < (6 : Int32) then
      f_X5_mayOpen_B15 v0 M0
    else
      (gR 5 2 0 M0 v0).bind fun x3 =>
      (f_X10_fail x3 ((4 : Int32)) v2 M0).bind fun M4 =>
      f_X5_mayOpen_B15 v0 M4)
set_option maxRecDepth 100000 in
set_option maxHeartbeats 4000000 in
theorem m_X5_mayOpen (G : sG) (l : Launch) (v0 : Nat) (v1 : Int32) (v2 : Int32) (M0 : sMem) : sC G l 3 yX5_mayOpen cX5_mayOpen 3 (some .boolean) [.ref v0, .int v1, .int v2] M0 rvI (f_X5_mayOpen v0 v1 v2 M0) := by
  refine sC_m (ls := [some (.ref v0), some (.int v1), some (.int v2)]) (by decide +kernel) rfl (Nat.le_of_ble_eq_true rfl) (fun r M' K hr => ?_)
  unfold f_X5_mayOpen
  have xB15 : ∀ (v0 : Nat) (M : sMem), sX G l 3 yX5_mayOpen cX5_mayOpen 3 (some .boolean) M0 r M' 15 [some (.ref v0), none, none] [] M (f_X5_mayOpen_B15 v0 M) K := by
    intro v0 M
    unfold f_X5_mayOpen_B15
    refine sX_aload_n (i := 0) (by decide +kernel) rfl ?_
    refine sX_getR lf_X5_18 tk_5_0 (by decide +kernel) (fun x1 => ?_)
    refine sX_callVp (As := []) (by decide +kernel) lm_X5_55 mf_X10_isGood mi_X10_isGood mc_10 (m_X10_isGood G l x1 M) (fun _ h => sRc_some h) (by decide) rfl rfl (Nat.le_of_ble_eq_true rfl) (fun x2 => ?_)
    refine sX_g (fun hz => ?_)
    exact sX_some (fun h _ => sW_zret (by decide +kernel) rfl (nar_bool hz).1 (hr _ h).1.symm (hr _ h).2.symm)
  refine sX_rc ?_
  refine sX_iload_n (i := 1) (by decide +kernel) rfl ?_
  refine sX_bipush (n := 6) (v := (6 : Int32)) (by decide +kernel) (by decide) ?_
  refine sX_iclt (o := 12) (t := 15) (by decide +kernel) (by decide) (fun _ => ?_) (fun _ => ?_)
  · exact sX.le (xB15 v0 M0) (sLe_s (sLe_n (sLe_n sLe_e)))
  · refine sX_aload_n (i := 0) (by decide +kernel) rfl ?_
    refine sX_getR lf_X5_18 tk_5_0 (by decide +kernel) (fun x3 => ?_)
    refine sX_iconst (n := 4) (v := (4 : Int32)) (by decide +kernel) (by decide) ?_
    refine sX_iload_n (i := 2) (by decide +kernel) rfl ?_
    refine sX_callVv (As := [.int (4 : Int32), .int v2]) (by decide +kernel) lm_X5_48 mf_X10_fail mi_X10_fail mc_10 (m_X10_fail G l x3 ((4 : Int32)) v2 M0) (fun _ h => sRc_some h) (by decide) rfl rfl (Nat.le_of_ble_eq_true rfl) (fun M4 => ?_)
    exact sX.le (xB15 v0 M4) (sLe_s (sLe_n (sLe_n sLe_e)))
def f_X10_takesSign (v0 : Nat) (v1 : Int32) (M0 : sMem) : Option (Int32 × sMem) :=
  sRc 10 10 M0 v0 (
    (gR 10 10 2 M0 v0).bind fun x1 =>
    (gI 10 10 7 M0 v0).bind fun x2 =>
    (ldI 14 M0 x1 x2).bind fun x3 =>
    if x3 = (3 : Int32) then
      (gR 10 10 5 M0 v0).bind fun x4 =>
      (gI 10 10 7 M0 v0).bind fun x5 =>
      (ldI 14 M0 x4 x5).bind fun x6 =>
      if x6 = v1 then
        (f_X10_goOn v0 M0).bind fun M7 =>
        some (((1 : Int32), M7))
      else
        some (((0 : Int32), M0))
    else
      some (((0 : Int32), M0)))
set_option maxRecDepth 100000 in
set_option maxHeartbeats 4000000 in
theorem m_X10_takesSign (G : sG) (l : Launch) (v0 : Nat) (v1 : Int32) (M0 : sMem) : sC G l 2 yX10_takesSign cX10_takesSign 2 (some .boolean) [.ref v0, .int v1] M0 rvI (f_X10_takesSign v0 v1 M0) := by
  refine sC_m (ls := [some (.ref v0), some (.int v1)]) (by decide +kernel) rfl (Nat.le_of_ble_eq_true rfl) (fun r M' K hr => ?_)
  unfold f_X10_takesSign
  refine sX_rc ?_
  refine sX_aload_n (i := 0) (by decide +kernel) rfl ?_
  refine sX_getR lf_X10_15 tk_10_2 (by decide +kernel) (fun x1 => ?_)
  refine sX_aload_n (i := 0) (by decide +kernel) rfl ?_
  refine sX_getI lf_X10_37 tk_10_7 (by decide +kernel) (fun x2 => ?_)
  refine sX_iaload (by decide +kernel) (fun x3 => ?_)
  refine sX_iconst (n := 3) (v := (3 : Int32)) (by decide +kernel) (by decide) ?_
  refine sX_icne (o := 16) (t := 26) (by decide +kernel) (by decide) (fun _ => ?_) (fun _ => ?_)
  · refine sX_aload_n (i := 0) (by decide +kernel) rfl ?_
    refine sX_getR lf_X10_24 tk_10_5 (by decide +kernel) (fun x4 => ?_)
    refine sX_aload_n (i := 0) (by decide +kernel) rfl ?_
    refine sX_getI lf_X10_37 tk_10_7 (by decide +kernel) (fun x5 => ?_)
    refine sX_iaload (by decide +kernel) (fun x6 => ?_)
    refine sX_iload_n (i := 1) (by decide +kernel) rfl ?_
    refine sX_iceq (o := 5) (t := 28) (by decide +kernel) (by decide) (fun _ => ?_) (fun _ => ?_)
    · refine sX_aload_n (i := 0) (by decide +kernel) rfl ?_
      refine sX_callVv (As := []) (by decide +kernel) lm_X10_57 mf_X10_goOn mi_X10_goOn mc_10 (m_X10_goOn G l v0 M0) (fun _ h => sRc_some h) (by decide) rfl rfl (Nat.le_of_ble_eq_true rfl) (fun M7 => ?_)
      refine sX_iconst (n := 1) (v := (1 : Int32)) (by decide +kernel) (by decide) ?_
      exact sX_some (fun h _ => sW_zret (by decide +kernel) rfl (by decide) (hr _ h).1.symm (hr _ h).2.symm)
    · refine sX_iconst (n := 0) (v := (0 : Int32)) (by decide +kernel) (by decide) ?_
      exact sX_some (fun h _ => sW_zret (by decide +kernel) rfl (by decide) (hr _ h).1.symm (hr _ h).2.symm)
  · refine sX_iconst (n := 0) (v := (0 : Int32)) (by decide +kernel) (by decide) ?_
    exact sX_some (fun h _ => sW_zret (by decide +kernel) rfl (by decide) (hr _ h).1.symm (hr _ h).2.symm)
def f_X10_needSign (v0 : Nat) (v1 : Int32) (M0 : sMem) : Option sMem :=
  sRc 10 10 M0 v0 (
    (f_X10_takesSign v0 v1 M0).bind fun (x1, M2) =>
    if x1 = 0 then
      (gR 10 10 3 M2 v0).bind fun x3 =>
      (gI 10 10 7 M2 v0).bind fun x4 =>
      (ldI 14 M2 x3 x4).bind fun x5 =>
      (f_X10_fail v0 ((1 : Int32)) x5 M2).bind fun M6 =>
      some M6
    else
      some M2)
set_option maxRecDepth 100000 in
set_option maxHeartbeats 4000000 in
theorem m_X10_needSign (G : sG) (l : Launch) (v0 : Nat) (v1 : Int32) (M0 : sMem) : sCv G l 3 yX10_needSign cX10_needSign 2 none [.ref v0, .int v1] M0 (f_X10_needSign v0 v1 M0) := by
  refine sC_v (ls := [some (.ref v0), some (.int v1)]) (by decide +kernel) rfl (Nat.le_of_ble_eq_true rfl) (fun r M' K hr => ?_)
  unfold f_X10_needSign
  refine sX_rc ?_
  refine sX_aload_n (i := 0) (by decide +kernel) rfl ?_
  refine sX_iload_n (i := 1) (by decide +kernel) rfl ?_
  refine sX_callV (As := [.int v1]) (by decide +kernel) lm_X10_60 mf_X10_takesSign mi_X10_takesSign mc_10 (m_X10_takesSign G l v0 v1 M0) (fun _ h => sRc_some h) (by decide) rfl rfl (Nat.le_of_ble_eq_true rfl) (fun x1 M2 _ => ?_)
  refine sX_ifne (o := 17) (t := 22) (by decide +kernel) (by decide) (fun _ => ?_) (fun _ => ?_)
  · refine sX_aload_n (i := 0) (by decide +kernel) rfl ?_
    refine sX_iconst (n := 1) (v := (1 : Int32)) (by decide +kernel) (by decide) ?_
    refine sX_aload_n (i := 0) (by decide +kernel) rfl ?_
    refine sX_getR lf_X10_18 tk_10_3 (by decide +kernel) (fun x3 => ?_)
    refine sX_aload_n (i := 0) (by decide +kernel) rfl ?_
    refine sX_getI lf_X10_37 tk_10_7 (by decide +kernel) (fun x4 => ?_)
    refine sX_iaload (by decide +kernel) (fun x5 => ?_)
    refine sX_callVv (As := [.int (1 : Int32), .int x5]) (by decide +kernel) lm_X10_64 mf_X10_fail mi_X10_fail mc_10 (m_X10_fail G l v0 ((1 : Int32)) x5 M2) (fun _ h => sRc_some h) (by decide) rfl rfl (Nat.le_of_ble_eq_true rfl) (fun M6 => ?_)
    exact sX_some (fun h _ => sW_vret (by decide +kernel) rfl (hr _ h).1.symm (hr _ h).2.symm)
  · exact sX_some (fun h _ => sW_vret (by decide +kernel) rfl (hr _ h).1.symm (hr _ h).2.symm)
def f_X5_readSign (v0 : Nat) (M0 : sMem) : Option (Int32 × sMem) :=
  sRc 5 2 M0 v0 (
    (gR 5 2 0 M0 v0).bind fun x1 =>
    (f_X10_takesSign x1 ((60 : Int32)) M0).bind fun (x2, M3) =>
    if x2 = 0 then
      (gR 5 2 0 M3 v0).bind fun x4 =>
      (f_X10_takesSign x4 ((62 : Int32)) M3).bind fun (x5, M6) =>
      if x5 = 0 then
        (gR 5 2 0 M6 v0).bind fun x7 =>
        (f_X10_needSign x7 ((61 : Int32)) M6).bind fun M8 =>
        some (((-5 : Int32), M8))
      else
        some (((-4 : Int32), M6))
    else
      some (((-3 : Int32), M3)))
set_option maxRecDepth 100000 in
set_option maxHeartbeats 4000000 in
theorem m_X5_readSign (G : sG) (l : Launch) (v0 : Nat) (M0 : sMem) : sC G l 4 yX5_readSign cX5_readSign 1 (some .int) [.ref v0] M0 rvI (f_X5_readSign v0 M0) := by
  refine sC_m (ls := [some (.ref v0)]) (by decide +kernel) rfl (Nat.le_of_ble_eq_true rfl) (fun r M' K hr => ?_)
  unfold f_X5_readSign
  refine sX_rc ?_
  refine sX_aload_n (i := 0) (by decide +kernel) rfl ?_
  refine sX_getR lf_X5_18 tk_5_0 (by decide +kernel) (fun x1 => ?_)
  refine sX_bipush (n := 60) (v := (60 : Int32)) (by decide +kernel) (by decide) ?_
  refine sX_callV (As := [.int (60 : Int32)]) (by decide +kernel) lm_X5_191 mf_X10_takesSign mi_X10_takesSign mc_10 (m_X10_takesSign G l x1 ((60 : Int32)) M0) (fun _ h => sRc_some h) (by decide) rfl rfl (Nat.le_of_ble_eq_true rfl) (fun x2 M3 _ => ?_)
  refine sX_ifeq (o := 6) (t := 15) (by decide +kernel) (by decide) (fun _ => ?_) (fun _ => ?_)
  · refine sX_aload_n (i := 0) (by decide +kernel) rfl ?_
    refine sX_getR lf_X5_18 tk_5_0 (by decide +kernel) (fun x4 => ?_)
    refine sX_bipush (n := 62) (v := (62 : Int32)) (by decide +kernel) (by decide) ?_
    refine sX_callV (As := [.int (62 : Int32)]) (by decide +kernel) lm_X5_191 mf_X10_takesSign mi_X10_takesSign mc_10 (m_X10_takesSign G l x4 ((62 : Int32)) M3) (fun _ h => sRc_some h) (by decide) rfl rfl (Nat.le_of_ble_eq_true rfl) (fun x5 M6 _ => ?_)
    refine sX_ifeq (o := 6) (t := 30) (by decide +kernel) (by decide) (fun _ => ?_) (fun _ => ?_)
    · refine sX_aload_n (i := 0) (by decide +kernel) rfl ?_
      refine sX_getR lf_X5_18 tk_5_0 (by decide +kernel) (fun x7 => ?_)
      refine sX_bipush (n := 61) (v := (61 : Int32)) (by decide +kernel) (by decide) ?_
      refine sX_callVv (As := [.int (61 : Int32)]) (by decide +kernel) lm_X5_40 mf_X10_needSign mi_X10_needSign mc_10 (m_X10_needSign G l x7 ((61 : Int32)) M6) (fun _ h => sRc_some h) (by decide) rfl rfl (Nat.le_of_ble_eq_true rfl) (fun M8 => ?_)
      refine sX_bipush (n := -5) (v := (-5 : Int32)) (by decide +kernel) (by decide) ?_
      exact sX_some (fun h _ => sW_iret (by decide +kernel) rfl (hr _ h).1.symm (hr _ h).2.symm)
    · refine sX_bipush (n := -4) (v := (-4 : Int32)) (by decide +kernel) (by decide) ?_
      exact sX_some (fun h _ => sW_iret (by decide +kernel) rfl (hr _ h).1.symm (hr _ h).2.symm)
  · refine sX_bipush (n := -3) (v := (-3 : Int32)) (by decide +kernel) (by decide) ?_
    exact sX_some (fun h _ => sW_iret (by decide +kernel) rfl (hr _ h).1.symm (hr _ h).2.symm)
def f_X10_isAtNumber (v0 : Nat) (M0 : sMem) : Option Int32 :=
  sRc 10 10 M0 v0 (
    (gR 10 10 2 M0 v0).bind fun x1 =>
    (gI 10 10 7 M0 v0).bind fun x2 =>
    (ldI 14 M0 x1 x2).bind fun x3 =>
    if x3 = (2 : Int32) then
      some ((1 : Int32))
    else
      some ((0 : Int32)))
set_option maxRecDepth 100000 in
set_option maxHeartbeats 4000000 in
theorem m_X10_isAtNumber (G : sG) (l : Launch) (v0 : Nat) (M0 : sMem) : sCp G l 1 yX10_isAtNumber cX10_isAtNumber 1 (some .boolean) [.ref v0] M0 rvI (f_X10_isAtNumber v0 M0) := by
  refine sC_p (ls := [some (.ref v0)]) (by decide +kernel) rfl (Nat.le_of_ble_eq_true rfl) (fun r M' K hr => ?_)
  unfold f_X10_isAtNumber
  refine sX_rc ?_
  refine sX_aload_n (i := 0) (by decide +kernel) rfl ?_
  refine sX_getR lf_X10_15 tk_10_2 (by decide +kernel) (fun x1 => ?_)
  refine sX_aload_n (i := 0) (by decide +kernel) rfl ?_
  refine sX_getI lf_X10_37 tk_10_7 (by decide +kernel) (fun x2 => ?_)
  refine sX_iaload (by decide +kernel) (fun x3 => ?_)
  refine sX_iconst (n := 2) (v := (2 : Int32)) (by decide +kernel) (by decide) ?_
  refine sX_icne (o := 7) (t := 17) (by decide +kernel) (by decide) (fun _ => ?_) (fun _ => ?_)
  · refine sX_iconst (n := 1) (v := (1 : Int32)) (by decide +kernel) (by decide) ?_
    refine sX_goto (o := 4) (t := 18) (by decide +kernel) (by decide) ?_
    exact sX_some (fun h _ => sW_zret (by decide +kernel) rfl (by decide) (hr _ h).1.symm (hr _ h).2.symm)
  · refine sX_iconst (n := 0) (v := (0 : Int32)) (by decide +kernel) (by decide) ?_
    exact sX_some (fun h _ => sW_zret (by decide +kernel) rfl (by decide) (hr _ h).1.symm (hr _ h).2.symm)
def f_X10_number_B83 (v0 : Nat) (v1 : Int32) (v3 : Int32) (M : sMem) : Option (Int32 × sMem) :=
  (f_X10_fail v0 ((2 : Int32)) v3 M).bind fun M1 =>
  some ((v1, M1))
def f_X10_number_B77 (v0 : Nat) (v1 : Int32) (v2 : Int32) (v3 : Int32) (v4 : Int32) (M : sMem) : Option (Int32 × sMem) :=
  if v4 ≤ v2 then
    some ((v4, M))
  else
    f_X10_number_B83 v0 v1 v3 M
def f_X10_number (v0 : Nat) (v1 : Int32) (v2 : Int32) (M0 : sMem) : Option (Int32 × sMem) :=
  sRc 10 10 M0 v0 (
    (gR 10 10 3 M0 v0).bind fun x2 =>
    (gI 10 10 7 M0 v0).bind fun x3 =>
    (ldI 14 M0 x2 x3).bind fun x4 =>
    (gR 10 10 5 M0 v0).bind fun x5 =>
    (gI 10 10 7 M0 v0).bind fun x6 =>
    (ldI 14 M0 x5 x6).bind fun x7 =>
    (gR 10 10 2 M0 v0).bind fun x8 =>
    (gI 10 10 7 M0 v0).bind fun x9 =>
    (ldI 14 M0 x8 x9).bind fun x10 =>
    if x10 = (2 : Int32) then
      (gR 10 10 4 M0 v0).bind fun x11 =>
      (gI 10 10 7 M0 v0).bind fun x12 =>
      (ldI 14 M0 x11 x12).bind fun x13 =>
      if (x13 - x4) ≤ (4 : Int32) then
        (f_X10_goOn v0 M0).bind fun M14 =>
        if x7 < v1 then
          f_X10_number_B83 v0 v1 x4 M14
        else
          f_X10_number_B77 v0 v1 v2 x4 x7 M14
      else
        (f_X10_fail v0 ((1 : Int32)) ((x4 + (4 : Int32))) M0).bind fun M15 =>
        some ((v1, M15))
    else
      (f_X10_fail v0 ((1 : Int32)) x4 M0).bind fun M16 =>
      some ((v1, M16)))
set_option maxRecDepth 100000 in
set_option maxHeartbeats 4000000 in
theorem m_X10_number (G : sG) (l : Launch) (v0 : Nat) (v1 : Int32) (v2 : Int32) (M0 : sMem) : sC G l 3 yX10_number cX10_number 5 (some .int) [.ref v0, .int v1, .int v2] M0 rvI (f_X10_number v0 v1 v2 M0) := by
  refine sC_m (ls := [some (.ref v0), some (.int v1), some (.int v2), none, none]) (by decide +kernel) rfl (Nat.le_of_ble_eq_true rfl) (fun r M' K hr => ?_)
  unfold f_X10_number
  have xB83 : ∀ (v0 : Nat) (v1 : Int32) (v3 : Int32) (M : sMem), sX G l 3 yX10_number cX10_number 5 (some .int) M0 r M' 83 [some (.ref v0), some (.int v1), none, some (.int v3), none] [] M (f_X10_number_B83 v0 v1 v3 M) K := by
    intro v0 v1 v3 M
    unfold f_X10_number_B83
    refine sX_aload_n (i := 0) (by decide +kernel) rfl ?_
    refine sX_iconst (n := 2) (v := (2 : Int32)) (by decide +kernel) (by decide) ?_
    refine sX_iload_n (i := 3) (by decide +kernel) rfl ?_
    refine sX_callVv (As := [.int (2 : Int32), .int v3]) (by decide +kernel) lm_X10_64 mf_X10_fail mi_X10_fail mc_10 (m_X10_fail G l v0 ((2 : Int32)) v3 M) (fun _ h => sRc_some h) (by decide) rfl rfl (Nat.le_of_ble_eq_true rfl) (fun M1 => ?_)
    refine sX_iload_n (i := 1) (by decide +kernel) rfl ?_
    exact sX_some (fun h _ => sW_iret (by decide +kernel) rfl (hr _ h).1.symm (hr _ h).2.symm)
  have xB77 : ∀ (v0 : Nat) (v1 : Int32) (v2 : Int32) (v3 : Int32) (v4 : Int32) (M : sMem), sX G l 3 yX10_number cX10_number 5 (some .int) M0 r M' 77 [some (.ref v0), some (.int v1), some (.int v2), some (.int v3), some (.int v4)] [] M (f_X10_number_B77 v0 v1 v2 v3 v4 M) K := by
    intro v0 v1 v2 v3 v4 M
    unfold f_X10_number_B77
    refine sX_iload (i := 4) (by decide +kernel) rfl ?_
    refine sX_iload_n (i := 2) (by decide +kernel) rfl ?_
    refine sX_icle (o := 11) (t := 91) (by decide +kernel) (by decide) (fun _ => ?_) (fun _ => ?_)
    · refine sX_iload (i := 4) (by decide +kernel) rfl ?_
      exact sX_some (fun h _ => sW_iret (by decide +kernel) rfl (hr _ h).1.symm (hr _ h).2.symm)
    · exact sX.le (xB83 v0 v1 v3 M) (sLe_s (sLe_s (sLe_n (sLe_s (sLe_n sLe_e)))))
  refine sX_rc ?_
  refine sX_aload_n (i := 0) (by decide +kernel) rfl ?_
  refine sX_getR lf_X10_18 tk_10_3 (by decide +kernel) (fun x2 => ?_)
  refine sX_aload_n (i := 0) (by decide +kernel) rfl ?_
  refine sX_getI lf_X10_37 tk_10_7 (by decide +kernel) (fun x3 => ?_)
  refine sX_iaload (by decide +kernel) (fun x4 => ?_)
  refine sX_istore_n (i := 3) (ls2 := [some (.ref v0), some (.int v1), some (.int v2), some (.int x4), none]) (by decide +kernel) (by decide) rfl ?_
  refine sX_aload_n (i := 0) (by decide +kernel) rfl ?_
  refine sX_getR lf_X10_24 tk_10_5 (by decide +kernel) (fun x5 => ?_)
  refine sX_aload_n (i := 0) (by decide +kernel) rfl ?_
  refine sX_getI lf_X10_37 tk_10_7 (by decide +kernel) (fun x6 => ?_)
  refine sX_iaload (by decide +kernel) (fun x7 => ?_)
  refine sX_istore (i := 4) (ls2 := [some (.ref v0), some (.int v1), some (.int v2), some (.int x4), some (.int x7)]) (by decide +kernel) (by decide) rfl ?_
  refine sX_aload_n (i := 0) (by decide +kernel) rfl ?_
  refine sX_getR lf_X10_15 tk_10_2 (by decide +kernel) (fun x8 => ?_)
  refine sX_aload_n (i := 0) (by decide +kernel) rfl ?_
  refine sX_getI lf_X10_37 tk_10_7 (by decide +kernel) (fun x9 => ?_)
  refine sX_iaload (by decide +kernel) (fun x10 => ?_)
  refine sX_iconst (n := 2) (v := (2 : Int32)) (by decide +kernel) (by decide) ?_
  refine sX_iceq (o := 11) (t := 42) (by decide +kernel) (by decide) (fun _ => ?_) (fun _ => ?_)
  · refine sX_aload_n (i := 0) (by decide +kernel) rfl ?_
    refine sX_getR lf_X10_21 tk_10_4 (by decide +kernel) (fun x11 => ?_)
    refine sX_aload_n (i := 0) (by decide +kernel) rfl ?_
    refine sX_getI lf_X10_37 tk_10_7 (by decide +kernel) (fun x12 => ?_)
    refine sX_iaload (by decide +kernel) (fun x13 => ?_)
    refine sX_iload_n (i := 3) (by decide +kernel) rfl ?_
    refine sX_isub (by decide +kernel) ?_
    refine sX_iconst (n := 4) (v := (4 : Int32)) (by decide +kernel) (by decide) ?_
    refine sX_icle (o := 13) (t := 67) (by decide +kernel) (by decide) (fun _ => ?_) (fun _ => ?_)
    · refine sX_aload_n (i := 0) (by decide +kernel) rfl ?_
      refine sX_callVv (As := []) (by decide +kernel) lm_X10_57 mf_X10_goOn mi_X10_goOn mc_10 (m_X10_goOn G l v0 M0) (fun _ h => sRc_some h) (by decide) rfl rfl (Nat.le_of_ble_eq_true rfl) (fun M14 => ?_)
      refine sX_iload (i := 4) (by decide +kernel) rfl ?_
      refine sX_iload_n (i := 1) (by decide +kernel) rfl ?_
      refine sX_iclt (o := 9) (t := 83) (by decide +kernel) (by decide) (fun _ => ?_) (fun _ => ?_)
      · exact sX.le (xB83 v0 v1 x4 M14) (sLe_s (sLe_s (sLe_n (sLe_s (sLe_n sLe_e)))))
      · exact sX.le (xB77 v0 v1 v2 x4 x7 M14) (sLe_s (sLe_s (sLe_s (sLe_s (sLe_s sLe_e)))))
    · refine sX_aload_n (i := 0) (by decide +kernel) rfl ?_
      refine sX_iconst (n := 1) (v := (1 : Int32)) (by decide +kernel) (by decide) ?_
      refine sX_iload_n (i := 3) (by decide +kernel) rfl ?_
      refine sX_iconst (n := 4) (v := (4 : Int32)) (by decide +kernel) (by decide) ?_
      refine sX_iadd (by decide +kernel) ?_
      refine sX_callVv (As := [.int (1 : Int32), .int (x4 + (4 : Int32))]) (by decide +kernel) lm_X10_64 mf_X10_fail mi_X10_fail mc_10 (m_X10_fail G l v0 ((1 : Int32)) ((x4 + (4 : Int32))) M0) (fun _ h => sRc_some h) (by decide) rfl rfl (Nat.le_of_ble_eq_true rfl) (fun M15 => ?_)
      refine sX_iload_n (i := 1) (by decide +kernel) rfl ?_
      exact sX_some (fun h _ => sW_iret (by decide +kernel) rfl (hr _ h).1.symm (hr _ h).2.symm)
  · refine sX_aload_n (i := 0) (by decide +kernel) rfl ?_
    refine sX_iconst (n := 1) (v := (1 : Int32)) (by decide +kernel) (by decide) ?_
    refine sX_iload_n (i := 3) (by decide +kernel) rfl ?_
    refine sX_callVv (As := [.int (1 : Int32), .int x4]) (by decide +kernel) lm_X10_64 mf_X10_fail mi_X10_fail mc_10 (m_X10_fail G l v0 ((1 : Int32)) x4 M0) (fun _ h => sRc_some h) (by decide) rfl rfl (Nat.le_of_ble_eq_true rfl) (fun M16 => ?_)
    refine sX_iload_n (i := 1) (by decide +kernel) rfl ?_
    exact sX_some (fun h _ => sW_iret (by decide +kernel) rfl (hr _ h).1.symm (hr _ h).2.symm)
def f_X5_readTest_K11 (F : Nat → Nat → Nat → Int64 → Int32 → Int32 → sMem → Option sMem) (v0 : Nat) (v1 : Nat) (v2 : Int64) (v4 : Int32) (v5 : Int32) (M : sMem) : Option ((Int32 × sMem) ⊕ ((sMem))) :=
  if (1600 : Int32) ≤ v5 then
    some (.inr M)
  else
    (gR 5 2 0 M v0).bind fun x1 =>
    (f_X10_takesWord x1 ((27 : Int32)) M).bind fun (x2, M3) =>
    if x2 = 0 then
      some (.inr M3)
    else
      (F 1 v0 v1 v2 v4 (0 : Int32) M3).bind fun M4 =>
      (f_X6_add v1 ((-1 : Int32)) M4).bind fun M5 =>
      some (.inl ((((v5 + (1 : Int32))), M5)))
def f_X5_readTest_L11 (F : Nat → Nat → Nat → Int64 → Int32 → Int32 → sMem → Option sMem) (v0 : Nat) (v1 : Nat) (v2 : Int64) (v4 : Int32) (v5 : Int32) (M : sMem) : Option sMem :=
  (sItr (fun a : (Int32 × sMem) => f_X5_readTest_K11 F v0 v1 v2 v4 a.1 a.2) sFuel (v5, M)).bind (fun b => some b)
def f_X5_readTest (F : Nat → Nat → Nat → Int64 → Int32 → Int32 → sMem → Option sMem) (v0 : Nat) (v1 : Nat) (v2 : Int64) (v4 : Int32) (M0 : sMem) : Option sMem :=
  sRc 5 2 M0 v0 (
    (F 1 v0 v1 v2 v4 (0 : Int32) M0).bind fun M6 =>
    f_X5_readTest_L11 F v0 v1 v2 v4 ((0 : Int32)) M6)
set_option maxRecDepth 100000 in
set_option maxHeartbeats 4000000 in
theorem m_X5_readTest (F : Nat → Nat → Nat → Int64 → Int32 → Int32 → sMem → Option sMem) (d : Nat) (G : sG) (l : Launch) (hF0 : ∀ (v0 v1 : Nat) (v2 : Int64) (v4 : Int32) (M : sMem), sCv G l (d - 1) yX5_readTest cX5_readTest 6 none [.ref v0, .ref v1, .long v2, .int v4] M (F 0 v0 v1 v2 v4 (0 : Int32) M) ∧ ∀ z, F 0 v0 v1 v2 v4 (0 : Int32) M = some z → M.1[v0]? = some (5, 2)) (hF1 : ∀ (v0 v1 : Nat) (v2 : Int64) (v4 : Int32) (M : sMem), sCv G l (d - 1) yX5_readBoth cX5_readBoth 6 none [.ref v0, .ref v1, .long v2, .int v4] M (F 1 v0 v1 v2 v4 (0 : Int32) M) ∧ ∀ z, F 1 v0 v1 v2 v4 (0 : Int32) M = some z → M.1[v0]? = some (5, 2)) (hF2 : ∀ (v0 v1 : Nat) (v2 : Int64) (v4 : Int32) (M : sMem), sCv G l (d - 1) yX5_readFact cX5_readFact 7 none [.ref v0, .ref v1, .long v2, .int v4] M (F 2 v0 v1 v2 v4 (0 : Int32) M) ∧ ∀ z, F 2 v0 v1 v2 v4 (0 : Int32) M = some z → M.1[v0]? = some (5, 2)) (hF3 : ∀ (v0 v1 : Nat) (v2 : Int64) (v4 : Int32) (M : sMem), sCv G l (d - 1) yX5_readSum cX5_readSum 8 none [.ref v0, .ref v1, .long v2, .int v4] M (F 3 v0 v1 v2 v4 (0 : Int32) M) ∧ ∀ z, F 3 v0 v1 v2 v4 (0 : Int32) M = some z → M.1[v0]? = some (5, 2)) (hF4 : ∀ (v0 v1 : Nat) (v2 : Int64) (v4 : Int32) (M : sMem), sCv G l (d - 1) yX5_readProduct cX5_readProduct 8 none [.ref v0, .ref v1, .long v2, .int v4] M (F 4 v0 v1 v2 v4 (0 : Int32) M) ∧ ∀ z, F 4 v0 v1 v2 v4 (0 : Int32) M = some z → M.1[v0]? = some (5, 2)) (hF5 : ∀ (v0 v1 : Nat) (v2 : Int64) (v4 : Int32) (M : sMem), sCv G l (d - 1) yX5_readPart cX5_readPart 8 none [.ref v0, .ref v1, .long v2, .int v4] M (F 5 v0 v1 v2 v4 (0 : Int32) M) ∧ ∀ z, F 5 v0 v1 v2 v4 (0 : Int32) M = some z → M.1[v0]? = some (5, 2)) (hF6 : ∀ (v0 v1 : Nat) (v2 : Int64) (v4 : Int32) (v5 : Int32) (M : sMem), sCv G l (d - 1) yX5_readPair cX5_readPair 7 none [.ref v0, .ref v1, .long v2, .int v4, .int v5] M (F 6 v0 v1 v2 v4 v5 M) ∧ ∀ z, F 6 v0 v1 v2 v4 v5 M = some z → M.1[v0]? = some (5, 2)) (hd : 5 ≤ d) (v0 : Nat) (v1 : Nat) (v2 : Int64) (v4 : Int32) (M0 : sMem) : sCv G l d yX5_readTest cX5_readTest 6 none [.ref v0, .ref v1, .long v2, .int v4] M0 (f_X5_readTest F v0 v1 v2 v4 M0) := by
  refine sC_v (ls := [some (.ref v0), some (.ref v1), some (.long v2), none, some (.int v4), none]) (by decide +kernel) rfl (Nat.le_of_ble_eq_true rfl) (fun r M' K hr => ?_)
  unfold f_X5_readTest
  have xL11 : ∀ (v0 : Nat) (v1 : Nat) (v2 : Int64) (v4 : Int32) (v5 : Int32) (M : sMem), sX G l d yX5_readTest cX5_readTest 6 none M0 r M' 11 [some (.ref v0), some (.ref v1), some (.long v2), none, some (.int v4), some (.int v5)] [] M (f_X5_readTest_L11 F v0 v1 v2 v4 v5 M) K := by
    intro v0 v1 v2 v4 v5 M
    unfold f_X5_readTest_L11
    refine sX_bind ?_
    refine sX_loop (LS := fun a : (Int32 × sMem) => [some (.ref v0), some (.ref v1), some (.long v2), none, some (.int v4), some (.int a.1)]) (MM := fun a => a.2) (fun K1 hb1 he1 => ?_) sFuel ((v5, M))
    have xK11 : ∀ (v5 : Int32) (M : sMem), sX G l d yX5_readTest cX5_readTest 6 none M0 r M' 11 [some (.ref v0), some (.ref v1), some (.long v2), none, some (.int v4), some (.int v5)] [] M (f_X5_readTest_K11 F v0 v1 v2 v4 v5 M) K1 := by
      intro v5 M
      unfold f_X5_readTest_K11
      refine sX_iload (i := 5) (by decide +kernel) rfl ?_
      refine sX_sipush (n := 1600) (v := (1600 : Int32)) (by decide +kernel) (by decide) ?_
      refine sX_icge (o := 34) (t := 50) (by decide +kernel) (by decide) (fun _ => ?_) (fun _ => ?_)
      · refine sX_exit he1 ?_
        exact sX_some (fun h _ => sW_vret (by decide +kernel) rfl (hr _ h).1.symm (hr _ h).2.symm)
      · refine sX_aload_n (i := 0) (by decide +kernel) rfl ?_
        refine sX_getR lf_X5_18 tk_5_0 (by decide +kernel) (fun x1 => ?_)
        refine sX_bipush (n := 27) (v := (27 : Int32)) (by decide +kernel) (by decide) ?_
        refine sX_callV (As := [.int (27 : Int32)]) (by decide +kernel) lm_X5_178 mf_X10_takesWord mi_X10_takesWord mc_10 (m_X10_takesWord G l x1 ((27 : Int32)) M) (fun _ h => sRc_some h) (by omega) rfl rfl (Nat.le_of_ble_eq_true rfl) (fun x2 M3 _ => ?_)
        refine sX_ifeq (o := 22) (t := 50) (by decide +kernel) (by decide) (fun _ => ?_) (fun _ => ?_)
        · refine sX_exit he1 ?_
          exact sX_some (fun h _ => sW_vret (by decide +kernel) rfl (hr _ h).1.symm (hr _ h).2.symm)
        · refine sX_aload_n (i := 0) (by decide +kernel) rfl ?_
          refine sX_aload_n (i := 1) (by decide +kernel) rfl ?_
          refine sX_lload_n (i := 2) (by decide +kernel) rfl ?_
          refine sX_iload (i := 4) (by decide +kernel) rfl ?_
          refine sX_callVv (As := [.ref v1, .long v2, .int v4]) (by decide +kernel) lm_X5_175 mf_X5_readBoth mi_X5_readBoth mc_5 (hF1 v0 v1 v2 v4 M3).1 (hF1 v0 v1 v2 v4 M3).2 (by omega) rfl rfl (Nat.le_of_ble_eq_true rfl) (fun M4 => ?_)
          refine sX_aload_n (i := 1) (by decide +kernel) rfl ?_
          refine sX_iconst (n := -1) (v := (-1 : Int32)) (by decide +kernel) (by decide) ?_
          refine sX_callVv (As := [.int (-1 : Int32)]) (by decide +kernel) lm_X5_182 mf_X6_add mi_X6_add mc_6 (m_X6_add G l v1 ((-1 : Int32)) M4) (fun _ h => sRc_some h) (by omega) rfl rfl (Nat.le_of_ble_eq_true rfl) (fun M5 => ?_)
          refine sX_iinc (i := 5) (n := 1) (v := v5 + (1 : Int32)) (ls2 := [some (.ref v0), some (.ref v1), some (.long v2), none, some (.int v4), some (.int (v5 + (1 : Int32)))]) (by decide +kernel) rfl rfl (by decide) rfl ?_
          refine sX_goto (o := -36) (t := 11) (by decide +kernel) (by decide) ?_
          exact sX_back (a := (((v5 + (1 : Int32))), M5)) hb1 rfl (sLe_s (sLe_s (sLe_s (sLe_n (sLe_s (sLe_s sLe_e))))))
    exact fun a => xK11 a.1 a.2
  refine sX_rc ?_
  refine sX_aload_n (i := 0) (by decide +kernel) rfl ?_
  refine sX_aload_n (i := 1) (by decide +kernel) rfl ?_
  refine sX_lload_n (i := 2) (by decide +kernel) rfl ?_
  refine sX_iload (i := 4) (by decide +kernel) rfl ?_
  refine sX_callVv (As := [.ref v1, .long v2, .int v4]) (by decide +kernel) lm_X5_175 mf_X5_readBoth mi_X5_readBoth mc_5 (hF1 v0 v1 v2 v4 M0).1 (hF1 v0 v1 v2 v4 M0).2 (by omega) rfl rfl (Nat.le_of_ble_eq_true rfl) (fun M6 => ?_)
  refine sX_iconst (n := 0) (v := (0 : Int32)) (by decide +kernel) (by decide) ?_
  refine sX_istore (i := 5) (ls2 := [some (.ref v0), some (.ref v1), some (.long v2), none, some (.int v4), some (.int (0 : Int32))]) (by decide +kernel) (by decide) rfl ?_
  exact sX.le (xL11 v0 v1 v2 v4 ((0 : Int32)) M6) (sLe_s (sLe_s (sLe_s (sLe_n (sLe_s (sLe_s sLe_e))))))
def f_X5_readBoth_K11 (F : Nat → Nat → Nat → Int64 → Int32 → Int32 → sMem → Option sMem) (v0 : Nat) (v1 : Nat) (v2 : Int64) (v4 : Int32) (v5 : Int32) (M : sMem) : Option ((Int32 × sMem) ⊕ ((sMem))) :=
  if (1600 : Int32) ≤ v5 then
    some (.inr M)
  else
    (gR 5 2 0 M v0).bind fun x1 =>
    (f_X10_takesWord x1 ((28 : Int32)) M).bind fun (x2, M3) =>
    if x2 = 0 then
      some (.inr M3)
    else
      (F 2 v0 v1 v2 v4 (0 : Int32) M3).bind fun M4 =>
      (f_X6_add v1 ((-2 : Int32)) M4).bind fun M5 =>
      some (.inl ((((v5 + (1 : Int32))), M5)))
def f_X5_readBoth_L11 (F : Nat → Nat → Nat → Int64 → Int32 → Int32 → sMem → Option sMem) (v0 : Nat) (v1 : Nat) (v2 : Int64) (v4 : Int32) (v5 : Int32) (M : sMem) : Option sMem :=
  (sItr (fun a : (Int32 × sMem) => f_X5_readBoth_K11 F v0 v1 v2 v4 a.1 a.2) sFuel (v5, M)).bind (fun b => some b)
def f_X5_readBoth (F : Nat → Nat → Nat → Int64 → Int32 → Int32 → sMem → Option sMem) (v0 : Nat) (v1 : Nat) (v2 : Int64) (v4 : Int32) (M0 : sMem) : Option sMem :=
  sRc 5 2 M0 v0 (
    (F 2 v0 v1 v2 v4 (0 : Int32) M0).bind fun M6 =>
    f_X5_readBoth_L11 F v0 v1 v2 v4 ((0 : Int32)) M6)
set_option maxRecDepth 100000 in
set_option maxHeartbeats 4000000 in
theorem m_X5_readBoth (F : Nat → Nat → Nat → Int64 → Int32 → Int32 → sMem → Option sMem) (d : Nat) (G : sG) (l : Launch) (hF0 : ∀ (v0 v1 : Nat) (v2 : Int64) (v4 : Int32) (M : sMem), sCv G l (d - 1) yX5_readTest cX5_readTest 6 none [.ref v0, .ref v1, .long v2, .int v4] M (F 0 v0 v1 v2 v4 (0 : Int32) M) ∧ ∀ z, F 0 v0 v1 v2 v4 (0 : Int32) M = some z → M.1[v0]? = some (5, 2)) (hF1 : ∀ (v0 v1 : Nat) (v2 : Int64) (v4 : Int32) (M : sMem), sCv G l (d - 1) yX5_readBoth cX5_readBoth 6 none [.ref v0, .ref v1, .long v2, .int v4] M (F 1 v0 v1 v2 v4 (0 : Int32) M) ∧ ∀ z, F 1 v0 v1 v2 v4 (0 : Int32) M = some z → M.1[v0]? = some (5, 2)) (hF2 : ∀ (v0 v1 : Nat) (v2 : Int64) (v4 : Int32) (M : sMem), sCv G l (d - 1) yX5_readFact cX5_readFact 7 none [.ref v0, .ref v1, .long v2, .int v4] M (F 2 v0 v1 v2 v4 (0 : Int32) M) ∧ ∀ z, F 2 v0 v1 v2 v4 (0 : Int32) M = some z → M.1[v0]? = some (5, 2)) (hF3 : ∀ (v0 v1 : Nat) (v2 : Int64) (v4 : Int32) (M : sMem), sCv G l (d - 1) yX5_readSum cX5_readSum 8 none [.ref v0, .ref v1, .long v2, .int v4] M (F 3 v0 v1 v2 v4 (0 : Int32) M) ∧ ∀ z, F 3 v0 v1 v2 v4 (0 : Int32) M = some z → M.1[v0]? = some (5, 2)) (hF4 : ∀ (v0 v1 : Nat) (v2 : Int64) (v4 : Int32) (M : sMem), sCv G l (d - 1) yX5_readProduct cX5_readProduct 8 none [.ref v0, .ref v1, .long v2, .int v4] M (F 4 v0 v1 v2 v4 (0 : Int32) M) ∧ ∀ z, F 4 v0 v1 v2 v4 (0 : Int32) M = some z → M.1[v0]? = some (5, 2)) (hF5 : ∀ (v0 v1 : Nat) (v2 : Int64) (v4 : Int32) (M : sMem), sCv G l (d - 1) yX5_readPart cX5_readPart 8 none [.ref v0, .ref v1, .long v2, .int v4] M (F 5 v0 v1 v2 v4 (0 : Int32) M) ∧ ∀ z, F 5 v0 v1 v2 v4 (0 : Int32) M = some z → M.1[v0]? = some (5, 2)) (hF6 : ∀ (v0 v1 : Nat) (v2 : Int64) (v4 : Int32) (v5 : Int32) (M : sMem), sCv G l (d - 1) yX5_readPair cX5_readPair 7 none [.ref v0, .ref v1, .long v2, .int v4, .int v5] M (F 6 v0 v1 v2 v4 v5 M) ∧ ∀ z, F 6 v0 v1 v2 v4 v5 M = some z → M.1[v0]? = some (5, 2)) (hd : 5 ≤ d) (v0 : Nat) (v1 : Nat) (v2 : Int64) (v4 : Int32) (M0 : sMem) : sCv G l d yX5_readBoth cX5_readBoth 6 none [.ref v0, .ref v1, .long v2, .int v4] M0 (f_X5_readBoth F v0 v1 v2 v4 M0) := by
  refine sC_v (ls := [some (.ref v0), some (.ref v1), some (.long v2), none, some (.int v4), none]) (by decide +kernel) rfl (Nat.le_of_ble_eq_true rfl) (fun r M' K hr => ?_)
  unfold f_X5_readBoth
  have xL11 : ∀ (v0 : Nat) (v1 : Nat) (v2 : Int64) (v4 : Int32) (v5 : Int32) (M : sMem), sX G l d yX5_readBoth cX5_readBoth 6 none M0 r M' 11 [some (.ref v0), some (.ref v1), some (.long v2), none, some (.int v4), some (.int v5)] [] M (f_X5_readBoth_L11 F v0 v1 v2 v4 v5 M) K := by
    intro v0 v1 v2 v4 v5 M
    unfold f_X5_readBoth_L11
    refine sX_bind ?_
    refine sX_loop (LS := fun a : (Int32 × sMem) => [some (.ref v0), some (.ref v1), some (.long v2), none, some (.int v4), some (.int a.1)]) (MM := fun a => a.2) (fun K1 hb1 he1 => ?_) sFuel ((v5, M))
    have xK11 : ∀ (v5 : Int32) (M : sMem), sX G l d yX5_readBoth cX5_readBoth 6 none M0 r M' 11 [some (.ref v0), some (.ref v1), some (.long v2), none, some (.int v4), some (.int v5)] [] M (f_X5_readBoth_K11 F v0 v1 v2 v4 v5 M) K1 := by
      intro v5 M
      unfold f_X5_readBoth_K11
      refine sX_iload (i := 5) (by decide +kernel) rfl ?_
      refine sX_sipush (n := 1600) (v := (1600 : Int32)) (by decide +kernel) (by decide) ?_
      refine sX_icge (o := 35) (t := 51) (by decide +kernel) (by decide) (fun _ => ?_) (fun _ => ?_)
      · refine sX_exit he1 ?_
        exact sX_some (fun h _ => sW_vret (by decide +kernel) rfl (hr _ h).1.symm (hr _ h).2.symm)
      · refine sX_aload_n (i := 0) (by decide +kernel) rfl ?_
        refine sX_getR lf_X5_18 tk_5_0 (by decide +kernel) (fun x1 => ?_)
        refine sX_bipush (n := 28) (v := (28 : Int32)) (by decide +kernel) (by decide) ?_
        refine sX_callV (As := [.int (28 : Int32)]) (by decide +kernel) lm_X5_178 mf_X10_takesWord mi_X10_takesWord mc_10 (m_X10_takesWord G l x1 ((28 : Int32)) M) (fun _ h => sRc_some h) (by omega) rfl rfl (Nat.le_of_ble_eq_true rfl) (fun x2 M3 _ => ?_)
        refine sX_ifeq (o := 23) (t := 51) (by decide +kernel) (by decide) (fun _ => ?_) (fun _ => ?_)
        · refine sX_exit he1 ?_
          exact sX_some (fun h _ => sW_vret (by decide +kernel) rfl (hr _ h).1.symm (hr _ h).2.symm)
        · refine sX_aload_n (i := 0) (by decide +kernel) rfl ?_
          refine sX_aload_n (i := 1) (by decide +kernel) rfl ?_
          refine sX_lload_n (i := 2) (by decide +kernel) rfl ?_
          refine sX_iload (i := 4) (by decide +kernel) rfl ?_
          refine sX_callVv (As := [.ref v1, .long v2, .int v4]) (by decide +kernel) lm_X5_184 mf_X5_readFact mi_X5_readFact mc_5 (hF2 v0 v1 v2 v4 M3).1 (hF2 v0 v1 v2 v4 M3).2 (by omega) rfl rfl (Nat.le_of_ble_eq_true rfl) (fun M4 => ?_)
          refine sX_aload_n (i := 1) (by decide +kernel) rfl ?_
          refine sX_bipush (n := -2) (v := (-2 : Int32)) (by decide +kernel) (by decide) ?_
          refine sX_callVv (As := [.int (-2 : Int32)]) (by decide +kernel) lm_X5_182 mf_X6_add mi_X6_add mc_6 (m_X6_add G l v1 ((-2 : Int32)) M4) (fun _ h => sRc_some h) (by omega) rfl rfl (Nat.le_of_ble_eq_true rfl) (fun M5 => ?_)
          refine sX_iinc (i := 5) (n := 1) (v := v5 + (1 : Int32)) (ls2 := [some (.ref v0), some (.ref v1), some (.long v2), none, some (.int v4), some (.int (v5 + (1 : Int32)))]) (by decide +kernel) rfl rfl (by decide) rfl ?_
          refine sX_goto (o := -37) (t := 11) (by decide +kernel) (by decide) ?_
          exact sX_back (a := (((v5 + (1 : Int32))), M5)) hb1 rfl (sLe_s (sLe_s (sLe_s (sLe_n (sLe_s (sLe_s sLe_e))))))
    exact fun a => xK11 a.1 a.2
  refine sX_rc ?_
  refine sX_aload_n (i := 0) (by decide +kernel) rfl ?_
  refine sX_aload_n (i := 1) (by decide +kernel) rfl ?_
  refine sX_lload_n (i := 2) (by decide +kernel) rfl ?_
  refine sX_iload (i := 4) (by decide +kernel) rfl ?_
  refine sX_callVv (As := [.ref v1, .long v2, .int v4]) (by decide +kernel) lm_X5_184 mf_X5_readFact mi_X5_readFact mc_5 (hF2 v0 v1 v2 v4 M0).1 (hF2 v0 v1 v2 v4 M0).2 (by omega) rfl rfl (Nat.le_of_ble_eq_true rfl) (fun M6 => ?_)
  refine sX_iconst (n := 0) (v := (0 : Int32)) (by decide +kernel) (by decide) ?_
  refine sX_istore (i := 5) (ls2 := [some (.ref v0), some (.ref v1), some (.long v2), none, some (.int v4), some (.int (0 : Int32))]) (by decide +kernel) (by decide) rfl ?_
  exact sX.le (xL11 v0 v1 v2 v4 ((0 : Int32)) M6) (sLe_s (sLe_s (sLe_s (sLe_n (sLe_s (sLe_s sLe_e))))))
def f_X5_readFact_B93 (F : Nat → Nat → Nat → Int64 → Int32 → Int32 → sMem → Option sMem) (M : sMem) : Option sMem :=
  some M
def f_X5_readFact (F : Nat → Nat → Nat → Int64 → Int32 → Int32 → sMem → Option sMem) (v0 : Nat) (v1 : Nat) (v2 : Int64) (v4 : Int32) (M0 : sMem) : Option sMem :=
  sRc 5 2 M0 v0 (
    (gR 5 2 0 M0 v0).bind fun x1 =>
    (f_X10_place x1 M0).bind fun x2 =>
    (gR 5 2 0 M0 v0).bind fun x3 =>
    (f_X10_takesWord x3 ((29 : Int32)) M0).bind fun (x4, M5) =>
    if x4 = 0 then
      (gR 5 2 0 M5 v0).bind fun x6 =>
      (f_X10_takesSign x6 ((91 : Int32)) M5).bind fun (x7, M8) =>
      if x7 = 0 then
        (gR 5 2 0 M8 v0).bind fun x9 =>
        (f_X10_takesWord x9 ((30 : Int32)) M8).bind fun (x10, M11) =>
        if x10 = 0 then
          (F 3 v0 v1 v2 v4 (0 : Int32) M11).bind fun M12 =>
          (f_X5_readSign v0 M12).bind fun (x13, M14) =>
          (F 3 v0 v1 v2 v4 (0 : Int32) M14).bind fun M15 =>
          (f_X6_add v1 x13 M15).bind fun M16 =>
          some M16
        else
          (f_X6_add v1 ((1 : Int32)) M11).bind fun M17 =>
          some M17
      else
        (f_X5_mayOpen v0 v4 x2 M8).bind fun (x18, M19) =>
        if x18 = 0 then
          some M19
        else
          (F 0 v0 v1 v2 ((v4 + (1 : Int32))) (0 : Int32) M19).bind fun M20 =>
          (gR 5 2 0 M20 v0).bind fun x21 =>
          (f_X10_needSign x21 ((93 : Int32)) M20).bind fun M22 =>
          f_X5_readFact_B93 F M22
    else
      (f_X5_mayOpen v0 v4 x2 M5).bind fun (x23, M24) =>
      if x23 = 0 then
        some M24
      else
        (F 2 v0 v1 v2 ((v4 + (1 : Int32))) (0 : Int32) M24).bind fun M25 =>
        (f_X6_add v1 ((-12 : Int32)) M25).bind fun M26 =>
        some M26)
set_option maxRecDepth 100000 in
set_option maxHeartbeats 4000000 in
theorem m_X5_readFact (F : Nat → Nat → Nat → Int64 → Int32 → Int32 → sMem → Option sMem) (d : Nat) (G : sG) (l : Launch) (hF0 : ∀ (v0 v1 : Nat) (v2 : Int64) (v4 : Int32) (M : sMem), sCv G l (d - 1) yX5_readTest cX5_readTest 6 none [.ref v0, .ref v1, .long v2, .int v4] M (F 0 v0 v1 v2 v4 (0 : Int32) M) ∧ ∀ z, F 0 v0 v1 v2 v4 (0 : Int32) M = some z → M.1[v0]? = some (5, 2)) (hF1 : ∀ (v0 v1 : Nat) (v2 : Int64) (v4 : Int32) (M : sMem), sCv G l (d - 1) yX5_readBoth cX5_readBoth 6 none [.ref v0, .ref v1, .long v2, .int v4] M (F 1 v0 v1 v2 v4 (0 : Int32) M) ∧ ∀ z, F 1 v0 v1 v2 v4 (0 : Int32) M = some z → M.1[v0]? = some (5, 2)) (hF2 : ∀ (v0 v1 : Nat) (v2 : Int64) (v4 : Int32) (M : sMem), sCv G l (d - 1) yX5_readFact cX5_readFact 7 none [.ref v0, .ref v1, .long v2, .int v4] M (F 2 v0 v1 v2 v4 (0 : Int32) M) ∧ ∀ z, F 2 v0 v1 v2 v4 (0 : Int32) M = some z → M.1[v0]? = some (5, 2)) (hF3 : ∀ (v0 v1 : Nat) (v2 : Int64) (v4 : Int32) (M : sMem), sCv G l (d - 1) yX5_readSum cX5_readSum 8 none [.ref v0, .ref v1, .long v2, .int v4] M (F 3 v0 v1 v2 v4 (0 : Int32) M) ∧ ∀ z, F 3 v0 v1 v2 v4 (0 : Int32) M = some z → M.1[v0]? = some (5, 2)) (hF4 : ∀ (v0 v1 : Nat) (v2 : Int64) (v4 : Int32) (M : sMem), sCv G l (d - 1) yX5_readProduct cX5_readProduct 8 none [.ref v0, .ref v1, .long v2, .int v4] M (F 4 v0 v1 v2 v4 (0 : Int32) M) ∧ ∀ z, F 4 v0 v1 v2 v4 (0 : Int32) M = some z → M.1[v0]? = some (5, 2)) (hF5 : ∀ (v0 v1 : Nat) (v2 : Int64) (v4 : Int32) (M : sMem), sCv G l (d - 1) yX5_readPart cX5_readPart 8 none [.ref v0, .ref v1, .long v2, .int v4] M (F 5 v0 v1 v2 v4 (0 : Int32) M) ∧ ∀ z, F 5 v0 v1 v2 v4 (0 : Int32) M = some z → M.1[v0]? = some (5, 2)) (hF6 : ∀ (v0 v1 : Nat) (v2 : Int64) (v4 : Int32) (v5 : Int32) (M : sMem), sCv G l (d - 1) yX5_readPair cX5_readPair 7 none [.ref v0, .ref v1, .long v2, .int v4, .int v5] M (F 6 v0 v1 v2 v4 v5 M) ∧ ∀ z, F 6 v0 v1 v2 v4 v5 M = some z → M.1[v0]? = some (5, 2)) (hd : 5 ≤ d) (v0 : Nat) (v1 : Nat) (v2 : Int64) (v4 : Int32) (M0 : sMem) : sCv G l d yX5_readFact cX5_readFact 7 none [.ref v0, .ref v1, .long v2, .int v4] M0 (f_X5_readFact F v0 v1 v2 v4 M0) := by
  refine sC_v (ls := [some (.ref v0), some (.ref v1), some (.long v2), none, some (.int v4), none, none]) (by decide +kernel) rfl (Nat.le_of_ble_eq_true rfl) (fun r M' K hr => ?_)
  unfold f_X5_readFact
  have xB93 : ∀ (M : sMem), sX G l d yX5_readFact cX5_readFact 7 none M0 r M' 93 [none, none, none, none, none, none, none] [] M (f_X5_readFact_B93 F M) K := by
    intro M
    unfold f_X5_readFact_B93
    refine sX_goto (o := 51) (t := 144) (by decide +kernel) (by decide) ?_
    exact sX_some (fun h _ => sW_vret (by decide +kernel) rfl (hr _ h).1.symm (hr _ h).2.symm)
  refine sX_rc ?_
  refine sX_aload_n (i := 0) (by decide +kernel) rfl ?_
  refine sX_getR lf_X5_18 tk_5_0 (by decide +kernel) (fun x1 => ?_)
  refine sX_callVp (As := []) (by decide +kernel) lm_X5_44 mf_X10_place mi_X10_place mc_10 (m_X10_place G l x1 M0) (fun _ h => sRc_some h) (by omega) rfl rfl (Nat.le_of_ble_eq_true rfl) (fun x2 => ?_)
  refine sX_istore (i := 5) (ls2 := [some (.ref v0), some (.ref v1), some (.long v2), none, some (.int v4), some (.int x2), none]) (by decide +kernel) (by decide) rfl ?_
  refine sX_aload_n (i := 0) (by decide +kernel) rfl ?_
  refine sX_getR lf_X5_18 tk_5_0 (by decide +kernel) (fun x3 => ?_)
  refine sX_bipush (n := 29) (v := (29 : Int32)) (by decide +kernel) (by decide) ?_
  refine sX_callV (As := [.int (29 : Int32)]) (by decide +kernel) lm_X5_178 mf_X10_takesWord mi_X10_takesWord mc_10 (m_X10_takesWord G l x3 ((29 : Int32)) M0) (fun _ h => sRc_some h) (by omega) rfl rfl (Nat.le_of_ble_eq_true rfl) (fun x4 M5 _ => ?_)
  refine sX_ifeq (o := 33) (t := 51) (by decide +kernel) (by decide) (fun _ => ?_) (fun _ => ?_)
  · refine sX_aload_n (i := 0) (by decide +kernel) rfl ?_
    refine sX_getR lf_X5_18 tk_5_0 (by decide +kernel) (fun x6 => ?_)
    refine sX_bipush (n := 91) (v := (91 : Int32)) (by decide +kernel) (by decide) ?_
    refine sX_callV (As := [.int (91 : Int32)]) (by decide +kernel) lm_X5_191 mf_X10_takesSign mi_X10_takesSign mc_10 (m_X10_takesSign G l x6 ((91 : Int32)) M5) (fun _ h => sRc_some h) (by omega) rfl rfl (Nat.le_of_ble_eq_true rfl) (fun x7 M8 _ => ?_)
    refine sX_ifeq (o := 36) (t := 96) (by decide +kernel) (by decide) (fun _ => ?_) (fun _ => ?_)
    · refine sX_aload_n (i := 0) (by decide +kernel) rfl ?_
      refine sX_getR lf_X5_18 tk_5_0 (by decide +kernel) (fun x9 => ?_)
      refine sX_bipush (n := 30) (v := (30 : Int32)) (by decide +kernel) (by decide) ?_
      refine sX_callV (As := [.int (30 : Int32)]) (by decide +kernel) lm_X5_178 mf_X10_takesWord mi_X10_takesWord mc_10 (m_X10_takesWord G l x9 ((30 : Int32)) M8) (fun _ h => sRc_some h) (by omega) rfl rfl (Nat.le_of_ble_eq_true rfl) (fun x10 M11 _ => ?_)
      refine sX_ifeq (o := 11) (t := 116) (by decide +kernel) (by decide) (fun _ => ?_) (fun _ => ?_)
      · refine sX_aload_n (i := 0) (by decide +kernel) rfl ?_
        refine sX_aload_n (i := 1) (by decide +kernel) rfl ?_
        refine sX_lload_n (i := 2) (by decide +kernel) rfl ?_
        refine sX_iload (i := 4) (by decide +kernel) rfl ?_
        refine sX_callVv (As := [.ref v1, .long v2, .int v4]) (by decide +kernel) lm_X5_75 mf_X5_readSum mi_X5_readSum mc_5 (hF3 v0 v1 v2 v4 M11).1 (hF3 v0 v1 v2 v4 M11).2 (by omega) rfl rfl (Nat.le_of_ble_eq_true rfl) (fun M12 => ?_)
        refine sX_aload_n (i := 0) (by decide +kernel) rfl ?_
        refine sX_callV (As := []) (by decide +kernel) lm_X5_195 mf_X5_readSign mi_X5_readSign mc_5 (m_X5_readSign G l v0 M12) (fun _ h => sRc_some h) (by omega) rfl rfl (Nat.le_of_ble_eq_true rfl) (fun x13 M14 _ => ?_)
        refine sX_istore (i := 6) (ls2 := [some (.ref v0), some (.ref v1), some (.long v2), none, some (.int v4), some (.int x2), some (.int x13)]) (by decide +kernel) (by decide) rfl ?_
        refine sX_aload_n (i := 0) (by decide +kernel) rfl ?_
        refine sX_aload_n (i := 1) (by decide +kernel) rfl ?_
        refine sX_lload_n (i := 2) (by decide +kernel) rfl ?_
        refine sX_iload (i := 4) (by decide +kernel) rfl ?_
        refine sX_callVv (As := [.ref v1, .long v2, .int v4]) (by decide +kernel) lm_X5_75 mf_X5_readSum mi_X5_readSum mc_5 (hF3 v0 v1 v2 v4 M14).1 (hF3 v0 v1 v2 v4 M14).2 (by omega) rfl rfl (Nat.le_of_ble_eq_true rfl) (fun M15 => ?_)
        refine sX_aload_n (i := 1) (by decide +kernel) rfl ?_
        refine sX_iload (i := 6) (by decide +kernel) rfl ?_
        refine sX_callVv (As := [.int x13]) (by decide +kernel) lm_X5_182 mf_X6_add mi_X6_add mc_6 (m_X6_add G l v1 x13 M15) (fun _ h => sRc_some h) (by omega) rfl rfl (Nat.le_of_ble_eq_true rfl) (fun M16 => ?_)
        exact sX_some (fun h _ => sW_vret (by decide +kernel) rfl (hr _ h).1.symm (hr _ h).2.symm)
      · refine sX_aload_n (i := 1) (by decide +kernel) rfl ?_
        refine sX_iconst (n := 1) (v := (1 : Int32)) (by decide +kernel) (by decide) ?_
        refine sX_callVv (As := [.int (1 : Int32)]) (by decide +kernel) lm_X5_182 mf_X6_add mi_X6_add mc_6 (m_X6_add G l v1 ((1 : Int32)) M11) (fun _ h => sRc_some h) (by omega) rfl rfl (Nat.le_of_ble_eq_true rfl) (fun M17 => ?_)
        refine sX_goto (o := 31) (t := 144) (by decide +kernel) (by decide) ?_
        exact sX_some (fun h _ => sW_vret (by decide +kernel) rfl (hr _ h).1.symm (hr _ h).2.symm)
    · refine sX_aload_n (i := 0) (by decide +kernel) rfl ?_
      refine sX_iload (i := 4) (by decide +kernel) rfl ?_
      refine sX_iload (i := 5) (by decide +kernel) rfl ?_
      refine sX_callV (As := [.int v4, .int x2]) (by decide +kernel) lm_X5_187 mf_X5_mayOpen mi_X5_mayOpen mc_5 (m_X5_mayOpen G l v0 v4 x2 M8) (fun _ h => sRc_some h) (by omega) rfl rfl (Nat.le_of_ble_eq_true rfl) (fun x18 M19 _ => ?_)
      refine sX_ifeq (o := 73) (t := 144) (by decide +kernel) (by decide) (fun _ => ?_) (fun _ => ?_)
      · exact sX_some (fun h _ => sW_vret (by decide +kernel) rfl (hr _ h).1.symm (hr _ h).2.symm)
      · refine sX_aload_n (i := 0) (by decide +kernel) rfl ?_
        refine sX_aload_n (i := 1) (by decide +kernel) rfl ?_
        refine sX_lload_n (i := 2) (by decide +kernel) rfl ?_
        refine sX_iload (i := 4) (by decide +kernel) rfl ?_
        refine sX_iconst (n := 1) (v := (1 : Int32)) (by decide +kernel) (by decide) ?_
        refine sX_iadd (by decide +kernel) ?_
        refine sX_callVv (As := [.ref v1, .long v2, .int (v4 + (1 : Int32))]) (by decide +kernel) lm_X5_71 mf_X5_readTest mi_X5_readTest mc_5 (hF0 v0 v1 v2 ((v4 + (1 : Int32))) M19).1 (hF0 v0 v1 v2 ((v4 + (1 : Int32))) M19).2 (by omega) rfl rfl (Nat.le_of_ble_eq_true rfl) (fun M20 => ?_)
        refine sX_aload_n (i := 0) (by decide +kernel) rfl ?_
        refine sX_getR lf_X5_18 tk_5_0 (by decide +kernel) (fun x21 => ?_)
        refine sX_bipush (n := 93) (v := (93 : Int32)) (by decide +kernel) (by decide) ?_
        refine sX_callVv (As := [.int (93 : Int32)]) (by decide +kernel) lm_X5_40 mf_X10_needSign mi_X10_needSign mc_10 (m_X10_needSign G l x21 ((93 : Int32)) M20) (fun _ h => sRc_some h) (by omega) rfl rfl (Nat.le_of_ble_eq_true rfl) (fun M22 => ?_)
        exact sX.le (xB93 M22) (sLe_n (sLe_n (sLe_n (sLe_n (sLe_n (sLe_n (sLe_n sLe_e)))))))
  · refine sX_aload_n (i := 0) (by decide +kernel) rfl ?_
    refine sX_iload (i := 4) (by decide +kernel) rfl ?_
    refine sX_iload (i := 5) (by decide +kernel) rfl ?_
    refine sX_callV (As := [.int v4, .int x2]) (by decide +kernel) lm_X5_187 mf_X5_mayOpen mi_X5_mayOpen mc_5 (m_X5_mayOpen G l v0 v4 x2 M5) (fun _ h => sRc_some h) (by omega) rfl rfl (Nat.le_of_ble_eq_true rfl) (fun x23 M24 _ => ?_)
    refine sX_ifeq (o := 115) (t := 144) (by decide +kernel) (by decide) (fun _ => ?_) (fun _ => ?_)
    · exact sX_some (fun h _ => sW_vret (by decide +kernel) rfl (hr _ h).1.symm (hr _ h).2.symm)
    · refine sX_aload_n (i := 0) (by decide +kernel) rfl ?_
      refine sX_aload_n (i := 1) (by decide +kernel) rfl ?_
      refine sX_lload_n (i := 2) (by decide +kernel) rfl ?_
      refine sX_iload (i := 4) (by decide +kernel) rfl ?_
      refine sX_iconst (n := 1) (v := (1 : Int32)) (by decide +kernel) (by decide) ?_
      refine sX_iadd (by decide +kernel) ?_
      refine sX_callVv (As := [.ref v1, .long v2, .int (v4 + (1 : Int32))]) (by decide +kernel) lm_X5_184 mf_X5_readFact mi_X5_readFact mc_5 (hF2 v0 v1 v2 ((v4 + (1 : Int32))) M24).1 (hF2 v0 v1 v2 ((v4 + (1 : Int32))) M24).2 (by omega) rfl rfl (Nat.le_of_ble_eq_true rfl) (fun M25 => ?_)
      refine sX_aload_n (i := 1) (by decide +kernel) rfl ?_
      refine sX_bipush (n := -12) (v := (-12 : Int32)) (by decide +kernel) (by decide) ?_
      refine sX_callVv (As := [.int (-12 : Int32)]) (by decide +kernel) lm_X5_182 mf_X6_add mi_X6_add mc_6 (m_X6_add G l v1 ((-12 : Int32)) M25) (fun _ h => sRc_some h) (by omega) rfl rfl (Nat.le_of_ble_eq_true rfl) (fun M26 => ?_)
      refine sX_goto (o := 96) (t := 144) (by decide +kernel) (by decide) ?_
      exact sX_some (fun h _ => sW_vret (by decide +kernel) rfl (hr _ h).1.symm (hr _ h).2.symm)
def f_X5_readSum_B95 (F : Nat → Nat → Nat → Int64 → Int32 → Int32 → sMem → Option sMem) (v0 : Nat) (v1 : Nat) (v2 : Int64) (v4 : Int32) (v5 : Int32) (v6 : Int32) (M : sMem) : Option ((Int32 × Int32 × sMem) ⊕ ((sMem))) :=
  some (.inl ((v5, ((v6 + (1 : Int32))), M)))
def f_X5_readSum_B74 (F : Nat → Nat → Nat → Int64 → Int32 → Int32 → sMem → Option sMem) (v0 : Nat) (v1 : Nat) (v2 : Int64) (v4 : Int32) (v6 : Int32) (v7 : Int32) (s0 : Int32) (M : sMem) : Option ((Int32 × Int32 × sMem) ⊕ ((sMem))) :=
  if s0 = 0 then
    f_X5_readSum_B95 F v0 v1 v2 v4 s0 v6 M
  else
    (F 4 v0 v1 v2 v4 (0 : Int32) M).bind fun M1 =>
    (f_X6_add v1 v7 M1).bind fun M2 =>
    f_X5_readSum_B95 F v0 v1 v2 v4 s0 v6 M2
def f_X5_readSum_B62 (F : Nat → Nat → Nat → Int64 → Int32 → Int32 → sMem → Option sMem) (v0 : Nat) (v1 : Nat) (v2 : Int64) (v4 : Int32) (v6 : Int32) (s0 : Int32) (M : sMem) : Option ((Int32 × Int32 × sMem) ⊕ ((sMem))) :=
  if s0 = 0 then
    f_X5_readSum_B74 F v0 v1 v2 v4 v6 s0 ((0 : Int32)) M
  else
    f_X5_readSum_B74 F v0 v1 v2 v4 v6 s0 ((1 : Int32)) M
def f_X5_readSum_K14 (F : Nat → Nat → Nat → Int64 → Int32 → Int32 → sMem → Option sMem) (v0 : Nat) (v1 : Nat) (v2 : Int64) (v4 : Int32) (v5 : Int32) (v6 : Int32) (M : sMem) : Option ((Int32 × Int32 × sMem) ⊕ ((sMem))) :=
  if (1600 : Int32) ≤ v6 then
    some (.inr M)
  else
    if v5 = 0 then
      some (.inr M)
    else
      (gR 5 2 0 M v0).bind fun x3 =>
      (f_X10_takesSign x3 ((43 : Int32)) M).bind fun (x4, M5) =>
      if x4 = 0 then
        (gR 5 2 0 M5 v0).bind fun x6 =>
        (f_X10_takesSign x6 ((45 : Int32)) M5).bind fun (x7, M8) =>
        if x7 = 0 then
          f_X5_readSum_B62 F v0 v1 v2 v4 v6 ((0 : Int32)) M8
        else
          f_X5_readSum_B62 F v0 v1 v2 v4 v6 ((-7 : Int32)) M8
      else
        f_X5_readSum_B62 F v0 v1 v2 v4 v6 ((-6 : Int32)) M5
def f_X5_readSum_L14 (F : Nat → Nat → Nat → Int64 → Int32 → Int32 → sMem → Option sMem) (v0 : Nat) (v1 : Nat) (v2 : Int64) (v4 : Int32) (v5 : Int32) (v6 : Int32) (M : sMem) : Option sMem :=
  (sItr (fun a : (Int32 × Int32 × sMem) => f_X5_readSum_K14 F v0 v1 v2 v4 a.1 a.2.1 a.2.2) sFuel (v5, v6, M)).bind (fun b => some b)
def f_X5_readSum (F : Nat → Nat → Nat → Int64 → Int32 → Int32 → sMem → Option sMem) (v0 : Nat) (v1 : Nat) (v2 : Int64) (v4 : Int32) (M0 : sMem) : Option sMem :=
  sRc 5 2 M0 v0 (
    (F 4 v0 v1 v2 v4 (0 : Int32) M0).bind fun M9 =>
    f_X5_readSum_L14 F v0 v1 v2 v4 ((1 : Int32)) ((0 : Int32)) M9)
set_option maxRecDepth 100000 in
set_option maxHeartbeats 4000000 in
theorem m_X5_readSum (F : Nat → Nat → Nat → Int64 → Int32 → Int32 → sMem → Option sMem) (d : Nat) (G : sG) (l : Launch) (hF0 : ∀ (v0 v1 : Nat) (v2 : Int64) (v4 : Int32) (M : sMem), sCv G l (d - 1) yX5_readTest cX5_readTest 6 none [.ref v0, .ref v1, .long v2, .int v4] M (F 0 v0 v1 v2 v4 (0 : Int32) M) ∧ ∀ z, F 0 v0 v1 v2 v4 (0 : Int32) M = some z → M.1[v0]? = some (5, 2)) (hF1 : ∀ (v0 v1 : Nat) (v2 : Int64) (v4 : Int32) (M : sMem), sCv G l (d - 1) yX5_readBoth cX5_readBoth 6 none [.ref v0, .ref v1, .long v2, .int v4] M (F 1 v0 v1 v2 v4 (0 : Int32) M) ∧ ∀ z, F 1 v0 v1 v2 v4 (0 : Int32) M = some z → M.1[v0]? = some (5, 2)) (hF2 : ∀ (v0 v1 : Nat) (v2 : Int64) (v4 : Int32) (M : sMem), sCv G l (d - 1) yX5_readFact cX5_readFact 7 none [.ref v0, .ref v1, .long v2, .int v4] M (F 2 v0 v1 v2 v4 (0 : Int32) M) ∧ ∀ z, F 2 v0 v1 v2 v4 (0 : Int32) M = some z → M.1[v0]? = some (5, 2)) (hF3 : ∀ (v0 v1 : Nat) (v2 : Int64) (v4 : Int32) (M : sMem), sCv G l (d - 1) yX5_readSum cX5_readSum 8 none [.ref v0, .ref v1, .long v2, .int v4] M (F 3 v0 v1 v2 v4 (0 : Int32) M) ∧ ∀ z, F 3 v0 v1 v2 v4 (0 : Int32) M = some z → M.1[v0]? = some (5, 2)) (hF4 : ∀ (v0 v1 : Nat) (v2 : Int64) (v4 : Int32) (M : sMem), sCv G l (d - 1) yX5_readProduct cX5_readProduct 8 none [.ref v0, .ref v1, .long v2, .int v4] M (F 4 v0 v1 v2 v4 (0 : Int32) M) ∧ ∀ z, F 4 v0 v1 v2 v4 (0 : Int32) M = some z → M.1[v0]? = some (5, 2)) (hF5 : ∀ (v0 v1 : Nat) (v2 : Int64) (v4 : Int32) (M : sMem), sCv G l (d - 1) yX5_readPart cX5_readPart 8 none [.ref v0, .ref v1, .long v2, .int v4] M (F 5 v0 v1 v2 v4 (0 : Int32) M) ∧ ∀ z, F 5 v0 v1 v2 v4 (0 : Int32) M = some z → M.1[v0]? = some (5, 2)) (hF6 : ∀ (v0 v1 : Nat) (v2 : Int64) (v4 : Int32) (v5 : Int32) (M : sMem), sCv G l (d - 1) yX5_readPair cX5_readPair 7 none [.ref v0, .ref v1, .long v2, .int v4, .int v5] M (F 6 v0 v1 v2 v4 v5 M) ∧ ∀ z, F 6 v0 v1 v2 v4 v5 M = some z → M.1[v0]? = some (5, 2)) (hd : 5 ≤ d) (v0 : Nat) (v1 : Nat) (v2 : Int64) (v4 : Int32) (M0 : sMem) : sCv G l d yX5_readSum cX5_readSum 8 none [.ref v0, .ref v1, .long v2, .int v4] M0 (f_X5_readSum F v0 v1 v2 v4 M0) := by
  refine sC_v (ls := [some (.ref v0), some (.ref v1), some (.long v2), none, some (.int v4), none, none, none]) (by decide +kernel) rfl (Nat.le_of_ble_eq_true rfl) (fun r M' K hr => ?_)
  unfold f_X5_readSum
  have xL14 : ∀ (v0 : Nat) (v1 : Nat) (v2 : Int64) (v4 : Int32) (v5 : Int32) (v6 : Int32) (M : sMem), sX G l d yX5_readSum cX5_readSum 8 none M0 r M' 14 [some (.ref v0), some (.ref v1), some (.long v2), none, some (.int v4), some (.int v5), some (.int v6), none] [] M (f_X5_readSum_L14 F v0 v1 v2 v4 v5 v6 M) K := by
    intro v0 v1 v2 v4 v5 v6 M
    unfold f_X5_readSum_L14
    refine sX_bind ?_
    refine sX_loop (LS := fun a : (Int32 × Int32 × sMem) => [some (.ref v0), some (.ref v1), some (.long v2), none, some (.int v4), some (.int a.1), some (.int a.2.1), none]) (MM := fun a => a.2.2) (fun K1 hb1 he1 => ?_) sFuel ((v5, v6, M))
    have xB95 : ∀ (v5 : Int32) (v6 : Int32) (M : sMem), sX G l d yX5_readSum cX5_readSum 8 none M0 r M' 95 [some (.ref v0), some (.ref v1), some (.long v2), none, some (.int v4), some (.int v5), some (.int v6), none] [] M (f_X5_readSum_B95 F v0 v1 v2 v4 v5 v6 M) K1 := by
      intro v5 v6 M
      unfold f_X5_readSum_B95
      refine sX_iinc (i := 6) (n := 1) (v := v6 + (1 : Int32)) (ls2 := [some (.ref v0), some (.ref v1), some (.long v2), none, some (.int v4), some (.int v5), some (.int (v6 + (1 : Int32))), none]) (by decide +kernel) rfl rfl (by decide) rfl ?_
      refine sX_goto (o := -84) (t := 14) (by decide +kernel) (by decide) ?_
      exact sX_back (a := (v5, ((v6 + (1 : Int32))), M)) hb1 rfl (sLe_s (sLe_s (sLe_s (sLe_n (sLe_s (sLe_s (sLe_s (sLe_n sLe_e))))))))
    have xB74 : ∀ (v6 : Int32) (v7 : Int32) (s0 : Int32) (M : sMem), sX G l d yX5_readSum cX5_readSum 8 none M0 r M' 74 [some (.ref v0), some (.ref v1), some (.long v2), none, some (.int v4), none, some (.int v6), some (.int v7)] [.int s0] M (f_X5_readSum_B74 F v0 v1 v2 v4 v6 v7 s0 M) K1 := by
      intro v6 v7 s0 M
      unfold f_X5_readSum_B74
      refine sX_istore (i := 5) (ls2 := [some (.ref v0), some (.ref v1), some (.long v2), none, some (.int v4), some (.int s0), some (.int v6), some (.int v7)]) (by decide +kernel) (by decide) rfl ?_
      refine sX_iload (i := 5) (by decide +kernel) rfl ?_
      refine sX_ifeq (o := 17) (t := 95) (by decide +kernel) (by decide) (fun _ => ?_) (fun _ => ?_)
      · exact sX.le (xB95 s0 v6 M) (sLe_s (sLe_s (sLe_s (sLe_n (sLe_s (sLe_s (sLe_s (sLe_n sLe_e))))))))
      · refine sX_aload_n (i := 0) (by decide +kernel) rfl ?_
        refine sX_aload_n (i := 1) (by decide +kernel) rfl ?_
        refine sX_lload_n (i := 2) (by decide +kernel) rfl ?_
        refine sX_iload (i := 4) (by decide +kernel) rfl ?_
        refine sX_callVv (As := [.ref v1, .long v2, .int v4]) (by decide +kernel) lm_X5_198 mf_X5_readProduct mi_X5_readProduct mc_5 (hF4 v0 v1 v2 v4 M).1 (hF4 v0 v1 v2 v4 M).2 (by omega) rfl rfl (Nat.le_of_ble_eq_true rfl) (fun M1 => ?_)
        refine sX_aload_n (i := 1) (by decide +kernel) rfl ?_
        refine sX_iload (i := 7) (by decide +kernel) rfl ?_
        refine sX_callVv (As := [.int v7]) (by decide +kernel) lm_X5_182 mf_X6_add mi_X6_add mc_6 (m_X6_add G l v1 v7 M1) (fun _ h => sRc_some h) (by omega) rfl rfl (Nat.le_of_ble_eq_true rfl) (fun M2 => ?_)
        exact sX.le (xB95 s0 v6 M2) (sLe_s (sLe_s (sLe_s (sLe_n (sLe_s (sLe_s (sLe_s (sLe_n sLe_e))))))))
    have xB62 : ∀ (v6 : Int32) (s0 : Int32) (M : sMem), sX G l d yX5_readSum cX5_readSum 8 none M0 r M' 62 [some (.ref v0), some (.ref v1), some (.long v2), none, some (.int v4), none, some (.int v6), none] [.int s0] M (f_X5_readSum_B62 F v0 v1 v2 v4 v6 s0 M) K1 := by
      intro v6 s0 M
      unfold f_X5_readSum_B62
      refine sX_istore (i := 7) (ls2 := [some (.ref v0), some (.ref v1), some (.long v2), none, some (.int v4), none, some (.int v6), some (.int s0)]) (by decide +kernel) (by decide) rfl ?_
      refine sX_iload (i := 7) (by decide +kernel) rfl ?_
      refine sX_ifeq (o := 7) (t := 73) (by decide +kernel) (by decide) (fun _ => ?_) (fun _ => ?_)
      · refine sX_iconst (n := 0) (v := (0 : Int32)) (by decide +kernel) (by decide) ?_
        exact sX.le (xB74 v6 s0 ((0 : Int32)) M) (sLe_s (sLe_s (sLe_s (sLe_n (sLe_s (sLe_n (sLe_s (sLe_s sLe_e))))))))
      · refine sX_iconst (n := 1) (v := (1 : Int32)) (by decide +kernel) (by decide) ?_
        refine sX_goto (o := 4) (t := 74) (by decide +kernel) (by decide) ?_
        exact sX.le (xB74 v6 s0 ((1 : Int32)) M) (sLe_s (sLe_s (sLe_s (sLe_n (sLe_s (sLe_n (sLe_s (sLe_s sLe_e))))))))
    have xK14 : ∀ (v5 : Int32) (v6 : Int32) (M : sMem), sX G l d yX5_readSum cX5_readSum 8 none M0 r M' 14 [some (.ref v0), some (.ref v1), some (.long v2), none, some (.int v4), some (.int v5), some (.int v6), none] [] M (f_X5_readSum_K14 F v0 v1 v2 v4 v5 v6 M) K1 := by
      intro v5 v6 M
      unfold f_X5_readSum_K14
      refine sX_iload (i := 6) (by decide +kernel) rfl ?_
      refine sX_sipush (n := 1600) (v := (1600 : Int32)) (by decide +kernel) (by decide) ?_
      refine sX_icge (o := 82) (t := 101) (by decide +kernel) (by decide) (fun _ => ?_) (fun _ => ?_)
      · refine sX_exit he1 ?_
        exact sX_some (fun h _ => sW_vret (by decide +kernel) rfl (hr _ h).1.symm (hr _ h).2.symm)
      · refine sX_iload (i := 5) (by decide +kernel) rfl ?_
        refine sX_ifeq (o := 77) (t := 101) (by decide +kernel) (by decide) (fun _ => ?_) (fun _ => ?_)
        · refine sX_exit he1 ?_
          exact sX_some (fun h _ => sW_vret (by decide +kernel) rfl (hr _ h).1.symm (hr _ h).2.symm)
        · refine sX_aload_n (i := 0) (by decide +kernel) rfl ?_
          refine sX_getR lf_X5_18 tk_5_0 (by decide +kernel) (fun x3 => ?_)
          refine sX_bipush (n := 43) (v := (43 : Int32)) (by decide +kernel) (by decide) ?_
          refine sX_callV (As := [.int (43 : Int32)]) (by decide +kernel) lm_X5_191 mf_X10_takesSign mi_X10_takesSign mc_10 (m_X10_takesSign G l x3 ((43 : Int32)) M) (fun _ h => sRc_some h) (by omega) rfl rfl (Nat.le_of_ble_eq_true rfl) (fun x4 M5 _ => ?_)
          refine sX_ifeq (o := 8) (t := 44) (by decide +kernel) (by decide) (fun _ => ?_) (fun _ => ?_)
          · refine sX_aload_n (i := 0) (by decide +kernel) rfl ?_
            refine sX_getR lf_X5_18 tk_5_0 (by decide +kernel) (fun x6 => ?_)
            refine sX_bipush (n := 45) (v := (45 : Int32)) (by decide +kernel) (by decide) ?_
            refine sX_callV (As := [.int (45 : Int32)]) (by decide +kernel) lm_X5_191 mf_X10_takesSign mi_X10_takesSign mc_10 (m_X10_takesSign G l x6 ((45 : Int32)) M5) (fun _ h => sRc_some h) (by omega) rfl rfl (Nat.le_of_ble_eq_true rfl) (fun x7 M8 _ => ?_)
            refine sX_ifeq (o := 8) (t := 61) (by decide +kernel) (by decide) (fun _ => ?_) (fun _ => ?_)
            · refine sX_iconst (n := 0) (v := (0 : Int32)) (by decide +kernel) (by decide) ?_
              exact sX.le (xB62 v6 ((0 : Int32)) M8) (sLe_s (sLe_s (sLe_s (sLe_n (sLe_s (sLe_n (sLe_s (sLe_n sLe_e))))))))
            · refine sX_bipush (n := -7) (v := (-7 : Int32)) (by decide +kernel) (by decide) ?_
              refine sX_goto (o := 4) (t := 62) (by decide +kernel) (by decide) ?_
              exact sX.le (xB62 v6 ((-7 : Int32)) M8) (sLe_s (sLe_s (sLe_s (sLe_n (sLe_s (sLe_n (sLe_s (sLe_n sLe_e))))))))
          · refine sX_bipush (n := -6) (v := (-6 : Int32)) (by decide +kernel) (by decide) ?_
            refine sX_goto (o := 21) (t := 62) (by decide +kernel) (by decide) ?_
            exact sX.le (xB62 v6 ((-6 : Int32)) M5) (sLe_s (sLe_s (sLe_s (sLe_n (sLe_s (sLe_n (sLe_s (sLe_n sLe_e))))))))
    exact fun a => xK14 a.1 a.2.1 a.2.2
  refine sX_rc ?_
  refine sX_aload_n (i := 0) (by decide +kernel) rfl ?_
  refine sX_aload_n (i := 1) (by decide +kernel) rfl ?_
  refine sX_lload_n (i := 2) (by decide +kernel) rfl ?_
  refine sX_iload (i := 4) (by decide +kernel) rfl ?_
  refine sX_callVv (As := [.ref v1, .long v2, .int v4]) (by decide +kernel) lm_X5_198 mf_X5_readProduct mi_X5_readProduct mc_5 (hF4 v0 v1 v2 v4 M0).1 (hF4 v0 v1 v2 v4 M0).2 (by omega) rfl rfl (Nat.le_of_ble_eq_true rfl) (fun M9 => ?_)
  refine sX_iconst (n := 1) (v := (1 : Int32)) (by decide +kernel) (by decide) ?_
  refine sX_istore (i := 5) (ls2 := [some (.ref v0), some (.ref v1), some (.long v2), none, some (.int v4), some (.int (1 : Int32)), none, none]) (by decide +kernel) (by decide) rfl ?_
  refine sX_iconst (n := 0) (v := (0 : Int32)) (by decide +kernel) (by decide) ?_
  refine sX_istore (i := 6) (ls2 := [some (.ref v0), some (.ref v1), some (.long v2), none, some (.int v4), some (.int (1 : Int32)), some (.int (0 : Int32)), none]) (by decide +kernel) (by decide) rfl ?_
  exact sX.le (xL14 v0 v1 v2 v4 ((1 : Int32)) ((0 : Int32)) M9) (sLe_s (sLe_s (sLe_s (sLe_n (sLe_s (sLe_s (sLe_s (sLe_n sLe_e))))))))
def f_X5_readProduct_B95 (F : Nat → Nat → Nat → Int64 → Int32 → Int32 → sMem → Option sMem) (v0 : Nat) (v1 : Nat) (v2 : Int64) (v4 : Int32) (v5 : Int32) (v6 : Int32) (M : sMem) : Option ((Int32 × Int32 × sMem) ⊕ ((sMem))) :=
  some (.inl ((v5, ((v6 + (1 : Int32))), M)))
def f_X5_readProduct_B74 (F : Nat → Nat → Nat → Int64 → Int32 → Int32 → sMem → Option sMem) (v0 : Nat) (v1 : Nat) (v2 : Int64) (v4 : Int32) (v6 : Int32) (v7 : Int32) (s0 : Int32) (M : sMem) : Option ((Int32 × Int32 × sMem) ⊕ ((sMem))) :=
  if s0 = 0 then
    f_X5_readProduct_B95 F v0 v1 v2 v4 s0 v6 M
  else
    (F 5 v0 v1 v2 v4 (0 : Int32) M).bind fun M1 =>
    (f_X6_add v1 v7 M1).bind fun M2 =>
    f_X5_readProduct_B95 F v0 v1 v2 v4 s0 v6 M2
def f_X5_readProduct_B62 (F : Nat → Nat → Nat → Int64 → Int32 → Int32 → sMem → Option sMem) (v0 : Nat) (v1 : Nat) (v2 : Int64) (v4 : Int32) (v6 : Int32) (s0 : Int32) (M : sMem) : Option ((Int32 × Int32 × sMem) ⊕ ((sMem))) :=
  if s0 = 0 then
    f_X5_readProduct_B74 F v0 v1 v2 v4 v6 s0 ((0 : Int32)) M
  else
    f_X5_readProduct_B74 F v0 v1 v2 v4 v6 s0 ((1 : Int32)) M
def f_X5_readProduct_K14 (F : Nat → Nat → Nat → Int64 → Int32 → Int32 → sMem → Option sMem) (v0 : Nat) (v1 : Nat) (v2 : Int64) (v4 : Int32) (v5 : Int32) (v6 : Int32) (M : sMem) : Option ((Int32 × Int32 × sMem) ⊕ ((sMem))) :=
  if (1600 : Int32) ≤ v6 then
    some (.inr M)
  else
    if v5 = 0 then
      some (.inr M)
    else
      (gR 5 2 0 M v0).bind fun x3 =>
      (f_X10_takesSign x3 ((42 : Int32)) M).bind fun (x4, M5) =>
      if x4 = 0 then
        (gR 5 2 0 M5 v0).bind fun x6 =>
        (f_X10_takesSign x6 ((47 : Int32)) M5).bind fun (x7, M8) =>
        if x7 = 0 then
          f_X5_readProduct_B62 F v0 v1 v2 v4 v6 ((0 : Int32)) M8
        else
          f_X5_readProduct_B62 F v0 v1 v2 v4 v6 ((-9 : Int32)) M8
      else
        f_X5_readProduct_B62 F v0 v1 v2 v4 v6 ((-8 : Int32)) M5
def f_X5_readProduct_L14 (F : Nat → Nat → Nat → Int64 → Int32 → Int32 → sMem → Option sMem) (v0 : Nat) (v1 : Nat) (v2 : Int64) (v4 : Int32) (v5 : Int32) (v6 : Int32) (M : sMem) : Option sMem :=
  (sItr (fun a : (Int32 × Int32 × sMem) => f_X5_readProduct_K14 F v0 v1 v2 v4 a.1 a.2.1 a.2.2) sFuel (v5, v6, M)).bind (fun b => some b)
def f_X5_readProduct (F : Nat → Nat → Nat → Int64 → Int32 → Int32 → sMem → Option sMem) (v0 : Nat) (v1 : Nat) (v2 : Int64) (v4 : Int32) (M0 : sMem) : Option sMem :=
  sRc 5 2 M0 v0 (
    (F 5 v0 v1 v2 v4 (0 : Int32) M0).bind fun M9 =>
    f_X5_readProduct_L14 F v0 v1 v2 v4 ((1 : Int32)) ((0 : Int32)) M9)
set_option maxRecDepth 100000 in
set_option maxHeartbeats 4000000 in
theorem m_X5_readProduct (F : Nat → Nat → Nat → Int64 → Int32 → Int32 → sMem → Option sMem) (d : Nat) (G : sG) (l : Launch) (hF0 : ∀ (v0 v1 : Nat) (v2 : Int64) (v4 : Int32) (M : sMem), sCv G l (d - 1) yX5_readTest cX5_readTest 6 none [.ref v0, .ref v1, .long v2, .int v4] M (F 0 v0 v1 v2 v4 (0 : Int32) M) ∧ ∀ z, F 0 v0 v1 v2 v4 (0 : Int32) M = some z → M.1[v0]? = some (5, 2)) (hF1 : ∀ (v0 v1 : Nat) (v2 : Int64) (v4 : Int32) (M : sMem), sCv G l (d - 1) yX5_readBoth cX5_readBoth 6 none [.ref v0, .ref v1, .long v2, .int v4] M (F 1 v0 v1 v2 v4 (0 : Int32) M) ∧ ∀ z, F 1 v0 v1 v2 v4 (0 : Int32) M = some z → M.1[v0]? = some (5, 2)) (hF2 : ∀ (v0 v1 : Nat) (v2 : Int64) (v4 : Int32) (M : sMem), sCv G l (d - 1) yX5_readFact cX5_readFact 7 none [.ref v0, .ref v1, .long v2, .int v4] M (F 2 v0 v1 v2 v4 (0 : Int32) M) ∧ ∀ z, F 2 v0 v1 v2 v4 (0 : Int32) M = some z → M.1[v0]? = some (5, 2)) (hF3 : ∀ (v0 v1 : Nat) (v2 : Int64) (v4 : Int32) (M : sMem), sCv G l (d - 1) yX5_readSum cX5_readSum 8 none [.ref v0, .ref v1, .long v2, .int v4] M (F 3 v0 v1 v2 v4 (0 : Int32) M) ∧ ∀ z, F 3 v0 v1 v2 v4 (0 : Int32) M = some z → M.1[v0]? = some (5, 2)) (hF4 : ∀ (v0 v1 : Nat) (v2 : Int64) (v4 : Int32) (M : sMem), sCv G l (d - 1) yX5_readProduct cX5_readProduct 8 none [.ref v0, .ref v1, .long v2, .int v4] M (F 4 v0 v1 v2 v4 (0 : Int32) M) ∧ ∀ z, F 4 v0 v1 v2 v4 (0 : Int32) M = some z → M.1[v0]? = some (5, 2)) (hF5 : ∀ (v0 v1 : Nat) (v2 : Int64) (v4 : Int32) (M : sMem), sCv G l (d - 1) yX5_readPart cX5_readPart 8 none [.ref v0, .ref v1, .long v2, .int v4] M (F 5 v0 v1 v2 v4 (0 : Int32) M) ∧ ∀ z, F 5 v0 v1 v2 v4 (0 : Int32) M = some z → M.1[v0]? = some (5, 2)) (hF6 : ∀ (v0 v1 : Nat) (v2 : Int64) (v4 : Int32) (v5 : Int32) (M : sMem), sCv G l (d - 1) yX5_readPair cX5_readPair 7 none [.ref v0, .ref v1, .long v2, .int v4, .int v5] M (F 6 v0 v1 v2 v4 v5 M) ∧ ∀ z, F 6 v0 v1 v2 v4 v5 M = some z → M.1[v0]? = some (5, 2)) (hd : 5 ≤ d) (v0 : Nat) (v1 : Nat) (v2 : Int64) (v4 : Int32) (M0 : sMem) : sCv G l d yX5_readProduct cX5_readProduct 8 none [.ref v0, .ref v1, .long v2, .int v4] M0 (f_X5_readProduct F v0 v1 v2 v4 M0) := by
  refine sC_v (ls := [some (.ref v0), some (.ref v1), some (.long v2), none, some (.int v4), none, none, none]) (by decide +kernel) rfl (Nat.le_of_ble_eq_true rfl) (fun r M' K hr => ?_)
  unfold f_X5_readProduct
  have xL14 : ∀ (v0 : Nat) (v1 : Nat) (v2 : Int64) (v4 : Int32) (v5 : Int32) (v6 : Int32) (M : sMem), sX G l d yX5_readProduct cX5_readProduct 8 none M0 r M' 14 [some (.ref v0), some (.ref v1), some (.long v2), none, some (.int v4), some (.int v5), some (.int v6), none] [] M (f_X5_readProduct_L14 F v0 v1 v2 v4 v5 v6 M) K := by
    intro v0 v1 v2 v4 v5 v6 M
    unfold f_X5_readProduct_L14
    refine sX_bind ?_
    refine sX_loop (LS := fun a : (Int32 × Int32 × sMem) => [some (.ref v0), some (.ref v1), some (.long v2), none, some (.int v4), some (.int a.1), some (.int a.2.1), none]) (MM := fun a => a.2.2) (fun K1 hb1 he1 => ?_) sFuel ((v5, v6, M))
    have xB95 : ∀ (v5 : Int32) (v6 : Int32) (M : sMem), sX G l d yX5_readProduct cX5_readProduct 8 none M0 r M' 95 [some (.ref v0), some (.ref v1), some (.long v2), none, some (.int v4), some (.int v5), some (.int v6), none] [] M (f_X5_readProduct_B95 F v0 v1 v2 v4 v5 v6 M) K1 := by
      intro v5 v6 M
      unfold f_X5_readProduct_B95
      refine sX_iinc (i := 6) (n := 1) (v := v6 + (1 : Int32)) (ls2 := [some (.ref v0), some (.ref v1), some (.long v2), none, some (.int v4), some (.int v5), some (.int (v6 + (1 : Int32))), none]) (by decide +kernel) rfl rfl (by decide) rfl ?_
      refine sX_goto (o := -84) (t := 14) (by decide +kernel) (by decide) ?_
      exact sX_back (a := (v5, ((v6 + (1 : Int32))), M)) hb1 rfl (sLe_s (sLe_s (sLe_s (sLe_n (sLe_s (sLe_s (sLe_s (sLe_n sLe_e))))))))
    have xB74 : ∀ (v6 : Int32) (v7 : Int32) (s0 : Int32) (M : sMem), sX G l d yX5_readProduct cX5_readProduct 8 none M0 r M' 74 [some (.ref v0), some (.ref v1), some (.long v2), none, some (.int v4), none, some (.int v6), some (.int v7)] [.int s0] M (f_X5_readProduct_B74 F v0 v1 v2 v4 v6 v7 s0 M) K1 := by
      intro v6 v7 s0 M
      unfold f_X5_readProduct_B74
      refine sX_istore (i := 5) (ls2 := [some (.ref v0), some (.ref v1), some (.long v2), none, some (.int v4), some (.int s0), some (.int v6), some (.int v7)]) (by decide +kernel) (by decide) rfl ?_
      refine sX_iload (i := 5) (by decide +kernel) rfl ?_
      refine sX_ifeq (o := 17) (t := 95) (by decide +kernel) (by decide) (fun _ => ?_) (fun _ => ?_)
      · exact sX.le (xB95 s0 v6 M) (sLe_s (sLe_s (sLe_s (sLe_n (sLe_s (sLe_s (sLe_s (sLe_n sLe_e))))))))
      · refine sX_aload_n (i := 0) (by decide +kernel) rfl ?_
        refine sX_aload_n (i := 1) (by decide +kernel) rfl ?_
        refine sX_lload_n (i := 2) (by decide +kernel) rfl ?_
        refine sX_iload (i := 4) (by decide +kernel) rfl ?_
        refine sX_callVv (As := [.ref v1, .long v2, .int v4]) (by decide +kernel) lm_X5_201 mf_X5_readPart mi_X5_readPart mc_5 (hF5 v0 v1 v2 v4 M).1 (hF5 v0 v1 v2 v4 M).2 (by omega) rfl rfl (Nat.le_of_ble_eq_true rfl) (fun M1 => ?_)
        refine sX_aload_n (i := 1) (by decide +kernel) rfl ?_
        refine sX_iload (i := 7) (by decide +kernel) rfl ?_
        refine sX_callVv (As := [.int v7]) (by decide +kernel) lm_X5_182 mf_X6_add mi_X6_add mc_6 (m_X6_add G l v1 v7 M1) (fun _ h => sRc_some h) (by omega) rfl rfl (Nat.le_of_ble_eq_true rfl) (fun M2 => ?_)
        exact sX.le (xB95 s0 v6 M2) (sLe_s (sLe_s (sLe_s (sLe_n (sLe_s (sLe_s (sLe_s (sLe_n sLe_e))))))))
    have xB62 : ∀ (v6 : Int32) (s0 : Int32) (M : sMem), sX G l d yX5_readProduct cX5_readProduct 8 none M0 r M' 62 [some (.ref v0), some (.ref v1), some (.long v2), none, some (.int v4), none, some (.int v6), none] [.int s0] M (f_X5_readProduct_B62 F v0 v1 v2 v4 v6 s0 M) K1 := by
      intro v6 s0 M
      unfold f_X5_readProduct_B62
      refine sX_istore (i := 7) (ls2 := [some (.ref v0), some (.ref v1), some (.long v2), none, some (.int v4), none, some (.int v6), some (.int s0)]) (by decide +kernel) (by decide) rfl ?_
      refine sX_iload (i := 7) (by decide +kernel) rfl ?_
      refine sX_ifeq (o := 7) (t := 73) (by decide +kernel) (by decide) (fun _ => ?_) (fun _ => ?_)
      · refine sX_iconst (n := 0) (v := (0 : Int32)) (by decide +kernel) (by decide) ?_
        exact sX.le (xB74 v6 s0 ((0 : Int32)) M) (sLe_s (sLe_s (sLe_s (sLe_n (sLe_s (sLe_n (sLe_s (sLe_s sLe_e))))))))
      · refine sX_iconst (n := 1) (v := (1 : Int32)) (by decide +kernel) (by decide) ?_
        refine sX_goto (o := 4) (t := 74) (by decide +kernel) (by decide) ?_
        exact sX.le (xB74 v6 s0 ((1 : Int32)) M) (sLe_s (sLe_s (sLe_s (sLe_n (sLe_s (sLe_n (sLe_s (sLe_s sLe_e))))))))
    have xK14 : ∀ (v5 : Int32) (v6 : Int32) (M : sMem), sX G l d yX5_readProduct cX5_readProduct 8 none M0 r M' 14 [some (.ref v0), some (.ref v1), some (.long v2), none, some (.int v4), some (.int v5), some (.int v6), none] [] M (f_X5_readProduct_K14 F v0 v1 v2 v4 v5 v6 M) K1 := by
      intro v5 v6 M
      unfold f_X5_readProduct_K14
      refine sX_iload (i := 6) (by decide +kernel) rfl ?_
      refine sX_sipush (n := 1600) (v := (1600 : Int32)) (by decide +kernel) (by decide) ?_
      refine sX_icge (o := 82) (t := 101) (by decide +kernel) (by decide) (fun _ => ?_) (fun _ => ?_)
      · refine sX_exit he1 ?_
        exact sX_some (fun h _ => sW_vret (by decide +kernel) rfl (hr _ h).1.symm (hr _ h).2.symm)
      · refine sX_iload (i := 5) (by decide +kernel) rfl ?_
        refine sX_ifeq (o := 77) (t := 101) (by decide +kernel) (by decide) (fun _ => ?_) (fun _ => ?_)
        · refine sX_exit he1 ?_
          exact sX_some (fun h _ => sW_vret (by decide +kernel) rfl (hr _ h).1.symm (hr _ h).2.symm)
        · refine sX_aload_n (i := 0) (by decide +kernel) rfl ?_
          refine sX_getR lf_X5_18 tk_5_0 (by decide +kernel) (fun x3 => ?_)
          refine sX_bipush (n := 42) (v := (42 : Int32)) (by decide +kernel) (by decide) ?_
          refine sX_callV (As := [.int (42 : Int32)]) (by decide +kernel) lm_X5_191 mf_X10_takesSign mi_X10_takesSign mc_10 (m_X10_takesSign G l x3 ((42 : Int32)) M) (fun _ h => sRc_some h) (by omega) rfl rfl (Nat.le_of_ble_eq_true rfl) (fun x4 M5 _ => ?_)
          refine sX_ifeq (o := 8) (t := 44) (by decide +kernel) (by decide) (fun _ => ?_) (fun _ => ?_)
          · refine sX_aload_n (i := 0) (by decide +kernel) rfl ?_
            refine sX_getR lf_X5_18 tk_5_0 (by decide +kernel) (fun x6 => ?_)
            refine sX_bipush (n := 47) (v := (47 : Int32)) (by decide +kernel) (by decide) ?_
            refine sX_callV (As := [.int (47 : Int32)]) (by decide +kernel) lm_X5_191 mf_X10_takesSign mi_X10_takesSign mc_10 (m_X10_takesSign G l x6 ((47 : Int32)) M5) (fun _ h => sRc_some h) (by omega) rfl rfl (Nat.le_of_ble_eq_true rfl) (fun x7 M8 _ => ?_)
            refine sX_ifeq (o := 8) (t := 61) (by decide +kernel) (by decide) (fun _ => ?_) (fun _ => ?_)
            · refine sX_iconst (n := 0) (v := (0 : Int32)) (by decide +kernel) (by decide) ?_
              exact sX.le (xB62 v6 ((0 : Int32)) M8) (sLe_s (sLe_s (sLe_s (sLe_n (sLe_s (sLe_n (sLe_s (sLe_n sLe_e))))))))
            · refine sX_bipush (n := -9) (v := (-9 : Int32)) (by decide +kernel) (by decide) ?_
              refine sX_goto (o := 4) (t := 62) (by decide +kernel) (by decide) ?_
              exact sX.le (xB62 v6 ((-9 : Int32)) M8) (sLe_s (sLe_s (sLe_s (sLe_n (sLe_s (sLe_n (sLe_s (sLe_n sLe_e))))))))
          · refine sX_bipush (n := -8) (v := (-8 : Int32)) (by decide +kernel) (by decide) ?_
            refine sX_goto (o := 21) (t := 62) (by decide +kernel) (by decide) ?_
            exact sX.le (xB62 v6 ((-8 : Int32)) M5) (sLe_s (sLe_s (sLe_s (sLe_n (sLe_s (sLe_n (sLe_s (sLe_n sLe_e))))))))
    exact fun a => xK14 a.1 a.2.1 a.2.2
  refine sX_rc ?_
  refine sX_aload_n (i := 0) (by decide +kernel) rfl ?_
  refine sX_aload_n (i := 1) (by decide +kernel) rfl ?_
  refine sX_lload_n (i := 2) (by decide +kernel) rfl ?_
  refine sX_iload (i := 4) (by decide +kernel) rfl ?_
  refine sX_callVv (As := [.ref v1, .long v2, .int v4]) (by decide +kernel) lm_X5_201 mf_X5_readPart mi_X5_readPart mc_5 (hF5 v0 v1 v2 v4 M0).1 (hF5 v0 v1 v2 v4 M0).2 (by omega) rfl rfl (Nat.le_of_ble_eq_true rfl) (fun M9 => ?_)
  refine sX_iconst (n := 1) (v := (1 : Int32)) (by decide +kernel) (by decide) ?_
  refine sX_istore (i := 5) (ls2 := [some (.ref v0), some (.ref v1), some (.long v2), none, some (.int v4), some (.int (1 : Int32)), none, none]) (by decide +kernel) (by decide) rfl ?_
  refine sX_iconst (n := 0) (v := (0 : Int32)) (by decide +kernel) (by decide) ?_
  refine sX_istore (i := 6) (ls2 := [some (.ref v0), some (.ref v1), some (.long v2), none, some (.int v4), some (.int (1 : Int32)), some (.int (0 : Int32)), none]) (by decide +kernel) (by decide) rfl ?_
  exact sX.le (xL14 v0 v1 v2 v4 ((1 : Int32)) ((0 : Int32)) M9) (sLe_s (sLe_s (sLe_s (sLe_n (sLe_s (sLe_s (sLe_s (sLe_n sLe_e))))))))
