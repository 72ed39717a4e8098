def f_X5_readStatement_B37 (v0 : Nat) (v3 : Int32) (M : sMem) : Option sMem :=
  (gR 5 2 0 M v0).bind fun x1 =>
  (f_X10_fail x1 ((1 : Int32)) v3 M).bind fun M2 =>
  some M2
def f_X5_readStatement_B158 (v0 : Nat) (v1 : Nat) (v3 : Int32) (v4 : Int32) (M : sMem) : Option sMem :=
  (f_X5_readThing v0 v1 v4 v3 M).bind fun M3 =>
  some M3
def f_X5_readStatement_B124 (v0 : Nat) (v1 : Nat) (v3 : Int32) (v4 : Int32) (M : sMem) : Option sMem :=
  if v4 = (16 : Int32) then
    (gR 1 10 8 M v1).bind fun x4 =>
    (f_X5_isNew v0 x4 v3 M).bind fun (x5, M6) =>
    if x5 = 0 then
      f_X5_readStatement_B158 v0 v1 v3 v4 M6
    else
      (gR 1 10 8 M6 v1).bind fun x7 =>
      (F_parser 64 3 v0 x7 ((14680064 : Int64)) ((0 : Int32)) (0 : Int32) M6).bind fun M8 =>
      some M8
  else
    f_X5_readStatement_B158 v0 v1 v3 v4 M
def f_X5_readStatement_B90 (v0 : Nat) (v1 : Nat) (v3 : Int32) (v4 : Int32) (M : sMem) : Option sMem :=
  if v4 = (15 : Int32) then
    (gR 1 10 7 M v1).bind fun x9 =>
    (f_X5_isNew v0 x9 v3 M).bind fun (x10, M11) =>
    if x10 = 0 then
      f_X5_readStatement_B124 v0 v1 v3 v4 M11
    else
      (gR 1 10 7 M11 v1).bind fun x12 =>
      (F_parser 64 3 v0 x12 ((6327296 : Int64)) ((0 : Int32)) (0 : Int32) M11).bind fun M13 =>
      some M13
  else
    f_X5_readStatement_B124 v0 v1 v3 v4 M
def f_X5_readStatement_B34 (v0 : Nat) (v1 : Nat) (v3 : Int32) (v4 : Int32) (s0 : Int32) (s1 : Int32) (M : sMem) : Option sMem :=
  if s0 = s1 then
    (gR 5 2 0 M v0).bind fun x14 =>
    (f_X10_needWord x14 v4 M).bind fun M15 =>
    if v4 = (14 : Int32) then
      (gR 1 10 6 M15 v1).bind fun x16 =>
      (f_X5_isNew v0 x16 v3 M15).bind fun (x17, M18) =>
      if x17 = 0 then
        f_X5_readStatement_B90 v0 v1 v3 v4 M18
      else
        (gR 1 10 6 M18 v1).bind fun x19 =>
        (F_parser 64 0 v0 x19 ((1838080 : Int64)) ((0 : Int32)) (0 : Int32) M18).bind fun M20 =>
        some M20
    else
      f_X5_readStatement_B90 v0 v1 v3 v4 M15
  else
    f_X5_readStatement_B37 v0 v3 M
def f_X5_readStatement (v0 : Nat) (v1 : Nat) (v2 : Int32) (M0 : sMem) : Option sMem :=
  sRc 5 2 M0 v0 (
    (gR 5 2 0 M0 v0).bind fun x21 =>
    (f_X10_place x21 M0).bind fun x22 =>
    (gR 5 2 0 M0 v0).bind fun x23 =>
    (f_X10_word x23 M0).bind fun x24 =>
    if x24 = (-1 : Int32) then
      f_X5_readStatement_B37 v0 x22 M0
    else
      if x24 = 0 then
        f_X5_readStatement_B34 v0 v1 x22 x24 v2 ((1 : Int32)) M0
      else
        f_X5_readStatement_B34 v0 v1 x22 x24 v2 ((0 : Int32)) M0)
set_option maxRecDepth 100000 in
set_option maxHeartbeats 4000000 in
theorem m_X5_readStatement (G : sG) (l : Launch) (v0 : Nat) (v1 : Nat) (v2 : Int32) (M0 : sMem) : sCv G l 70 yX5_readStatement cX5_readStatement 5 none [.ref v0, .ref v1, .int v2] M0 (f_X5_readStatement v0 v1 v2 M0) := by
  refine sC_v (ls := [some (.ref v0), some (.ref v1), some (.int v2), none, none]) (by decide +kernel) rfl (Nat.le_of_ble_eq_true rfl) (fun r M' K hr => ?_)
  unfold f_X5_readStatement
  have xB37 : ∀ (v0 : Nat) (v3 : Int32) (M : sMem), sX G l 70 yX5_readStatement cX5_readStatement 5 none M0 r M' 37 [some (.ref v0), none, none, some (.int v3), none] [] M (f_X5_readStatement_B37 v0 v3 M) K := by
    intro v0 v3 M
    unfold f_X5_readStatement_B37
    refine sX_aload_n (i := 0) (by decide +kernel) rfl ?_
    refine sX_getR lf_X5_18 tk_5_0 (by decide +kernel) (fun x1 => ?_)
    refine sX_iconst (n := 1) (v := (1 : Int32)) (by decide +kernel) (by decide) ?_
    refine sX_iload_n (i := 3) (by decide +kernel) rfl ?_
    refine sX_callVv (As := [.int (1 : Int32), .int v3]) (by decide +kernel) lm_X5_48 mf_X10_fail mi_X10_fail mc_10 (m_X10_fail G l x1 ((1 : Int32)) v3 M) (fun _ h => sRc_some h) (by decide) rfl rfl (Nat.le_of_ble_eq_true rfl) (fun M2 => ?_)
    exact sX_some (fun h _ => sW_vret (by decide +kernel) rfl (hr _ h).1.symm (hr _ h).2.symm)
  have xB158 : ∀ (v0 : Nat) (v1 : Nat) (v3 : Int32) (v4 : Int32) (M : sMem), sX G l 70 yX5_readStatement cX5_readStatement 5 none M0 r M' 158 [some (.ref v0), some (.ref v1), none, some (.int v3), some (.int v4)] [] M (f_X5_readStatement_B158 v0 v1 v3 v4 M) K := by
    intro v0 v1 v3 v4 M
    unfold f_X5_readStatement_B158
    refine sX_aload_n (i := 0) (by decide +kernel) rfl ?_
    refine sX_aload_n (i := 1) (by decide +kernel) rfl ?_
    refine sX_iload (i := 4) (by decide +kernel) rfl ?_
    refine sX_iload_n (i := 3) (by decide +kernel) rfl ?_
    refine sX_callVv (As := [.ref v1, .int v4, .int v3]) (by decide +kernel) lm_X5_97 mf_X5_readThing mi_X5_readThing mc_5 (m_X5_readThing G l v0 v1 v4 v3 M) (fun _ h => sRc_some h) (by decide) rfl rfl (Nat.le_of_ble_eq_true rfl) (fun M3 => ?_)
    exact sX_some (fun h _ => sW_vret (by decide +kernel) rfl (hr _ h).1.symm (hr _ h).2.symm)
  have xB124 : ∀ (v0 : Nat) (v1 : Nat) (v3 : Int32) (v4 : Int32) (M : sMem), sX G l 70 yX5_readStatement cX5_readStatement 5 none M0 r M' 124 [some (.ref v0), some (.ref v1), none, some (.int v3), some (.int v4)] [] M (f_X5_readStatement_B124 v0 v1 v3 v4 M) K := by
    intro v0 v1 v3 v4 M
    unfold f_X5_readStatement_B124
    refine sX_iload (i := 4) (by decide +kernel) rfl ?_
    refine sX_bipush (n := 16) (v := (16 : Int32)) (by decide +kernel) (by decide) ?_
    refine sX_icne (o := 30) (t := 158) (by decide +kernel) (by decide) (fun _ => ?_) (fun _ => ?_)
    · refine sX_aload_n (i := 0) (by decide +kernel) rfl ?_
      refine sX_aload_n (i := 1) (by decide +kernel) rfl ?_
      refine sX_getR lf_X5_92 tk_1_8 (by decide +kernel) (fun x4 => ?_)
      refine sX_iload_n (i := 3) (by decide +kernel) rfl ?_
      refine sX_callV (As := [.ref x4, .int v3]) (by decide +kernel) lm_X5_81 mf_X5_isNew mi_X5_isNew mc_5 (m_X5_isNew G l v0 x4 v3 M) (fun _ h => sRc_some h) (by decide) rfl rfl (Nat.le_of_ble_eq_true rfl) (fun x5 M6 _ => ?_)
      refine sX_ifeq (o := 18) (t := 158) (by decide +kernel) (by decide) (fun _ => ?_) (fun _ => ?_)
      · exact sX.le (xB158 v0 v1 v3 v4 M6) (sLe_s (sLe_s (sLe_n (sLe_s (sLe_s sLe_e)))))
      · refine sX_aload_n (i := 0) (by decide +kernel) rfl ?_
        refine sX_aload_n (i := 1) (by decide +kernel) rfl ?_
        refine sX_getR lf_X5_92 tk_1_8 (by decide +kernel) (fun x7 => ?_)
        refine sX_ldc2 (v := (14680064 : Int64)) (by decide +kernel) kl_X5_95 ?_
        refine sX_iconst (n := 0) (v := (0 : Int32)) (by decide +kernel) (by decide) ?_
        refine sX_callVv (As := [.ref x7, .long (14680064 : Int64), .int (0 : Int32)]) (by decide +kernel) lm_X5_75 mf_X5_readSum mi_X5_readSum mc_5 (mFp3 G l v0 x7 ((14680064 : Int64)) ((0 : Int32)) M6).1 (mFp3 G l v0 x7 ((14680064 : Int64)) ((0 : Int32)) M6).2 (by decide) rfl rfl (Nat.le_of_ble_eq_true rfl) (fun M8 => ?_)
        refine sX_goto (o := 11) (t := 166) (by decide +kernel) (by decide) ?_
        exact sX_some (fun h _ => sW_vret (by decide +kernel) rfl (hr _ h).1.symm (hr _ h).2.symm)
    · exact sX.le (xB158 v0 v1 v3 v4 M) (sLe_s (sLe_s (sLe_n (sLe_s (sLe_s sLe_e)))))
  have xB90 : ∀ (v0 : Nat) (v1 : Nat) (v3 : Int32) (v4 : Int32) (M : sMem), sX G l 70 yX5_readStatement cX5_readStatement 5 none M0 r M' 90 [some (.ref v0), some (.ref v1), none, some (.int v3), some (.int v4)] [] M (f_X5_readStatement_B90 v0 v1 v3 v4 M) K := by
    intro v0 v1 v3 v4 M
    unfold f_X5_readStatement_B90
    refine sX_iload (i := 4) (by decide +kernel) rfl ?_
    refine sX_bipush (n := 15) (v := (15 : Int32)) (by decide +kernel) (by decide) ?_
    refine sX_icne (o := 30) (t := 124) (by decide +kernel) (by decide) (fun _ => ?_) (fun _ => ?_)
    · refine sX_aload_n (i := 0) (by decide +kernel) rfl ?_
      refine sX_aload_n (i := 1) (by decide +kernel) rfl ?_
      refine sX_getR lf_X5_87 tk_1_7 (by decide +kernel) (fun x9 => ?_)
      refine sX_iload_n (i := 3) (by decide +kernel) rfl ?_
      refine sX_callV (As := [.ref x9, .int v3]) (by decide +kernel) lm_X5_81 mf_X5_isNew mi_X5_isNew mc_5 (m_X5_isNew G l v0 x9 v3 M) (fun _ h => sRc_some h) (by decide) rfl rfl (Nat.le_of_ble_eq_true rfl) (fun x10 M11 _ => ?_)
      refine sX_ifeq (o := 18) (t := 124) (by decide +kernel) (by decide) (fun _ => ?_) (fun _ => ?_)
      · exact sX.le (xB124 v0 v1 v3 v4 M11) (sLe_s (sLe_s (sLe_n (sLe_s (sLe_s sLe_e)))))
      · refine sX_aload_n (i := 0) (by decide +kernel) rfl ?_
        refine sX_aload_n (i := 1) (by decide +kernel) rfl ?_
        refine sX_getR lf_X5_87 tk_1_7 (by decide +kernel) (fun x12 => ?_)
        refine sX_ldc2 (v := (6327296 : Int64)) (by decide +kernel) kl_X5_90 ?_
        refine sX_iconst (n := 0) (v := (0 : Int32)) (by decide +kernel) (by decide) ?_
        refine sX_callVv (As := [.ref x12, .long (6327296 : Int64), .int (0 : Int32)]) (by decide +kernel) lm_X5_75 mf_X5_readSum mi_X5_readSum mc_5 (mFp3 G l v0 x12 ((6327296 : Int64)) ((0 : Int32)) M11).1 (mFp3 G l v0 x12 ((6327296 : Int64)) ((0 : Int32)) M11).2 (by decide) rfl rfl (Nat.le_of_ble_eq_true rfl) (fun M13 => ?_)
        refine sX_goto (o := 45) (t := 166) (by decide +kernel) (by decide) ?_
        exact sX_some (fun h _ => sW_vret (by decide +kernel) rfl (hr _ h).1.symm (hr _ h).2.symm)
    · exact sX.le (xB124 v0 v1 v3 v4 M) (sLe_s (sLe_s (sLe_n (sLe_s (sLe_s sLe_e)))))
  have xB34 : ∀ (v0 : Nat) (v1 : Nat) (v3 : Int32) (v4 : Int32) (s0 : Int32) (s1 : Int32) (M : sMem), sX G l 70 yX5_readStatement cX5_readStatement 5 none M0 r M' 34 [some (.ref v0), some (.ref v1), none, some (.int v3), some (.int v4)] [.int s1, .int s0] M (f_X5_readStatement_B34 v0 v1 v3 v4 s0 s1 M) K := by
    intro v0 v1 v3 v4 s0 s1 M
    unfold f_X5_readStatement_B34
    refine sX_iceq (o := 13) (t := 47) (by decide +kernel) (by decide) (fun _ => ?_) (fun _ => ?_)
    · refine sX_aload_n (i := 0) (by decide +kernel) rfl ?_
      refine sX_getR lf_X5_18 tk_5_0 (by decide +kernel) (fun x14 => ?_)
      refine sX_iload (i := 4) (by decide +kernel) rfl ?_
      refine sX_callVv (As := [.int v4]) (by decide +kernel) lm_X5_65 mf_X10_needWord mi_X10_needWord mc_10 (m_X10_needWord G l x14 v4 M) (fun _ h => sRc_some h) (by decide) rfl rfl (Nat.le_of_ble_eq_true rfl) (fun M15 => ?_)
      refine sX_iload (i := 4) (by decide +kernel) rfl ?_
      refine sX_bipush (n := 14) (v := (14 : Int32)) (by decide +kernel) (by decide) ?_
      refine sX_icne (o := 30) (t := 90) (by decide +kernel) (by decide) (fun _ => ?_) (fun _ => ?_)
      · refine sX_aload_n (i := 0) (by decide +kernel) rfl ?_
        refine sX_aload_n (i := 1) (by decide +kernel) rfl ?_
        refine sX_getR lf_X5_78 tk_1_6 (by decide +kernel) (fun x16 => ?_)
        refine sX_iload_n (i := 3) (by decide +kernel) rfl ?_
        refine sX_callV (As := [.ref x16, .int v3]) (by decide +kernel) lm_X5_81 mf_X5_isNew mi_X5_isNew mc_5 (m_X5_isNew G l v0 x16 v3 M15) (fun _ h => sRc_some h) (by decide) rfl rfl (Nat.le_of_ble_eq_true rfl) (fun x17 M18 _ => ?_)
        refine sX_ifeq (o := 18) (t := 90) (by decide +kernel) (by decide) (fun _ => ?_) (fun _ => ?_)
        · exact sX.le (xB90 v0 v1 v3 v4 M18) (sLe_s (sLe_s (sLe_n (sLe_s (sLe_s sLe_e)))))
        · refine sX_aload_n (i := 0) (by decide +kernel) rfl ?_
          refine sX_aload_n (i := 1) (by decide +kernel) rfl ?_
          refine sX_getR lf_X5_78 tk_1_6 (by decide +kernel) (fun x19 => ?_)
          refine sX_ldc2 (v := (1838080 : Int64)) (by decide +kernel) kl_X5_85 ?_
          refine sX_iconst (n := 0) (v := (0 : Int32)) (by decide +kernel) (by decide) ?_
          refine sX_callVv (As := [.ref x19, .long (1838080 : Int64), .int (0 : Int32)]) (by decide +kernel) lm_X5_71 mf_X5_readTest mi_X5_readTest mc_5 (mFp0 G l v0 x19 ((1838080 : Int64)) ((0 : Int32)) M18).1 (mFp0 G l v0 x19 ((1838080 : Int64)) ((0 : Int32)) M18).2 (by decide) rfl rfl (Nat.le_of_ble_eq_true rfl) (fun M20 => ?_)
          refine sX_goto (o := 79) (t := 166) (by decide +kernel) (by decide) ?_
          exact sX_some (fun h _ => sW_vret (by decide +kernel) rfl (hr _ h).1.symm (hr _ h).2.symm)
      · exact sX.le (xB90 v0 v1 v3 v4 M15) (sLe_s (sLe_s (sLe_n (sLe_s (sLe_s sLe_e)))))
    · exact sX.le (xB37 v0 v3 M) (sLe_s (sLe_n (sLe_n (sLe_s (sLe_n sLe_e)))))
  refine sX_rc ?_
  refine sX_aload_n (i := 0) (by decide +kernel) rfl ?_
  refine sX_getR lf_X5_18 tk_5_0 (by decide +kernel) (fun x21 => ?_)
  refine sX_callVp (As := []) (by decide +kernel) lm_X5_44 mf_X10_place mi_X10_place mc_10 (m_X10_place G l x21 M0) (fun _ h => sRc_some h) (by decide) rfl rfl (Nat.le_of_ble_eq_true rfl) (fun x22 => ?_)
  refine sX_istore_n (i := 3) (ls2 := [some (.ref v0), some (.ref v1), some (.int v2), some (.int x22), none]) (by decide +kernel) (by decide) rfl ?_
  refine sX_aload_n (i := 0) (by decide +kernel) rfl ?_
  refine sX_getR lf_X5_18 tk_5_0 (by decide +kernel) (fun x23 => ?_)
  refine sX_callVp (As := []) (by decide +kernel) lm_X5_62 mf_X10_word mi_X10_word mc_10 (m_X10_word G l x23 M0) (fun _ h => sRc_some h) (by decide) rfl rfl (Nat.le_of_ble_eq_true rfl) (fun x24 => ?_)
  refine sX_istore (i := 4) (ls2 := [some (.ref v0), some (.ref v1), some (.int v2), some (.int x22), some (.int x24)]) (by decide +kernel) (by decide) rfl ?_
  refine sX_iload (i := 4) (by decide +kernel) rfl ?_
  refine sX_iconst (n := -1) (v := (-1 : Int32)) (by decide +kernel) (by decide) ?_
  refine sX_iceq (o := 17) (t := 37) (by decide +kernel) (by decide) (fun _ => ?_) (fun _ => ?_)
  · exact sX.le (xB37 v0 x22 M0) (sLe_s (sLe_n (sLe_n (sLe_s (sLe_n sLe_e)))))
  · refine sX_iload_n (i := 2) (by decide +kernel) rfl ?_
    refine sX_iload (i := 4) (by decide +kernel) rfl ?_
    refine sX_ifne (o := 7) (t := 33) (by decide +kernel) (by decide) (fun _ => ?_) (fun _ => ?_)
    · refine sX_iconst (n := 1) (v := (1 : Int32)) (by decide +kernel) (by decide) ?_
      refine sX_goto (o := 4) (t := 34) (by decide +kernel) (by decide) ?_
      exact sX.le (xB34 v0 v1 x22 x24 v2 ((1 : Int32)) M0) (sLe_s (sLe_s (sLe_n (sLe_s (sLe_s sLe_e)))))
    · refine sX_iconst (n := 0) (v := (0 : Int32)) (by decide +kernel) (by decide) ?_
      exact sX.le (xB34 v0 v1 x22 x24 v2 ((0 : Int32)) M0) (sLe_s (sLe_s (sLe_n (sLe_s (sLe_s sLe_e)))))
def f_X5_readDistrict_B107 (v0 : Nat) (v1 : Nat) (v2 : Int32) (M : sMem) : Option (Int32 × sMem) :=
  (f_X1_fillIn v1 M).bind fun M1 =>
  (gR 5 2 0 M1 v0).bind fun x2 =>
  (f_X10_isGood x2 M1).bind fun x3 =>
  if x3 = 0 then
    some (((-1 : Int32), M1))
  else
    some ((v2, M1))
def f_X5_readDistrict_B82 (v0 : Nat) (v1 : Nat) (v2 : Int32) (M : sMem) : Option (Int32 × sMem) :=
  (gR 5 2 0 M v0).bind fun x4 =>
  (f_X10_isOver x4 M).bind fun x5 =>
  if x5 = 0 then
    (gR 5 2 0 M v0).bind fun x6 =>
    (gR 5 2 0 M v0).bind fun x7 =>
    (f_X10_place x7 M).bind fun x8 =>
    (f_X10_fail x6 ((5 : Int32)) x8 M).bind fun M9 =>
    f_X5_readDistrict_B107 v0 v1 v2 M9
  else
    f_X5_readDistrict_B107 v0 v1 v2 M
def f_X5_readDistrict_B63 (v0 : Nat) (v1 : Nat) (v2 : Int32) (M : sMem) : Option (Int32 × sMem) :=
  if v2 = 0 then
    (gR 5 2 0 M v0).bind fun x10 =>
    (gR 5 2 0 M v0).bind fun x11 =>
    (f_X10_place x11 M).bind fun x12 =>
    (f_X10_fail x10 ((1 : Int32)) x12 M).bind fun M13 =>
    f_X5_readDistrict_B82 v0 v1 v2 M13
  else
    f_X5_readDistrict_B82 v0 v1 v2 M
def f_X5_readDistrict_B42 (v0 : Nat) (v1 : Nat) (v2 : Int32) (v3 : Int32) (s0 : Nat) (s1 : Nat) (s2 : Int32) (M : sMem) : Option ((Int32 × Int32 × sMem) ⊕ ((Int32 × sMem))) :=
  (f_X5_readStatement s0 s1 s2 M).bind fun M14 =>
  (gR 5 2 0 M14 v0).bind fun x15 =>
  (f_X10_needSign x15 ((59 : Int32)) M14).bind fun M16 =>
  some (.inl ((((v2 + (1 : Int32))), ((v3 + (1 : Int32))), M16)))
def f_X5_readDistrict_K15 (v0 : Nat) (v1 : Nat) (v2 : Int32) (v3 : Int32) (M : sMem) : Option ((Int32 × Int32 × sMem) ⊕ ((Int32 × sMem))) :=
  if (80 : Int32) ≤ v3 then
    some (.inr ((v2, M)))
  else
    (gR 5 2 0 M v0).bind fun x17 =>
    (f_X10_isOver x17 M).bind fun x18 =>
    if x18 = 0 then
      if v3 = 0 then
        f_X5_readDistrict_B42 v0 v1 v2 v3 v0 v1 ((1 : Int32)) M
      else
        f_X5_readDistrict_B42 v0 v1 v2 v3 v0 v1 ((0 : Int32)) M
    else
      some (.inr ((v2, M)))
def f_X5_readDistrict_L15 (v0 : Nat) (v1 : Nat) (v2 : Int32) (v3 : Int32) (M : sMem) : Option (Int32 × sMem) :=
  (sItr (fun a : (Int32 × Int32 × sMem) => f_X5_readDistrict_K15 v0 v1 a.1 a.2.1 a.2.2) sFuel (v2, v3, M)).bind (fun b => f_X5_readDistrict_B63 v0 v1 b.1 b.2)
def f_X5_readDistrict (v0 : Nat) (v1 : Nat) (M0 : sMem) : Option (Int32 × sMem) :=
  sRc 5 2 M0 v0 (
    (gR 5 2 0 M0 v0).bind fun x19 =>
    (f_X10_startReading x19 M0).bind fun M20 =>
    (f_X1_clear v1 M20).bind fun M21 =>
    f_X5_readDistrict_L15 v0 v1 ((0 : Int32)) ((0 : Int32)) M21)
set_option maxRecDepth 100000 in
set_option maxHeartbeats 4000000 in
theorem m_X5_readDistrict (G : sG) (l : Launch) (v0 : Nat) (v1 : Nat) (M0 : sMem) : sC G l 71 yX5_readDistrict cX5_readDistrict 4 (some .int) [.ref v0, .ref v1] M0 rvI (f_X5_readDistrict v0 v1 M0) := by
  refine sC_m (ls := [some (.ref v0), some (.ref v1), none, none]) (by decide +kernel) rfl (Nat.le_of_ble_eq_true rfl) (fun r M' K hr => ?_)
  unfold f_X5_readDistrict
  have xB107 : ∀ (v0 : Nat) (v1 : Nat) (v2 : Int32) (M : sMem), sX G l 71 yX5_readDistrict cX5_readDistrict 4 (some .int) M0 r M' 107 [some (.ref v0), some (.ref v1), some (.int v2), none] [] M (f_X5_readDistrict_B107 v0 v1 v2 M) K := by
    intro v0 v1 v2 M
    unfold f_X5_readDistrict_B107
    refine sX_aload_n (i := 1) (by decide +kernel) rfl ?_
    refine sX_callVv (As := []) (by decide +kernel) lm_X5_52 mf_X1_fillIn mi_X1_fillIn mc_1 (m_X1_fillIn G l v1 M) (fun _ h => sRc_some h) (by decide) rfl rfl (Nat.le_of_ble_eq_true rfl) (fun M1 => ?_)
    refine sX_aload_n (i := 0) (by decide +kernel) rfl ?_
    refine sX_getR lf_X5_18 tk_5_0 (by decide +kernel) (fun x2 => ?_)
    refine sX_callVp (As := []) (by decide +kernel) lm_X5_55 mf_X10_isGood mi_X10_isGood mc_10 (m_X10_isGood G l x2 M1) (fun _ h => sRc_some h) (by decide) rfl rfl (Nat.le_of_ble_eq_true rfl) (fun x3 => ?_)
    refine sX_ifeq (o := 7) (t := 125) (by decide +kernel) (by decide) (fun _ => ?_) (fun _ => ?_)
    · refine sX_iconst (n := -1) (v := (-1 : Int32)) (by decide +kernel) (by decide) ?_
      exact sX_some (fun h _ => sW_iret (by decide +kernel) rfl (hr _ h).1.symm (hr _ h).2.symm)
    · refine sX_iload_n (i := 2) (by decide +kernel) rfl ?_
      refine sX_goto (o := 4) (t := 126) (by decide +kernel) (by decide) ?_
      exact sX_some (fun h _ => sW_iret (by decide +kernel) rfl (hr _ h).1.symm (hr _ h).2.symm)
  have xB82 : ∀ (v0 : Nat) (v1 : Nat) (v2 : Int32) (M : sMem), sX G l 71 yX5_readDistrict cX5_readDistrict 4 (some .int) M0 r M' 82 [some (.ref v0), some (.ref v1), some (.int v2), none] [] M (f_X5_readDistrict_B82 v0 v1 v2 M) K := by
    intro v0 v1 v2 M
    unfold f_X5_readDistrict_B82
    refine sX_aload_n (i := 0) (by decide +kernel) rfl ?_
    refine sX_getR lf_X5_18 tk_5_0 (by decide +kernel) (fun x4 => ?_)
    refine sX_callVp (As := []) (by decide +kernel) lm_X5_32 mf_X10_isOver mi_X10_isOver mc_10 (m_X10_isOver G l x4 M) (fun _ h => sRc_some h) (by decide) rfl rfl (Nat.le_of_ble_eq_true rfl) (fun x5 => ?_)
    refine sX_ifne (o := 18) (t := 107) (by decide +kernel) (by decide) (fun _ => ?_) (fun _ => ?_)
    · refine sX_aload_n (i := 0) (by decide +kernel) rfl ?_
      refine sX_getR lf_X5_18 tk_5_0 (by decide +kernel) (fun x6 => ?_)
      refine sX_iconst (n := 5) (v := (5 : Int32)) (by decide +kernel) (by decide) ?_
      refine sX_aload_n (i := 0) (by decide +kernel) rfl ?_
      refine sX_getR lf_X5_18 tk_5_0 (by decide +kernel) (fun x7 => ?_)
      refine sX_callVp (As := []) (by decide +kernel) lm_X5_44 mf_X10_place mi_X10_place mc_10 (m_X10_place G l x7 M) (fun _ h => sRc_some h) (by decide) rfl rfl (Nat.le_of_ble_eq_true rfl) (fun x8 => ?_)
      refine sX_callVv (As := [.int (5 : Int32), .int x8]) (by decide +kernel) lm_X5_48 mf_X10_fail mi_X10_fail mc_10 (m_X10_fail G l x6 ((5 : Int32)) x8 M) (fun _ h => sRc_some h) (by decide) rfl rfl (Nat.le_of_ble_eq_true rfl) (fun M9 => ?_)
      exact sX.le (xB107 v0 v1 v2 M9) (sLe_s (sLe_s (sLe_s (sLe_n sLe_e))))
    · exact sX.le (xB107 v0 v1 v2 M) (sLe_s (sLe_s (sLe_s (sLe_n sLe_e))))
  have xB63 : ∀ (v0 : Nat) (v1 : Nat) (v2 : Int32) (M : sMem), sX G l 71 yX5_readDistrict cX5_readDistrict 4 (some .int) M0 r M' 63 [some (.ref v0), some (.ref v1), some (.int v2), none] [] M (f_X5_readDistrict_B63 v0 v1 v2 M) K := by
    intro v0 v1 v2 M
    unfold f_X5_readDistrict_B63
    refine sX_iload_n (i := 2) (by decide +kernel) rfl ?_
    refine sX_ifne (o := 18) (t := 82) (by decide +kernel) (by decide) (fun _ => ?_) (fun _ => ?_)
    · refine sX_aload_n (i := 0) (by decide +kernel) rfl ?_
      refine sX_getR lf_X5_18 tk_5_0 (by decide +kernel) (fun x10 => ?_)
      refine sX_iconst (n := 1) (v := (1 : Int32)) (by decide +kernel) (by decide) ?_
      refine sX_aload_n (i := 0) (by decide +kernel) rfl ?_
      refine sX_getR lf_X5_18 tk_5_0 (by decide +kernel) (fun x11 => ?_)
      refine sX_callVp (As := []) (by decide +kernel) lm_X5_44 mf_X10_place mi_X10_place mc_10 (m_X10_place G l x11 M) (fun _ h => sRc_some h) (by decide) rfl rfl (Nat.le_of_ble_eq_true rfl) (fun x12 => ?_)
      refine sX_callVv (As := [.int (1 : Int32), .int x12]) (by decide +kernel) lm_X5_48 mf_X10_fail mi_X10_fail mc_10 (m_X10_fail G l x10 ((1 : Int32)) x12 M) (fun _ h => sRc_some h) (by decide) rfl rfl (Nat.le_of_ble_eq_true rfl) (fun M13 => ?_)
      exact sX.le (xB82 v0 v1 v2 M13) (sLe_s (sLe_s (sLe_s (sLe_n sLe_e))))
    · exact sX.le (xB82 v0 v1 v2 M) (sLe_s (sLe_s (sLe_s (sLe_n sLe_e))))
  have xL15 : ∀ (v0 : Nat) (v1 : Nat) (v2 : Int32) (v3 : Int32) (M : sMem), sX G l 71 yX5_readDistrict cX5_readDistrict 4 (some .int) M0 r M' 15 [some (.ref v0), some (.ref v1), some (.int v2), some (.int v3)] [] M (f_X5_readDistrict_L15 v0 v1 v2 v3 M) K := by
    intro v0 v1 v2 v3 M
    unfold f_X5_readDistrict_L15
    refine sX_bind ?_
    refine sX_loop (LS := fun a : (Int32 × Int32 × sMem) => [some (.ref v0), some (.ref v1), some (.int a.1), some (.int a.2.1)]) (MM := fun a => a.2.2) (fun K1 hb1 he1 => ?_) sFuel ((v2, v3, M))
    have xB42 : ∀ (v2 : Int32) (v3 : Int32) (s0 : Nat) (s1 : Nat) (s2 : Int32) (M : sMem), sX G l 71 yX5_readDistrict cX5_readDistrict 4 (some .int) M0 r M' 42 [some (.ref v0), some (.ref v1), some (.int v2), some (.int v3)] [.int s2, .ref s1, .ref s0] M (f_X5_readDistrict_B42 v0 v1 v2 v3 s0 s1 s2 M) K1 := by
      intro v2 v3 s0 s1 s2 M
      unfold f_X5_readDistrict_B42
      refine sX_callVv (As := [.ref s1, .int s2]) (by decide +kernel) lm_X5_36 mf_X5_readStatement mi_X5_readStatement mc_5 (m_X5_readStatement G l s0 s1 s2 M) (fun _ h => sRc_some h) (by decide) rfl rfl (Nat.le_of_ble_eq_true rfl) (fun M14 => ?_)
      refine sX_aload_n (i := 0) (by decide +kernel) rfl ?_
      refine sX_getR lf_X5_18 tk_5_0 (by decide +kernel) (fun x15 => ?_)
      refine sX_bipush (n := 59) (v := (59 : Int32)) (by decide +kernel) (by decide) ?_
      refine sX_callVv (As := [.int (59 : Int32)]) (by decide +kernel) lm_X5_40 mf_X10_needSign mi_X10_needSign mc_10 (m_X10_needSign G l x15 ((59 : Int32)) M14) (fun _ h => sRc_some h) (by decide) rfl rfl (Nat.le_of_ble_eq_true rfl) (fun M16 => ?_)
      refine sX_iinc (i := 2) (n := 1) (v := v2 + (1 : Int32)) (ls2 := [some (.ref v0), some (.ref v1), some (.int (v2 + (1 : Int32))), some (.int v3)]) (by decide +kernel) rfl rfl (by decide) rfl ?_
      refine sX_iinc (i := 3) (n := 1) (v := v3 + (1 : Int32)) (ls2 := [some (.ref v0), some (.ref v1), some (.int (v2 + (1 : Int32))), some (.int (v3 + (1 : Int32)))]) (by decide +kernel) rfl rfl (by decide) rfl ?_
      refine sX_goto (o := -45) (t := 15) (by decide +kernel) (by decide) ?_
      exact sX_back (a := (((v2 + (1 : Int32))), ((v3 + (1 : Int32))), M16)) hb1 rfl (sLe_s (sLe_s (sLe_s (sLe_s sLe_e))))
    have xK15 : ∀ (v2 : Int32) (v3 : Int32) (M : sMem), sX G l 71 yX5_readDistrict cX5_readDistrict 4 (some .int) M0 r M' 15 [some (.ref v0), some (.ref v1), some (.int v2), some (.int v3)] [] M (f_X5_readDistrict_K15 v0 v1 v2 v3 M) K1 := by
      intro v2 v3 M
      unfold f_X5_readDistrict_K15
      refine sX_iload_n (i := 3) (by decide +kernel) rfl ?_
      refine sX_bipush (n := 80) (v := (80 : Int32)) (by decide +kernel) (by decide) ?_
      refine sX_icge (o := 45) (t := 63) (by decide +kernel) (by decide) (fun _ => ?_) (fun _ => ?_)
      · refine sX_exit he1 ?_
        exact sX.le (xB63 v0 v1 v2 M) (sLe_s (sLe_s (sLe_s (sLe_n sLe_e))))
      · refine sX_aload_n (i := 0) (by decide +kernel) rfl ?_
        refine sX_getR lf_X5_18 tk_5_0 (by decide +kernel) (fun x17 => ?_)
        refine sX_callVp (As := []) (by decide +kernel) lm_X5_32 mf_X10_isOver mi_X10_isOver mc_10 (m_X10_isOver G l x17 M) (fun _ h => sRc_some h) (by decide) rfl rfl (Nat.le_of_ble_eq_true rfl) (fun x18 => ?_)
        refine sX_ifne (o := 35) (t := 63) (by decide +kernel) (by decide) (fun _ => ?_) (fun _ => ?_)
        · refine sX_aload_n (i := 0) (by decide +kernel) rfl ?_
          refine sX_aload_n (i := 1) (by decide +kernel) rfl ?_
          refine sX_iload_n (i := 3) (by decide +kernel) rfl ?_
          refine sX_ifne (o := 7) (t := 41) (by decide +kernel) (by decide) (fun _ => ?_) (fun _ => ?_)
          · refine sX_iconst (n := 1) (v := (1 : Int32)) (by decide +kernel) (by decide) ?_
            refine sX_goto (o := 4) (t := 42) (by decide +kernel) (by decide) ?_
            exact sX.le (xB42 v2 v3 v0 v1 ((1 : Int32)) M) (sLe_s (sLe_s (sLe_s (sLe_s sLe_e))))
          · refine sX_iconst (n := 0) (v := (0 : Int32)) (by decide +kernel) (by decide) ?_
            exact sX.le (xB42 v2 v3 v0 v1 ((0 : Int32)) M) (sLe_s (sLe_s (sLe_s (sLe_s sLe_e))))
        · refine sX_exit he1 ?_
          exact sX.le (xB63 v0 v1 v2 M) (sLe_s (sLe_s (sLe_s (sLe_n sLe_e))))
    exact fun a => xK15 a.1 a.2.1 a.2.2
  refine sX_rc ?_
  refine sX_aload_n (i := 0) (by decide +kernel) rfl ?_
  refine sX_getR lf_X5_18 tk_5_0 (by decide +kernel) (fun x19 => ?_)
  refine sX_callVv (As := []) (by decide +kernel) lm_X5_22 mf_X10_startReading mi_X10_startReading mc_10 (m_X10_startReading G l x19 M0) (fun _ h => sRc_some h) (by decide) rfl rfl (Nat.le_of_ble_eq_true rfl) (fun M20 => ?_)
  refine sX_aload_n (i := 1) (by decide +kernel) rfl ?_
  refine sX_callVv (As := []) (by decide +kernel) lm_X5_27 mf_X1_clear mi_X1_clear mc_1 (m_X1_clear G l v1 M20) (fun _ h => sRc_some h) (by decide) rfl rfl (Nat.le_of_ble_eq_true rfl) (fun M21 => ?_)
  refine sX_iconst (n := 0) (v := (0 : Int32)) (by decide +kernel) (by decide) ?_
  refine sX_istore_n (i := 2) (ls2 := [some (.ref v0), some (.ref v1), some (.int (0 : Int32)), none]) (by decide +kernel) (by decide) rfl ?_
  refine sX_iconst (n := 0) (v := (0 : Int32)) (by decide +kernel) (by decide) ?_
  refine sX_istore_n (i := 3) (ls2 := [some (.ref v0), some (.ref v1), some (.int (0 : Int32)), some (.int (0 : Int32))]) (by decide +kernel) (by decide) rfl ?_
  exact sX.le (xL15 v0 v1 ((0 : Int32)) ((0 : Int32)) M21) (sLe_s (sLe_s (sLe_s (sLe_s sLe_e))))
def f_X5_readQuestion_B112 (v0 : Nat) (v1 : Int32) (M : sMem) : Option (Int32 × sMem) :=
  (gR 5 2 0 M v0).bind fun x1 =>
  (f_X10_isGood x1 M).bind fun x2 =>
  if x2 = 0 then
    some (((-1 : Int32), M))
  else
    some ((v1, M))
def f_X5_readQuestion_B87 (v0 : Nat) (v1 : Int32) (M : sMem) : Option (Int32 × sMem) :=
  (gR 5 2 0 M v0).bind fun x3 =>
  (f_X10_isOver x3 M).bind fun x4 =>
  if x4 = 0 then
    (gR 5 2 0 M v0).bind fun x5 =>
    (gR 5 2 0 M v0).bind fun x6 =>
    (f_X10_place x6 M).bind fun x7 =>
    (f_X10_fail x5 ((1 : Int32)) x7 M).bind fun M8 =>
    f_X5_readQuestion_B112 v0 v1 M8
  else
    f_X5_readQuestion_B112 v0 v1 M
def f_X5_readQuestion (v0 : Nat) (M0 : sMem) : Option (Int32 × sMem) :=
  sRc 5 2 M0 v0 (
    (gR 5 2 0 M0 v0).bind fun x9 =>
    (f_X10_startReading x9 M0).bind fun M10 =>
    (gR 5 2 1 M10 v0).bind fun x11 =>
    (pI 6 2 1 M10 x11 ((0 : Int32))).bind fun M12 =>
    (gR 5 2 0 M12 v0).bind fun x13 =>
    (f_X10_word x13 M12).bind fun x14 =>
    if (33 : Int32) ≤ x14 then
      (gR 5 2 0 M12 v0).bind fun x15 =>
      (f_X10_needWord x15 x14 M12).bind fun M16 =>
      if (35 : Int32) < x14 then
        (gR 5 2 1 M16 v0).bind fun x17 =>
        (F_parser 64 3 v0 x17 ((132124708 : Int64)) ((0 : Int32)) (0 : Int32) M16).bind fun M18 =>
        f_X5_readQuestion_B87 v0 x14 M18
      else
        (gR 5 2 1 M16 v0).bind fun x19 =>
        (F_parser 64 0 v0 x19 ((132124708 : Int64)) ((0 : Int32)) (0 : Int32) M16).bind fun M20 =>
        f_X5_readQuestion_B87 v0 x14 M20
    else
      (gR 5 2 0 M12 v0).bind fun x21 =>
      (gR 5 2 0 M12 v0).bind fun x22 =>
      (f_X10_place x22 M12).bind fun x23 =>
      (f_X10_fail x21 ((1 : Int32)) x23 M12).bind fun M24 =>
      some (((-1 : Int32), M24)))
set_option maxRecDepth 100000 in
set_option maxHeartbeats 4000000 in
theorem m_X5_readQuestion (G : sG) (l : Launch) (v0 : Nat) (M0 : sMem) : sC G l 70 yX5_readQuestion cX5_readQuestion 2 (some .int) [.ref v0] M0 rvI (f_X5_readQuestion v0 M0) := by
  refine sC_m (ls := [some (.ref v0), none]) (by decide +kernel) rfl (Nat.le_of_ble_eq_true rfl) (fun r M' K hr => ?_)
  unfold f_X5_readQuestion
  have xB112 : ∀ (v0 : Nat) (v1 : Int32) (M : sMem), sX G l 70 yX5_readQuestion cX5_readQuestion 2 (some .int) M0 r M' 112 [some (.ref v0), some (.int v1)] [] M (f_X5_readQuestion_B112 v0 v1 M) K := by
    intro v0 v1 M
    unfold f_X5_readQuestion_B112
    refine sX_aload_n (i := 0) (by decide +kernel) rfl ?_
    refine sX_getR lf_X5_18 tk_5_0 (by decide +kernel) (fun x1 => ?_)
    refine sX_callVp (As := []) (by decide +kernel) lm_X5_55 mf_X10_isGood mi_X10_isGood mc_10 (m_X10_isGood G l x1 M) (fun _ h => sRc_some h) (by decide) rfl rfl (Nat.le_of_ble_eq_true rfl) (fun x2 => ?_)
    refine sX_ifeq (o := 7) (t := 126) (by decide +kernel) (by decide) (fun _ => ?_) (fun _ => ?_)
    · refine sX_iconst (n := -1) (v := (-1 : Int32)) (by decide +kernel) (by decide) ?_
      exact sX_some (fun h _ => sW_iret (by decide +kernel) rfl (hr _ h).1.symm (hr _ h).2.symm)
    · refine sX_iload_n (i := 1) (by decide +kernel) rfl ?_
      refine sX_goto (o := 4) (t := 127) (by decide +kernel) (by decide) ?_
      exact sX_some (fun h _ => sW_iret (by decide +kernel) rfl (hr _ h).1.symm (hr _ h).2.symm)
  have xB87 : ∀ (v0 : Nat) (v1 : Int32) (M : sMem), sX G l 70 yX5_readQuestion cX5_readQuestion 2 (some .int) M0 r M' 87 [some (.ref v0), some (.int v1)] [] M (f_X5_readQuestion_B87 v0 v1 M) K := by
    intro v0 v1 M
    unfold f_X5_readQuestion_B87
    refine sX_aload_n (i := 0) (by decide +kernel) rfl ?_
    refine sX_getR lf_X5_18 tk_5_0 (by decide +kernel) (fun x3 => ?_)
    refine sX_callVp (As := []) (by decide +kernel) lm_X5_32 mf_X10_isOver mi_X10_isOver mc_10 (m_X10_isOver G l x3 M) (fun _ h => sRc_some h) (by decide) rfl rfl (Nat.le_of_ble_eq_true rfl) (fun x4 => ?_)
    refine sX_ifne (o := 18) (t := 112) (by decide +kernel) (by decide) (fun _ => ?_) (fun _ => ?_)
    · refine sX_aload_n (i := 0) (by decide +kernel) rfl ?_
      refine sX_getR lf_X5_18 tk_5_0 (by decide +kernel) (fun x5 => ?_)
      refine sX_iconst (n := 1) (v := (1 : Int32)) (by decide +kernel) (by decide) ?_
      refine sX_aload_n (i := 0) (by decide +kernel) rfl ?_
      refine sX_getR lf_X5_18 tk_5_0 (by decide +kernel) (fun x6 => ?_)
      refine sX_callVp (As := []) (by decide +kernel) lm_X5_44 mf_X10_place mi_X10_place mc_10 (m_X10_place G l x6 M) (fun _ h => sRc_some h) (by decide) rfl rfl (Nat.le_of_ble_eq_true rfl) (fun x7 => ?_)
      refine sX_callVv (As := [.int (1 : Int32), .int x7]) (by decide +kernel) lm_X5_48 mf_X10_fail mi_X10_fail mc_10 (m_X10_fail G l x5 ((1 : Int32)) x7 M) (fun _ h => sRc_some h) (by decide) rfl rfl (Nat.le_of_ble_eq_true rfl) (fun M8 => ?_)
      exact sX.le (xB112 v0 v1 M8) (sLe_s (sLe_s sLe_e))
    · exact sX.le (xB112 v0 v1 M) (sLe_s (sLe_s sLe_e))
  refine sX_rc ?_
  refine sX_aload_n (i := 0) (by decide +kernel) rfl ?_
  refine sX_getR lf_X5_18 tk_5_0 (by decide +kernel) (fun x9 => ?_)
  refine sX_callVv (As := []) (by decide +kernel) lm_X5_22 mf_X10_startReading mi_X10_startReading mc_10 (m_X10_startReading G l x9 M0) (fun _ h => sRc_some h) (by decide) rfl rfl (Nat.le_of_ble_eq_true rfl) (fun M10 => ?_)
  refine sX_aload_n (i := 0) (by decide +kernel) rfl ?_
  refine sX_getR lf_X5_12 tk_5_1 (by decide +kernel) (fun x11 => ?_)
  refine sX_iconst (n := 0) (v := (0 : Int32)) (by decide +kernel) (by decide) ?_
  refine sX_putI lf_X5_58 tp_6_1 (by decide +kernel) (by decide) (fun M12 => ?_)
  refine sX_aload_n (i := 0) (by decide +kernel) rfl ?_
  refine sX_getR lf_X5_18 tk_5_0 (by decide +kernel) (fun x13 => ?_)
  refine sX_callVp (As := []) (by decide +kernel) lm_X5_62 mf_X10_word mi_X10_word mc_10 (m_X10_word G l x13 M12) (fun _ h => sRc_some h) (by decide) rfl rfl (Nat.le_of_ble_eq_true rfl) (fun x14 => ?_)
  refine sX_istore_n (i := 1) (ls2 := [some (.ref v0), some (.int x14)]) (by decide +kernel) (by decide) rfl ?_
  refine sX_iload_n (i := 1) (by decide +kernel) rfl ?_
  refine sX_bipush (n := 33) (v := (33 : Int32)) (by decide +kernel) (by decide) ?_
  refine sX_icge (o := 20) (t := 46) (by decide +kernel) (by decide) (fun _ => ?_) (fun _ => ?_)
  · refine sX_aload_n (i := 0) (by decide +kernel) rfl ?_
    refine sX_getR lf_X5_18 tk_5_0 (by decide +kernel) (fun x15 => ?_)
    refine sX_iload_n (i := 1) (by decide +kernel) rfl ?_
    refine sX_callVv (As := [.int x14]) (by decide +kernel) lm_X5_65 mf_X10_needWord mi_X10_needWord mc_10 (m_X10_needWord G l x15 x14 M12) (fun _ h => sRc_some h) (by decide) rfl rfl (Nat.le_of_ble_eq_true rfl) (fun M16 => ?_)
    refine sX_iload_n (i := 1) (by decide +kernel) rfl ?_
    refine sX_bipush (n := 35) (v := (35 : Int32)) (by decide +kernel) (by decide) ?_
    refine sX_icgt (o := 18) (t := 75) (by decide +kernel) (by decide) (fun _ => ?_) (fun _ => ?_)
    · refine sX_aload_n (i := 0) (by decide +kernel) rfl ?_
      refine sX_aload_n (i := 0) (by decide +kernel) rfl ?_
      refine sX_getR lf_X5_12 tk_5_1 (by decide +kernel) (fun x17 => ?_)
      refine sX_ldc2 (v := (132124708 : Int64)) (by decide +kernel) kl_X5_69 ?_
      refine sX_iconst (n := 0) (v := (0 : Int32)) (by decide +kernel) (by decide) ?_
      refine sX_callVv (As := [.ref x17, .long (132124708 : Int64), .int (0 : Int32)]) (by decide +kernel) lm_X5_75 mf_X5_readSum mi_X5_readSum mc_5 (mFp3 G l v0 x17 ((132124708 : Int64)) ((0 : Int32)) M16).1 (mFp3 G l v0 x17 ((132124708 : Int64)) ((0 : Int32)) M16).2 (by decide) rfl rfl (Nat.le_of_ble_eq_true rfl) (fun M18 => ?_)
      exact sX.le (xB87 v0 x14 M18) (sLe_s (sLe_s sLe_e))
    · refine sX_aload_n (i := 0) (by decide +kernel) rfl ?_
      refine sX_aload_n (i := 0) (by decide +kernel) rfl ?_
      refine sX_getR lf_X5_12 tk_5_1 (by decide +kernel) (fun x19 => ?_)
      refine sX_ldc2 (v := (132124708 : Int64)) (by decide +kernel) kl_X5_69 ?_
      refine sX_iconst (n := 0) (v := (0 : Int32)) (by decide +kernel) (by decide) ?_
      refine sX_callVv (As := [.ref x19, .long (132124708 : Int64), .int (0 : Int32)]) (by decide +kernel) lm_X5_71 mf_X5_readTest mi_X5_readTest mc_5 (mFp0 G l v0 x19 ((132124708 : Int64)) ((0 : Int32)) M16).1 (mFp0 G l v0 x19 ((132124708 : Int64)) ((0 : Int32)) M16).2 (by decide) rfl rfl (Nat.le_of_ble_eq_true rfl) (fun M20 => ?_)
      refine sX_goto (o := 15) (t := 87) (by decide +kernel) (by decide) ?_
      exact sX.le (xB87 v0 x14 M20) (sLe_s (sLe_s sLe_e))
  · refine sX_aload_n (i := 0) (by decide +kernel) rfl ?_
    refine sX_getR lf_X5_18 tk_5_0 (by decide +kernel) (fun x21 => ?_)
    refine sX_iconst (n := 1) (v := (1 : Int32)) (by decide +kernel) (by decide) ?_
    refine sX_aload_n (i := 0) (by decide +kernel) rfl ?_
    refine sX_getR lf_X5_18 tk_5_0 (by decide +kernel) (fun x22 => ?_)
    refine sX_callVp (As := []) (by decide +kernel) lm_X5_44 mf_X10_place mi_X10_place mc_10 (m_X10_place G l x22 M12) (fun _ h => sRc_some h) (by decide) rfl rfl (Nat.le_of_ble_eq_true rfl) (fun x23 => ?_)
    refine sX_callVv (As := [.int (1 : Int32), .int x23]) (by decide +kernel) lm_X5_48 mf_X10_fail mi_X10_fail mc_10 (m_X10_fail G l x21 ((1 : Int32)) x23 M12) (fun _ h => sRc_some h) (by decide) rfl rfl (Nat.le_of_ble_eq_true rfl) (fun M24 => ?_)
    refine sX_iconst (n := -1) (v := (-1 : Int32)) (by decide +kernel) (by decide) ?_
    exact sX_some (fun h _ => sW_iret (by decide +kernel) rfl (hr _ h).1.symm (hr _ h).2.symm)
def f_X8_init (v0 : Nat) (M0 : sMem) : Option sMem :=
  (nA 14 M0 ((5 : Int32))).bind fun (q1, M2) =>
  (pR 8 8 2 M2 v0 q1).bind fun M3 =>
  (nA 14 M3 ((5 : Int32))).bind fun (q4, M5) =>
  (pR 8 8 3 M5 v0 q4).bind fun M6 =>
  (nA 14 M6 ((5 : Int32))).bind fun (q7, M8) =>
  (pR 8 8 4 M8 v0 q7).bind fun M9 =>
  (nA 14 M9 ((5 : Int32))).bind fun (q10, M11) =>
  (pR 8 8 5 M11 v0 q10).bind fun M12 =>
  (nA 14 M12 ((120 : Int32))).bind fun (q13, M14) =>
  (pR 8 8 6 M14 v0 q13).bind fun M15 =>
  some M15
set_option maxRecDepth 100000 in
set_option maxHeartbeats 4000000 in
theorem m_X8_init (G : sG) (l : Launch) (v0 : Nat) (M0 : sMem) : sCv G l 1 yX8_init cX8_init 1 none [.ref v0] M0 (f_X8_init v0 M0) := by
  refine sC_v (ls := [some (.ref v0)]) (by decide +kernel) rfl (Nat.le_of_ble_eq_true rfl) (fun r M' K hr => ?_)
  unfold f_X8_init
  refine sX_aload_n (i := 0) (by decide +kernel) rfl ?_
  refine sX_objI (by decide +kernel) lo_X8_3 oi_ok (by decide) (Nat.le_of_ble_eq_true rfl) ?_
  refine sX_aload_n (i := 0) (by decide +kernel) rfl ?_
  refine sX_iconst (n := 5) (v := (5 : Int32)) (by decide +kernel) (by decide) ?_
  refine sX_newa ak_int (by decide +kernel) (by decide) (fun q1 M2 => ?_)
  refine sX_putFR lg_X8_9 rfl tk_8_2 (by decide +kernel) (by decide) (fun M3 => ?_)
  refine sX_aload_n (i := 0) (by decide +kernel) rfl ?_
  refine sX_iconst (n := 5) (v := (5 : Int32)) (by decide +kernel) (by decide) ?_
  refine sX_newa ak_int (by decide +kernel) (by decide) (fun q4 M5 => ?_)
  refine sX_putFR lg_X8_15 rfl tk_8_3 (by decide +kernel) (by decide) (fun M6 => ?_)
  refine sX_aload_n (i := 0) (by decide +kernel) rfl ?_
  refine sX_iconst (n := 5) (v := (5 : Int32)) (by decide +kernel) (by decide) ?_
  refine sX_newa ak_int (by decide +kernel) (by decide) (fun q7 M8 => ?_)
  refine sX_putFR lg_X8_18 rfl tk_8_4 (by decide +kernel) (by decide) (fun M9 => ?_)
  refine sX_aload_n (i := 0) (by decide +kernel) rfl ?_
  refine sX_iconst (n := 5) (v := (5 : Int32)) (by decide +kernel) (by decide) ?_
  refine sX_newa ak_int (by decide +kernel) (by decide) (fun q10 M11 => ?_)
  refine sX_putFR lg_X8_21 rfl tk_8_5 (by decide +kernel) (by decide) (fun M12 => ?_)
  refine sX_aload_n (i := 0) (by decide +kernel) rfl ?_
  refine sX_bipush (n := 120) (v := (120 : Int32)) (by decide +kernel) (by decide) ?_
  refine sX_newa ak_int (by decide +kernel) (by decide) (fun q13 M14 => ?_)
  refine sX_putFR lg_X8_24 rfl tk_8_6 (by decide +kernel) (by decide) (fun M15 => ?_)
  exact sX_some (fun h _ => sW_vret (by decide +kernel) rfl (hr _ h).1.symm (hr _ h).2.symm)
def f_X8_start_K33 (v0 : Nat) (v1 : Nat) (v2 : Int32) (M : sMem) : Option ((Int32 × sMem) ⊕ ((sMem))) :=
  if (5 : Int32) ≤ v2 then
    some (.inr M)
  else
    (gR 8 8 3 M v0).bind fun x1 =>
    (gR 1 10 5 M v1).bind fun x2 =>
    (f_X9_cell x2 v2 ((0 : Int32)) M).bind fun x3 =>
    (stI M x1 v2 x3).bind fun M4 =>
    (gR 8 8 4 M4 v0).bind fun x5 =>
    (gR 1 10 5 M4 v1).bind fun x6 =>
    (f_X9_cell x6 v2 ((1 : Int32)) M4).bind fun x7 =>
    (stI M4 x5 v2 x7).bind fun M8 =>
    some (.inl ((((v2 + (1 : Int32))), M8)))
def f_X8_start_L33 (v0 : Nat) (v1 : Nat) (v2 : Int32) (M : sMem) : Option sMem :=
  (sItr (fun a : (Int32 × sMem) => f_X8_start_K33 v0 v1 a.1 a.2) sFuel (v2, M)).bind (fun b => some b)
def f_X8_start (v0 : Nat) (v1 : Nat) (M0 : sMem) : Option sMem :=
  sRc 8 8 M0 v0 (
    (pI 8 8 0 M0 v0 ((0 : Int32))).bind fun M9 =>
    (pI 8 8 1 M9 v0 ((0 : Int32))).bind fun M10 =>
    (pI 8 8 7 M10 v0 ((0 : Int32))).bind fun M11 =>
    (gR 8 8 2 M11 v0).bind fun x12 =>
    (f_J7_fill_53178 x12 ((0 : Int32)) M11).bind fun M13 =>
    (gR 8 8 5 M13 v0).bind fun x14 =>
    (f_J7_fill_53178 x14 ((0 : Int32)) M13).bind fun M15 =>
    f_X8_start_L33 v0 v1 ((0 : Int32)) M15)
set_option maxRecDepth 100000 in
set_option maxHeartbeats 4000000 in
theorem m_X8_start (G : sG) (l : Launch) (v0 : Nat) (v1 : Nat) (M0 : sMem) : sCv G l 2 yX8_start cX8_start 3 none [.ref v0, .ref v1] M0 (f_X8_start v0 v1 M0) := by
  refine sC_v (ls := [some (.ref v0), some (.ref v1), none]) (by decide +kernel) rfl (Nat.le_of_ble_eq_true rfl) (fun r M' K hr => ?_)
  unfold f_X8_start
  have xL33 : ∀ (v0 : Nat) (v1 : Nat) (v2 : Int32) (M : sMem), sX G l 2 yX8_start cX8_start 3 none M0 r M' 33 [some (.ref v0), some (.ref v1), some (.int v2)] [] M (f_X8_start_L33 v0 v1 v2 M) K := by
    intro v0 v1 v2 M
    unfold f_X8_start_L33
    refine sX_bind ?_
    refine sX_loop (LS := fun a : (Int32 × sMem) => [some (.ref v0), some (.ref v1), some (.int a.1)]) (MM := fun a => a.2) (fun K1 hb1 he1 => ?_) sFuel ((v2, M))
    have xK33 : ∀ (v2 : Int32) (M : sMem), sX G l 2 yX8_start cX8_start 3 none M0 r M' 33 [some (.ref v0), some (.ref v1), some (.int v2)] [] M (f_X8_start_K33 v0 v1 v2 M) K1 := by
      intro v2 M
      unfold f_X8_start_K33
      refine sX_iload_n (i := 2) (by decide +kernel) rfl ?_
      refine sX_iconst (n := 5) (v := (5 : Int32)) (by decide +kernel) (by decide) ?_
      refine sX_icge (o := 39) (t := 74) (by decide +kernel) (by decide) (fun _ => ?_) (fun _ => ?_)
      · refine sX_exit he1 ?_
        exact sX_some (fun h _ => sW_vret (by decide +kernel) rfl (hr _ h).1.symm (hr _ h).2.symm)
      · refine sX_aload_n (i := 0) (by decide +kernel) rfl ?_
        refine sX_getR lf_X8_15 tk_8_3 (by decide +kernel) (fun x1 => ?_)
        refine sX_iload_n (i := 2) (by decide +kernel) rfl ?_
        refine sX_aload_n (i := 1) (by decide +kernel) rfl ?_
        refine sX_getR lf_X8_43 tk_1_5 (by decide +kernel) (fun x2 => ?_)
        refine sX_iload_n (i := 2) (by decide +kernel) rfl ?_
        refine sX_iconst (n := 0) (v := (0 : Int32)) (by decide +kernel) (by decide) ?_
        refine sX_callVp (As := [.int v2, .int (0 : Int32)]) (by decide +kernel) lm_X8_49 mf_X9_cell mi_X9_cell mc_9 (m_X9_cell G l x2 v2 ((0 : Int32)) M) (fun _ h => sRc_some h) (by decide) rfl rfl (Nat.le_of_ble_eq_true rfl) (fun x3 => ?_)
        refine sX_iastore (by decide +kernel) (by decide) (fun M4 => ?_)
        refine sX_aload_n (i := 0) (by decide +kernel) rfl ?_
        refine sX_getR lf_X8_18 tk_8_4 (by decide +kernel) (fun x5 => ?_)
        refine sX_iload_n (i := 2) (by decide +kernel) rfl ?_
        refine sX_aload_n (i := 1) (by decide +kernel) rfl ?_
        refine sX_getR lf_X8_43 tk_1_5 (by decide +kernel) (fun x6 => ?_)
        refine sX_iload_n (i := 2) (by decide +kernel) rfl ?_
        refine sX_iconst (n := 1) (v := (1 : Int32)) (by decide +kernel) (by decide) ?_
        refine sX_callVp (As := [.int v2, .int (1 : Int32)]) (by decide +kernel) lm_X8_49 mf_X9_cell mi_X9_cell mc_9 (m_X9_cell G l x6 v2 ((1 : Int32)) M4) (fun _ h => sRc_some h) (by decide) rfl rfl (Nat.le_of_ble_eq_true rfl) (fun x7 => ?_)
        refine sX_iastore (by decide +kernel) (by decide) (fun M8 => ?_)
        refine sX_iinc (i := 2) (n := 1) (v := v2 + (1 : Int32)) (ls2 := [some (.ref v0), some (.ref v1), some (.int (v2 + (1 : Int32)))]) (by decide +kernel) rfl rfl (by decide) rfl ?_
        refine sX_goto (o := -38) (t := 33) (by decide +kernel) (by decide) ?_
        exact sX_back (a := (((v2 + (1 : Int32))), M8)) hb1 rfl (sLe_s (sLe_s (sLe_s sLe_e)))
    exact fun a => xK33 a.1 a.2
  refine sX_rc ?_
  refine sX_aload_n (i := 0) (by decide +kernel) rfl ?_
  refine sX_iconst (n := 0) (v := (0 : Int32)) (by decide +kernel) (by decide) ?_
  refine sX_putI lf_X8_27 tp_8_0 (by decide +kernel) (by decide) (fun M9 => ?_)
  refine sX_aload_n (i := 0) (by decide +kernel) rfl ?_
  refine sX_iconst (n := 0) (v := (0 : Int32)) (by decide +kernel) (by decide) ?_
  refine sX_putI lf_X8_31 tp_8_1 (by decide +kernel) (by decide) (fun M10 => ?_)
  refine sX_aload_n (i := 0) (by decide +kernel) rfl ?_
  refine sX_iconst (n := 0) (v := (0 : Int32)) (by decide +kernel) (by decide) ?_
  refine sX_putI lf_X8_34 tp_8_7 (by decide +kernel) (by decide) (fun M11 => ?_)
  refine sX_aload_n (i := 0) (by decide +kernel) rfl ?_
  refine sX_getR lf_X8_9 tk_8_2 (by decide +kernel) (fun x12 => ?_)
  refine sX_iconst (n := 0) (v := (0 : Int32)) (by decide +kernel) (by decide) ?_
  refine sX_callSv (As := [.ref x12, .int (0 : Int32)]) (by decide +kernel) lm_X8_37 mf_J7_fill_53178 ms_J7_fill_53178 (m_J7_fill_53178 G l x12 ((0 : Int32)) M11) (by decide) rfl rfl (Nat.le_of_ble_eq_true rfl) (fun M13 => ?_)
  refine sX_aload_n (i := 0) (by decide +kernel) rfl ?_
  refine sX_getR lf_X8_21 tk_8_5 (by decide +kernel) (fun x14 => ?_)
  refine sX_iconst (n := 0) (v := (0 : Int32)) (by decide +kernel) (by decide) ?_
  refine sX_callSv (As := [.ref x14, .int (0 : Int32)]) (by decide +kernel) lm_X8_37 mf_J7_fill_53178 ms_J7_fill_53178 (m_J7_fill_53178 G l x14 ((0 : Int32)) M13) (by decide) rfl rfl (Nat.le_of_ble_eq_true rfl) (fun M15 => ?_)
  refine sX_iconst (n := 0) (v := (0 : Int32)) (by decide +kernel) (by decide) ?_
  refine sX_istore_n (i := 2) (ls2 := [some (.ref v0), some (.ref v1), some (.int (0 : Int32))]) (by decide +kernel) (by decide) rfl ?_
  exact sX.le (xL33 v0 v1 ((0 : Int32)) M15) (sLe_s (sLe_s (sLe_s sLe_e)))
def f_X8_copy_B87 (v0 : Nat) (v1 : Nat) (M : sMem) : Option sMem :=
  (gI 8 8 7 M v1).bind fun x1 =>
  (pI 8 8 7 M v0 x1).bind fun M2 =>
  some M2
def f_X8_copy (v0 : Nat) (v1 : Nat) (M0 : sMem) : Option sMem :=
  sRc 8 8 M0 v0 (
    (gI 8 8 0 M0 v1).bind fun x3 =>
    (pI 8 8 0 M0 v0 x3).bind fun M4 =>
    (gI 8 8 1 M4 v1).bind fun x5 =>
    (pI 8 8 1 M4 v0 x5).bind fun M6 =>
    (gR 8 8 2 M6 v1).bind fun x7 =>
    (gR 8 8 2 M6 v0).bind fun x8 =>
    (cpI M6 x7 ((0 : Int32)) x8 ((0 : Int32)) ((5 : Int32))).bind fun M9 =>
    (gR 8 8 3 M9 v1).bind fun x10 =>
    (gR 8 8 3 M9 v0).bind fun x11 =>
    (cpI M9 x10 ((0 : Int32)) x11 ((0 : Int32)) ((5 : Int32))).bind fun M12 =>
    (gR 8 8 4 M12 v1).bind fun x13 =>
    (gR 8 8 4 M12 v0).bind fun x14 =>
    (cpI M12 x13 ((0 : Int32)) x14 ((0 : Int32)) ((5 : Int32))).bind fun M15 =>
    (gR 8 8 5 M15 v1).bind fun x16 =>
    (gR 8 8 5 M15 v0).bind fun x17 =>
    (cpI M15 x16 ((0 : Int32)) x17 ((0 : Int32)) ((5 : Int32))).bind fun M18 =>
    (gR 8 8 6 M18 v1).bind fun x19 =>
    (gR 8 8 6 M18 v0).bind fun x20 =>
    (cpI M18 x19 ((0 : Int32)) x20 ((0 : Int32)) ((120 : Int32))).bind fun M21 =>
    f_X8_copy_B87 v0 v1 M21)
set_option maxRecDepth 100000 in
set_option maxHeartbeats 4000000 in
theorem m_X8_copy (G : sG) (l : Launch) (v0 : Nat) (v1 : Nat) (M0 : sMem) : sCv G l 1 yX8_copy cX8_copy 2 none [.ref v0, .ref v1] M0 (f_X8_copy v0 v1 M0) := by
  refine sC_v (ls := [some (.ref v0), some (.ref v1)]) (by decide +kernel) rfl (Nat.le_of_ble_eq_true rfl) (fun r M' K hr => ?_)
  unfold f_X8_copy
  have xB87 : ∀ (v0 : Nat) (v1 : Nat) (M : sMem), sX G l 1 yX8_copy cX8_copy 2 none M0 r M' 87 [some (.ref v0), some (.ref v1)] [] M (f_X8_copy_B87 v0 v1 M) K := by
    intro v0 v1 M
    unfold f_X8_copy_B87
    refine sX_aload_n (i := 0) (by decide +kernel) rfl ?_
    refine sX_aload_n (i := 1) (by decide +kernel) rfl ?_
    refine sX_getI lf_X8_34 tk_8_7 (by decide +kernel) (fun x1 => ?_)
    refine sX_putI lf_X8_34 tp_8_7 (by decide +kernel) (by decide) (fun M2 => ?_)
    exact sX_some (fun h _ => sW_vret (by decide +kernel) rfl (hr _ h).1.symm (hr _ h).2.symm)
  refine sX_rc ?_
  refine sX_aload_n (i := 0) (by decide +kernel) rfl ?_
  refine sX_aload_n (i := 1) (by decide +kernel) rfl ?_
  refine sX_getI lf_X8_27 tk_8_0 (by decide +kernel) (fun x3 => ?_)
  refine sX_putI lf_X8_27 tp_8_0 (by decide +kernel) (by decide) (fun M4 => ?_)
  refine sX_aload_n (i := 0) (by decide +kernel) rfl ?_
  refine sX_aload_n (i := 1) (by decide +kernel) rfl ?_
  refine sX_getI lf_X8_31 tk_8_1 (by decide +kernel) (fun x5 => ?_)
  refine sX_putI lf_X8_31 tp_8_1 (by decide +kernel) (by decide) (fun M6 => ?_)
  refine sX_aload_n (i := 1) (by decide +kernel) rfl ?_
  refine sX_getR lf_X8_9 tk_8_2 (by decide +kernel) (fun x7 => ?_)
  refine sX_iconst (n := 0) (v := (0 : Int32)) (by decide +kernel) (by decide) ?_
  refine sX_aload_n (i := 0) (by decide +kernel) rfl ?_
  refine sX_getR lf_X8_9 tk_8_2 (by decide +kernel) (fun x8 => ?_)
  refine sX_iconst (n := 0) (v := (0 : Int32)) (by decide +kernel) (by decide) ?_
  refine sX_iconst (n := 5) (v := (5 : Int32)) (by decide +kernel) (by decide) ?_
  refine sX_copy (by decide +kernel) la_X8_55 ac_ok (by decide) (Nat.le_of_ble_eq_true rfl) (fun M9 => ?_)
  refine sX_aload_n (i := 1) (by decide +kernel) rfl ?_
  refine sX_getR lf_X8_15 tk_8_3 (by decide +kernel) (fun x10 => ?_)
  refine sX_iconst (n := 0) (v := (0 : Int32)) (by decide +kernel) (by decide) ?_
  refine sX_aload_n (i := 0) (by decide +kernel) rfl ?_
  refine sX_getR lf_X8_15 tk_8_3 (by decide +kernel) (fun x11 => ?_)
  refine sX_iconst (n := 0) (v := (0 : Int32)) (by decide +kernel) (by decide) ?_
  refine sX_iconst (n := 5) (v := (5 : Int32)) (by decide +kernel) (by decide) ?_
  refine sX_copy (by decide +kernel) la_X8_55 ac_ok (by decide) (Nat.le_of_ble_eq_true rfl) (fun M12 => ?_)
  refine sX_aload_n (i := 1) (by decide +kernel) rfl ?_
  refine sX_getR lf_X8_18 tk_8_4 (by decide +kernel) (fun x13 => ?_)
  refine sX_iconst (n := 0) (v := (0 : Int32)) (by decide +kernel) (by decide) ?_
  refine sX_aload_n (i := 0) (by decide +kernel) rfl ?_
  refine sX_getR lf_X8_18 tk_8_4 (by decide +kernel) (fun x14 => ?_)
  refine sX_iconst (n := 0) (v := (0 : Int32)) (by decide +kernel) (by decide) ?_
  refine sX_iconst (n := 5) (v := (5 : Int32)) (by decide +kernel) (by decide) ?_
  refine sX_copy (by decide +kernel) la_X8_55 ac_ok (by decide) (Nat.le_of_ble_eq_true rfl) (fun M15 => ?_)
  refine sX_aload_n (i := 1) (by decide +kernel) rfl ?_
  refine sX_getR lf_X8_21 tk_8_5 (by decide +kernel) (fun x16 => ?_)
  refine sX_iconst (n := 0) (v := (0 : Int32)) (by decide +kernel) (by decide) ?_
  refine sX_aload_n (i := 0) (by decide +kernel) rfl ?_
  refine sX_getR lf_X8_21 tk_8_5 (by decide +kernel) (fun x17 => ?_)
  refine sX_iconst (n := 0) (v := (0 : Int32)) (by decide +kernel) (by decide) ?_
  refine sX_iconst (n := 5) (v := (5 : Int32)) (by decide +kernel) (by decide) ?_
  refine sX_copy (by decide +kernel) la_X8_55 ac_ok (by decide) (Nat.le_of_ble_eq_true rfl) (fun M18 => ?_)
  refine sX_aload_n (i := 1) (by decide +kernel) rfl ?_
  refine sX_getR lf_X8_24 tk_8_6 (by decide +kernel) (fun x19 => ?_)
  refine sX_iconst (n := 0) (v := (0 : Int32)) (by decide +kernel) (by decide) ?_
  refine sX_aload_n (i := 0) (by decide +kernel) rfl ?_
  refine sX_getR lf_X8_24 tk_8_6 (by decide +kernel) (fun x20 => ?_)
  refine sX_iconst (n := 0) (v := (0 : Int32)) (by decide +kernel) (by decide) ?_
  refine sX_bipush (n := 120) (v := (120 : Int32)) (by decide +kernel) (by decide) ?_
  refine sX_copy (by decide +kernel) la_X8_55 ac_ok (by decide) (Nat.le_of_ble_eq_true rfl) (fun M21 => ?_)
  exact sX.le (xB87 v0 v1 M21) (sLe_s (sLe_s sLe_e))
def f_X8_isUp (v0 : Nat) (v1 : Int32) (M0 : sMem) : Option Int32 :=
  sRc 8 8 M0 v0 (
    (gI 8 8 1 M0 v0).bind fun x1 =>
    if ((x1 >>> (v1 &&& 31)) &&& (1 : Int32)) = (1 : Int32) then
      some ((1 : Int32))
    else
      some ((0 : Int32)))
set_option maxRecDepth 100000 in
set_option maxHeartbeats 4000000 in
theorem m_X8_isUp (G : sG) (l : Launch) (v0 : Nat) (v1 : Int32) (M0 : sMem) : sCp G l 1 yX8_isUp cX8_isUp 2 (some .boolean) [.ref v0, .int v1] M0 rvI (f_X8_isUp v0 v1 M0) := by
  refine sC_p (ls := [some (.ref v0), some (.int v1)]) (by decide +kernel) rfl (Nat.le_of_ble_eq_true rfl) (fun r M' K hr => ?_)
  unfold f_X8_isUp
  refine sX_rc ?_
  refine sX_aload_n (i := 0) (by decide +kernel) rfl ?_
  refine sX_getI lf_X8_31 tk_8_1 (by decide +kernel) (fun x1 => ?_)
  refine sX_iload_n (i := 1) (by decide +kernel) rfl ?_
  refine sX_ishr (by decide +kernel) ?_
  refine sX_iconst (n := 1) (v := (1 : Int32)) (by decide +kernel) (by decide) ?_
  refine sX_iand (by decide +kernel) ?_
  refine sX_iconst (n := 1) (v := (1 : Int32)) (by decide +kernel) (by decide) ?_
  refine sX_icne (o := 7) (t := 16) (by decide +kernel) (by decide) (fun _ => ?_) (fun _ => ?_)
  · refine sX_iconst (n := 1) (v := (1 : Int32)) (by decide +kernel) (by decide) ?_
    refine sX_goto (o := 4) (t := 17) (by decide +kernel) (by decide) ?_
    exact sX_some (fun h _ => sW_zret (by decide +kernel) rfl (by decide) (hr _ h).1.symm (hr _ h).2.symm)
  · refine sX_iconst (n := 0) (v := (0 : Int32)) (by decide +kernel) (by decide) ?_
    exact sX_some (fun h _ => sW_zret (by decide +kernel) rfl (by decide) (hr _ h).1.symm (hr _ h).2.symm)
def f_X9_letterOf_B47 (v3 : Int32) (M0 : sMem) : Option Int32 :=
  some ((v3 - v3 / (27 : Int32) * (27 : Int32)))
def f_X9_letterOf_K30 (v2 : Int32) (v3 : Int32) (v4 : Int32) (M0 : sMem) : Option ((Int32 × Int32) ⊕ ((Int32))) :=
  if v4 ≤ v2 then
    some (.inr v3)
  else
    some (.inl ((((v3 / (27 : Int32))), ((v4 + (-1 : Int32))))))
def f_X9_letterOf_L30 (v2 : Int32) (v3 : Int32) (v4 : Int32) (M0 : sMem) : Option Int32 :=
  (sItr (fun a : (Int32 × Int32) => f_X9_letterOf_K30 v2 a.1 a.2 M0) sFuel (v3, v4)).bind (fun b => f_X9_letterOf_B47 b M0)
def f_X9_letterOf (v0 : Nat) (v1 : Int32) (v2 : Int32) (M0 : sMem) : Option Int32 :=
  sRc 9 4 M0 v0 (
    (f_X9_isThere v0 v1 M0).bind fun x1 =>
    if x1 = 0 then
      some ((-1 : Int32))
    else
      if v2 < 0 then
        some ((-1 : Int32))
      else
        if v2 < (6 : Int32) then
          (gR 9 4 1 M0 v0).bind fun x2 =>
          (ldI 14 M0 x2 v1).bind fun x3 =>
          f_X9_letterOf_L30 v2 x3 ((5 : Int32)) M0
        else
          some ((-1 : Int32)))
set_option maxRecDepth 100000 in
set_option maxHeartbeats 4000000 in
theorem m_X9_letterOf (G : sG) (l : Launch) (v0 : Nat) (v1 : Int32) (v2 : Int32) (M0 : sMem) : sCp G l 2 yX9_letterOf cX9_letterOf 5 (some .int) [.ref v0, .int v1, .int v2] M0 rvI (f_X9_letterOf v0 v1 v2 M0) := by
  refine sC_p (ls := [some (.ref v0), some (.int v1), some (.int v2), none, none]) (by decide +kernel) rfl (Nat.le_of_ble_eq_true rfl) (fun r M' K hr => ?_)
  unfold f_X9_letterOf
  have xB47 : ∀ (v3 : Int32), sX G l 2 yX9_letterOf cX9_letterOf 5 (some .int) M0 r M' 47 [none, none, none, some (.int v3), none] [] M0 (f_X9_letterOf_B47 v3 M0) K := by
    intro v3
    unfold f_X9_letterOf_B47
    refine sX_iload_n (i := 3) (by decide +kernel) rfl ?_
    refine sX_bipush (n := 27) (v := (27 : Int32)) (by decide +kernel) (by decide) ?_
    refine sX_irem (by decide +kernel) (by decide) ?_
    exact sX_some (fun h _ => sW_iret (by decide +kernel) rfl (hr _ h).1.symm (hr _ h).2.symm)
  have xL30 : ∀ (v2 : Int32) (v3 : Int32) (v4 : Int32), sX G l 2 yX9_letterOf cX9_letterOf 5 (some .int) M0 r M' 30 [none, none, some (.int v2), some (.int v3), some (.int v4)] [] M0 (f_X9_letterOf_L30 v2 v3 v4 M0) K := by
    intro v2 v3 v4
    unfold f_X9_letterOf_L30
    refine sX_bind ?_
    refine sX_loop (LS := fun a : (Int32 × Int32) => [none, none, some (.int v2), some (.int a.1), some (.int a.2)]) (MM := fun a => M0) (fun K1 hb1 he1 => ?_) sFuel ((v3, v4))
    have xK30 : ∀ (v3 : Int32) (v4 : Int32), sX G l 2 yX9_letterOf cX9_letterOf 5 (some .int) M0 r M' 30 [none, none, some (.int v2), some (.int v3), some (.int v4)] [] M0 (f_X9_letterOf_K30 v2 v3 v4 M0) K1 := by
      intro v3 v4
      unfold f_X9_letterOf_K30
      refine sX_iload (i := 4) (by decide +kernel) rfl ?_
      refine sX_iload_n (i := 2) (by decide +kernel) rfl ?_
      refine sX_icle (o := 14) (t := 47) (by decide +kernel) (by decide) (fun _ => ?_) (fun _ => ?_)
      · refine sX_exit he1 ?_
        exact sX.le (xB47 v3) (sLe_n (sLe_n (sLe_n (sLe_s (sLe_n sLe_e)))))
      · refine sX_iload_n (i := 3) (by decide +kernel) rfl ?_
        refine sX_bipush (n := 27) (v := (27 : Int32)) (by decide +kernel) (by decide) ?_
        refine sX_idiv (by decide +kernel) (by decide) ?_
        refine sX_istore_n (i := 3) (ls2 := [none, none, some (.int v2), some (.int (v3 / (27 : Int32))), some (.int v4)]) (by decide +kernel) (by decide) rfl ?_
        refine sX_iinc (i := 4) (n := -1) (v := v4 + (-1 : Int32)) (ls2 := [none, none, some (.int v2), some (.int (v3 / (27 : Int32))), some (.int (v4 + (-1 : Int32)))]) (by decide +kernel) rfl rfl (by decide) rfl ?_
        refine sX_goto (o := -14) (t := 30) (by decide +kernel) (by decide) ?_
        exact sX_back (a := (((v3 / (27 : Int32))), ((v4 + (-1 : Int32))))) hb1 rfl (sLe_n (sLe_n (sLe_s (sLe_s (sLe_s sLe_e)))))
    exact fun a => xK30 a.1 a.2
  refine sX_rc ?_
  refine sX_aload_n (i := 0) (by decide +kernel) rfl ?_
  refine sX_iload_n (i := 1) (by decide +kernel) rfl ?_
  refine sX_callVp (As := [.int v1]) (by decide +kernel) lm_X9_25 mf_X9_isThere mi_X9_isThere mc_9 (m_X9_isThere G l v0 v1 M0) (fun _ h => sRc_some h) (by decide) rfl rfl (Nat.le_of_ble_eq_true rfl) (fun x1 => ?_)
  refine sX_ifeq (o := 13) (t := 18) (by decide +kernel) (by decide) (fun _ => ?_) (fun _ => ?_)
  · refine sX_iconst (n := -1) (v := (-1 : Int32)) (by decide +kernel) (by decide) ?_
    exact sX_some (fun h _ => sW_iret (by decide +kernel) rfl (hr _ h).1.symm (hr _ h).2.symm)
  · refine sX_iload_n (i := 2) (by decide +kernel) rfl ?_
    refine sX_iflt (o := 9) (t := 18) (by decide +kernel) (by decide) (fun _ => ?_) (fun _ => ?_)
    · refine sX_iconst (n := -1) (v := (-1 : Int32)) (by decide +kernel) (by decide) ?_
      exact sX_some (fun h _ => sW_iret (by decide +kernel) rfl (hr _ h).1.symm (hr _ h).2.symm)
    · refine sX_iload_n (i := 2) (by decide +kernel) rfl ?_
      refine sX_bipush (n := 6) (v := (6 : Int32)) (by decide +kernel) (by decide) ?_
      refine sX_iclt (o := 5) (t := 20) (by decide +kernel) (by decide) (fun _ => ?_) (fun _ => ?_)
      · refine sX_aload_n (i := 0) (by decide +kernel) rfl ?_
        refine sX_getR lf_X9_15 tk_9_1 (by decide +kernel) (fun x2 => ?_)
        refine sX_iload_n (i := 1) (by decide +kernel) rfl ?_
        refine sX_iaload (by decide +kernel) (fun x3 => ?_)
        refine sX_istore_n (i := 3) (ls2 := [some (.ref v0), some (.int v1), some (.int v2), some (.int x3), none]) (by decide +kernel) (by decide) rfl ?_
        refine sX_iconst (n := 5) (v := (5 : Int32)) (by decide +kernel) (by decide) ?_
        refine sX_istore (i := 4) (ls2 := [some (.ref v0), some (.int v1), some (.int v2), some (.int x3), some (.int (5 : Int32))]) (by decide +kernel) (by decide) rfl ?_
        exact sX.le (xL30 v2 x3 ((5 : Int32))) (sLe_n (sLe_n (sLe_s (sLe_s (sLe_s sLe_e)))))
      · refine sX_iconst (n := -1) (v := (-1 : Int32)) (by decide +kernel) (by decide) ?_
        exact sX_some (fun h _ => sW_iret (by decide +kernel) rfl (hr _ h).1.symm (hr _ h).2.symm)
def f_X10_init (v0 : Nat) (M0 : sMem) : Option sMem :=
  (nA 14 M0 ((1600 : Int32))).bind fun (q1, M2) =>
  (pR 10 10 0 M2 v0 q1).bind fun M3 =>
  (nA 14 M3 ((1601 : Int32))).bind fun (q4, M5) =>
  (pR 10 10 2 M5 v0 q4).bind fun M6 =>
  (nA 14 M6 ((1601 : Int32))).bind fun (q7, M8) =>
  (pR 10 10 3 M8 v0 q7).bind fun M9 =>
  (nA 14 M9 ((1601 : Int32))).bind fun (q10, M11) =>
  (pR 10 10 4 M11 v0 q10).bind fun M12 =>
  (nA 14 M12 ((1601 : Int32))).bind fun (q13, M14) =>
  (pR 10 10 5 M14 v0 q13).bind fun M15 =>
  (pI 10 10 9 M15 v0 ((-1 : Int32))).bind fun M16 =>
  some M16
set_option maxRecDepth 100000 in
set_option maxHeartbeats 4000000 in
theorem m_X10_init (G : sG) (l : Launch) (v0 : Nat) (M0 : sMem) : sCv G l 1 yX10_init cX10_init 1 none [.ref v0] M0 (f_X10_init v0 M0) := by
  refine sC_v (ls := [some (.ref v0)]) (by decide +kernel) rfl (Nat.le_of_ble_eq_true rfl) (fun r M' K hr => ?_)
  unfold f_X10_init
  refine sX_aload_n (i := 0) (by decide +kernel) rfl ?_
  refine sX_objI (by decide +kernel) lo_X10_3 oi_ok (by decide) (Nat.le_of_ble_eq_true rfl) ?_
  refine sX_aload_n (i := 0) (by decide +kernel) rfl ?_
  refine sX_sipush (n := 1600) (v := (1600 : Int32)) (by decide +kernel) (by decide) ?_
  refine sX_newa ak_int (by decide +kernel) (by decide) (fun q1 M2 => ?_)
  refine sX_putFR lg_X10_9 rfl tk_10_0 (by decide +kernel) (by decide) (fun M3 => ?_)
  refine sX_aload_n (i := 0) (by decide +kernel) rfl ?_
  refine sX_sipush (n := 1601) (v := (1601 : Int32)) (by decide +kernel) (by decide) ?_
  refine sX_newa ak_int (by decide +kernel) (by decide) (fun q4 M5 => ?_)
  refine sX_putFR lg_X10_15 rfl tk_10_2 (by decide +kernel) (by decide) (fun M6 => ?_)
  refine sX_aload_n (i := 0) (by decide +kernel) rfl ?_
  refine sX_sipush (n := 1601) (v := (1601 : Int32)) (by decide +kernel) (by decide) ?_
  refine sX_newa ak_int (by decide +kernel) (by decide) (fun q7 M8 => ?_)
  refine sX_putFR lg_X10_18 rfl tk_10_3 (by decide +kernel) (by decide) (fun M9 => ?_)
  refine sX_aload_n (i := 0) (by decide +kernel) rfl ?_
  refine sX_sipush (n := 1601) (v := (1601 : Int32)) (by decide +kernel) (by decide) ?_
  refine sX_newa ak_int (by decide +kernel) (by decide) (fun q10 M11 => ?_)
  refine sX_putFR lg_X10_21 rfl tk_10_4 (by decide +kernel) (by decide) (fun M12 => ?_)
  refine sX_aload_n (i := 0) (by decide +kernel) rfl ?_
  refine sX_sipush (n := 1601) (v := (1601 : Int32)) (by decide +kernel) (by decide) ?_
  refine sX_newa ak_int (by decide +kernel) (by decide) (fun q13 M14 => ?_)
  refine sX_putFR lg_X10_24 rfl tk_10_5 (by decide +kernel) (by decide) (fun M15 => ?_)
  refine sX_aload_n (i := 0) (by decide +kernel) rfl ?_
  refine sX_iconst (n := -1) (v := (-1 : Int32)) (by decide +kernel) (by decide) ?_
  refine sX_putI lf_X10_27 tp_10_9 (by decide +kernel) (by decide) (fun M16 => ?_)
  exact sX_some (fun h _ => sW_vret (by decide +kernel) rfl (hr _ h).1.symm (hr _ h).2.symm)
def f_X10_append_B45 (v0 : Nat) (v1 : Int32) (v2 : Int32) (M : sMem) : Option ((Int32 × sMem) ⊕ ((sMem))) :=
  some (.inl ((((v2 + (-8 : Int32))), M)))
def f_X10_append_K3 (v0 : Nat) (v1 : Int32) (v2 : Int32) (M : sMem) : Option ((Int32 × sMem) ⊕ ((sMem))) :=
  if v2 < 0 then
    some (.inr M)
  else
    (gI 10 10 1 M v0).bind fun x1 =>
    (gR 10 10 0 M v0).bind fun x2 =>
    (aL 14 M x2).bind fun x3 =>
    if x3 ≤ x1 then
      f_X10_append_B45 v0 v1 v2 M
    else
      (gR 10 10 0 M v0).bind fun x4 =>
      (gI 10 10 1 M v0).bind fun x5 =>
      (stI M x4 x5 (((v1.toUInt32 >>> (v2.toUInt32 &&& Int32.toUInt32 31)).toInt32 &&& (255 : Int32)))).bind fun M6 =>
      (gI 10 10 1 M6 v0).bind fun x7 =>
      (pI 10 10 1 M6 v0 ((x7 + (1 : Int32)))).bind fun M8 =>
      f_X10_append_B45 v0 v1 v2 M8
def f_X10_append_L3 (v0 : Nat) (v1 : Int32) (v2 : Int32) (M : sMem) : Option sMem :=
  (sItr (fun a : (Int32 × sMem) => f_X10_append_K3 v0 v1 a.1 a.2) sFuel (v2, M)).bind (fun b => some b)
def f_X10_append (v0 : Nat) (v1 : Int32) (M0 : sMem) : Option sMem :=
  sRc 10 10 M0 v0 (
    f_X10_append_L3 v0 v1 ((24 : Int32)) M0)
set_option maxRecDepth 100000 in
set_option maxHeartbeats 4000000 in
theorem m_X10_append (G : sG) (l : Launch) (v0 : Nat) (v1 : Int32) (M0 : sMem) : sCv G l 1 yX10_append cX10_append 3 none [.ref v0, .int v1] M0 (f_X10_append v0 v1 M0) := by
  refine sC_v (ls := [some (.ref v0), some (.int v1), none]) (by decide +kernel) rfl (Nat.le_of_ble_eq_true rfl) (fun r M' K hr => ?_)
  unfold f_X10_append
  have xL3 : ∀ (v0 : Nat) (v1 : Int32) (v2 : Int32) (M : sMem), sX G l 1 yX10_append cX10_append 3 none M0 r M' 3 [some (.ref v0), some (.int v1), some (.int v2)] [] M (f_X10_append_L3 v0 v1 v2 M) K := by
    intro v0 v1 v2 M
    unfold f_X10_append_L3
    refine sX_bind ?_
    refine sX_loop (LS := fun a : (Int32 × sMem) => [some (.ref v0), some (.int v1), some (.int a.1)]) (MM := fun a => a.2) (fun K1 hb1 he1 => ?_) sFuel ((v2, M))
    have xB45 : ∀ (v2 : Int32) (M : sMem), sX G l 1 yX10_append cX10_append 3 none M0 r M' 45 [some (.ref v0), some (.int v1), some (.int v2)] [] M (f_X10_append_B45 v0 v1 v2 M) K1 := by
      intro v2 M
      unfold f_X10_append_B45
      refine sX_iinc (i := 2) (n := -8) (v := v2 + (-8 : Int32)) (ls2 := [some (.ref v0), some (.int v1), some (.int (v2 + (-8 : Int32)))]) (by decide +kernel) rfl rfl (by decide) rfl ?_
      refine sX_goto (o := -45) (t := 3) (by decide +kernel) (by decide) ?_
      exact sX_back (a := (((v2 + (-8 : Int32))), M)) hb1 rfl (sLe_s (sLe_s (sLe_s sLe_e)))
    have xK3 : ∀ (v2 : Int32) (M : sMem), sX G l 1 yX10_append cX10_append 3 none M0 r M' 3 [some (.ref v0), some (.int v1), some (.int v2)] [] M (f_X10_append_K3 v0 v1 v2 M) K1 := by
      intro v2 M
      unfold f_X10_append_K3
      refine sX_iload_n (i := 2) (by decide +kernel) rfl ?_
      refine sX_iflt (o := 47) (t := 51) (by decide +kernel) (by decide) (fun _ => ?_) (fun _ => ?_)
      · refine sX_exit he1 ?_
        exact sX_some (fun h _ => sW_vret (by decide +kernel) rfl (hr _ h).1.symm (hr _ h).2.symm)
      · refine sX_aload_n (i := 0) (by decide +kernel) rfl ?_
        refine sX_getI lf_X10_31 tk_10_1 (by decide +kernel) (fun x1 => ?_)
        refine sX_aload_n (i := 0) (by decide +kernel) rfl ?_
        refine sX_getR lf_X10_9 tk_10_0 (by decide +kernel) (fun x2 => ?_)
        refine sX_alen (by decide) (by decide) (by decide +kernel) (fun x3 => ?_)
        refine sX_icge (o := 29) (t := 45) (by decide +kernel) (by decide) (fun _ => ?_) (fun _ => ?_)
        · exact sX.le (xB45 v2 M) (sLe_s (sLe_s (sLe_s sLe_e)))
        · refine sX_aload_n (i := 0) (by decide +kernel) rfl ?_
          refine sX_getR lf_X10_9 tk_10_0 (by decide +kernel) (fun x4 => ?_)
          refine sX_aload_n (i := 0) (by decide +kernel) rfl ?_
          refine sX_getI lf_X10_31 tk_10_1 (by decide +kernel) (fun x5 => ?_)
          refine sX_iload_n (i := 1) (by decide +kernel) rfl ?_
          refine sX_iload_n (i := 2) (by decide +kernel) rfl ?_
          refine sX_iushr (by decide +kernel) ?_
          refine sX_sipush (n := 255) (v := (255 : Int32)) (by decide +kernel) (by decide) ?_
          refine sX_iand (by decide +kernel) ?_
          refine sX_iastore (by decide +kernel) (by decide) (fun M6 => ?_)
          refine sX_aload_n (i := 0) (by decide +kernel) rfl ?_
          refine sX_dup (by decide +kernel) rfl ?_
          refine sX_getI lf_X10_31 tk_10_1 (by decide +kernel) (fun x7 => ?_)
          refine sX_iconst (n := 1) (v := (1 : Int32)) (by decide +kernel) (by decide) ?_
          refine sX_iadd (by decide +kernel) ?_
          refine sX_putI lf_X10_31 tp_10_1 (by decide +kernel) (by decide) (fun M8 => ?_)
          exact sX.le (xB45 v2 M8) (sLe_s (sLe_s (sLe_s sLe_e)))
    exact fun a => xK3 a.1 a.2
  refine sX_rc ?_
  refine sX_bipush (n := 24) (v := (24 : Int32)) (by decide +kernel) (by decide) ?_
  refine sX_istore_n (i := 2) (ls2 := [some (.ref v0), some (.int v1), some (.int (24 : Int32))]) (by decide +kernel) (by decide) rfl ?_
  exact sX.le (xL3 v0 v1 ((24 : Int32)) M0) (sLe_s (sLe_s (sLe_s sLe_e)))
def f_X11_init_B98 (v0 : Nat) (M : sMem) : Option sMem :=
  (f_X3_init ((sLen M)) (sNew 3 6 M)).bind fun M1 =>
  (pR 11 20 10 M1 v0 ((sLen M))).bind fun M2 =>
  (nA 15 M2 ((24 : Int32))).bind fun (q3, M4) =>
  (pR 11 20 11 M4 v0 q3).bind fun M5 =>
  (nA 14 M5 ((48 : Int32))).bind fun (q6, M7) =>
  (pR 11 20 12 M7 v0 q6).bind fun M8 =>
  (nA 14 M8 ((100 : Int32))).bind fun (q9, M10) =>
  (pR 11 20 14 M10 v0 q9).bind fun M11 =>
  (nA 14 M11 ((1200 : Int32))).bind fun (q12, M13) =>
  (pR 11 20 15 M13 v0 q12).bind fun M14 =>
  (nA 14 M14 ((34 : Int32))).bind fun (q15, M16) =>
  (pR 11 20 16 M16 v0 q15).bind fun M17 =>
  (nA 14 M17 ((6 : Int32))).bind fun (q18, M19) =>
  (pR 11 20 18 M19 v0 q18).bind fun M20 =>
  (pI 11 20 19 M20 v0 ((1 : Int32))).bind fun M21 =>
  some M21
def f_X11_init (v0 : Nat) (M0 : sMem) : Option sMem :=
  (f_X10_init ((sLen M0)) (sNew 10 10 M0)).bind fun M22 =>
  (pR 11 20 0 M22 v0 ((sLen M0))).bind fun M23 =>
  (gR 11 20 0 (sNew 5 2 M23) v0).bind fun x24 =>
  (f_X5_init ((sLen M23)) x24 (sNew 5 2 M23)).bind fun M25 =>
  (pR 11 20 1 M25 v0 ((sLen M23))).bind fun M26 =>
  (f_X1_init ((sLen M26)) (sNew 1 10 M26)).bind fun M27 =>
  (pR 11 20 2 M27 v0 ((sLen M26))).bind fun M28 =>
  (f_X1_init ((sLen M28)) (sNew 1 10 M28)).bind fun M29 =>
  (pR 11 20 3 M29 v0 ((sLen M28))).bind fun M30 =>
  (f_X8_init ((sLen M30)) (sNew 8 8 M30)).bind fun M31 =>
  (pR 11 20 4 M31 v0 ((sLen M30))).bind fun M32 =>
  (f_X8_init ((sLen M32)) (sNew 8 8 M32)).bind fun M33 =>
  (pR 11 20 5 M33 v0 ((sLen M32))).bind fun M34 =>
  (nA 17 M34 ((20 : Int32))).bind fun (q35, M36) =>
  (pR 11 20 6 M36 v0 q35).bind fun M37 =>
  (gR 11 20 2 (sNew 0 7 M37) v0).bind fun x38 =>
  (f_X0_init ((sLen M37)) x38 (sNew 0 7 M37)).bind fun M39 =>
  (pR 11 20 9 M39 v0 ((sLen M37))).bind fun M40 =>
  f_X11_init_B98 v0 M40
set_option maxRecDepth 100000 in
set_option maxHeartbeats 4000000 in
theorem m_X11_init (G : sG) (l : Launch) (v0 : Nat) (M0 : sMem) : sCv G l 3 yX11_init cX11_init 1 none [.ref v0] M0 (f_X11_init v0 M0) := by
  refine sC_v (ls := [some (.ref v0)]) (by decide +kernel) rfl (Nat.le_of_ble_eq_true rfl) (fun r M' K hr => ?_)
  unfold f_X11_init
  have xB98 : ∀ (v0 : Nat) (M : sMem), sX G l 3 yX11_init cX11_init 1 none M0 r M' 98 [some (.ref v0)] [] M (f_X11_init_B98 v0 M) K := by
    intro v0 M
    unfold f_X11_init_B98
    refine sX_aload_n (i := 0) (by decide +kernel) rfl ?_
    refine sX_new cw_X11_58 (by decide +kernel) (by decide) ?_
    refine sX_dup (by decide +kernel) rfl ?_
    refine sX_callIv (As := []) (by decide +kernel) lm_X11_60 mf_X3_init mj_X3_init (m_X3_init G l ((sLen M)) (sNew 3 6 M)) (by decide) rfl rfl (Nat.le_of_ble_eq_true rfl) (fun M1 => ?_)
    refine sX_putFR lg_X11_61 rfl tk_11_10 (by decide +kernel) (by decide) (fun M2 => ?_)
    refine sX_aload_n (i := 0) (by decide +kernel) rfl ?_
    refine sX_bipush (n := 24) (v := (24 : Int32)) (by decide +kernel) (by decide) ?_
    refine sX_newa ak_long (by decide +kernel) (by decide) (fun q3 M4 => ?_)
    refine sX_putFR lg_X11_65 rfl tk_11_11 (by decide +kernel) (by decide) (fun M5 => ?_)
    refine sX_aload_n (i := 0) (by decide +kernel) rfl ?_
    refine sX_bipush (n := 48) (v := (48 : Int32)) (by decide +kernel) (by decide) ?_
    refine sX_newa ak_int (by decide +kernel) (by decide) (fun q6 M7 => ?_)
    refine sX_putFR lg_X11_69 rfl tk_11_12 (by decide +kernel) (by decide) (fun M8 => ?_)
    refine sX_aload_n (i := 0) (by decide +kernel) rfl ?_
    refine sX_bipush (n := 100) (v := (100 : Int32)) (by decide +kernel) (by decide) ?_
    refine sX_newa ak_int (by decide +kernel) (by decide) (fun q9 M10 => ?_)
    refine sX_putFR lg_X11_73 rfl tk_11_14 (by decide +kernel) (by decide) (fun M11 => ?_)
    refine sX_aload_n (i := 0) (by decide +kernel) rfl ?_
    refine sX_sipush (n := 1200) (v := (1200 : Int32)) (by decide +kernel) (by decide) ?_
    refine sX_newa ak_int (by decide +kernel) (by decide) (fun q12 M13 => ?_)
    refine sX_putFR lg_X11_76 rfl tk_11_15 (by decide +kernel) (by decide) (fun M14 => ?_)
    refine sX_aload_n (i := 0) (by decide +kernel) rfl ?_
    refine sX_bipush (n := 34) (v := (34 : Int32)) (by decide +kernel) (by decide) ?_
    refine sX_newa ak_int (by decide +kernel) (by decide) (fun q15 M16 => ?_)
    refine sX_putFR lg_X11_79 rfl tk_11_16 (by decide +kernel) (by decide) (fun M17 => ?_)
    refine sX_aload_n (i := 0) (by decide +kernel) rfl ?_
    refine sX_bipush (n := 6) (v := (6 : Int32)) (by decide +kernel) (by decide) ?_
    refine sX_newa ak_int (by decide +kernel) (by decide) (fun q18 M19 => ?_)
    refine sX_putFR lg_X11_82 rfl tk_11_18 (by decide +kernel) (by decide) (fun M20 => ?_)
    refine sX_aload_n (i := 0) (by decide +kernel) rfl ?_
    refine sX_iconst (n := 1) (v := (1 : Int32)) (by decide +kernel) (by decide) ?_
    refine sX_putI lf_X11_85 tp_11_19 (by decide +kernel) (by decide) (fun M21 => ?_)
    exact sX_some (fun h _ => sW_vret (by decide +kernel) rfl (hr _ h).1.symm (hr _ h).2.symm)
  refine sX_aload_n (i := 0) (by decide +kernel) rfl ?_
  refine sX_objI (by decide +kernel) lo_X11_3 oi_ok (by decide) (Nat.le_of_ble_eq_true rfl) ?_
  refine sX_aload_n (i := 0) (by decide +kernel) rfl ?_
  refine sX_new cw_X11_9 (by decide +kernel) (by decide) ?_
  refine sX_dup (by decide +kernel) rfl ?_
  refine sX_callIv (As := []) (by decide +kernel) lm_X11_11 mf_X10_init mj_X10_init (m_X10_init G l ((sLen M0)) (sNew 10 10 M0)) (by decide) rfl rfl (Nat.le_of_ble_eq_true rfl) (fun M22 => ?_)
  refine sX_putFR lg_X11_12 rfl tk_11_0 (by decide +kernel) (by decide) (fun M23 => ?_)
  refine sX_aload_n (i := 0) (by decide +kernel) rfl ?_
  refine sX_new cw_X11_16 (by decide +kernel) (by decide) ?_
  refine sX_dup (by decide +kernel) rfl ?_
  refine sX_aload_n (i := 0) (by decide +kernel) rfl ?_
  refine sX_getR lf_X11_12 tk_11_0 (by decide +kernel) (fun x24 => ?_)
  refine sX_callIv (As := [.ref x24]) (by decide +kernel) lm_X11_18 mf_X5_init mj_X5_init (m_X5_init G l ((sLen M23)) x24 (sNew 5 2 M23)) (by decide) rfl rfl (Nat.le_of_ble_eq_true rfl) (fun M25 => ?_)
  refine sX_putFR lg_X11_21 rfl tk_11_1 (by decide +kernel) (by decide) (fun M26 => ?_)
  refine sX_aload_n (i := 0) (by decide +kernel) rfl ?_
  refine sX_new cw_X11_25 (by decide +kernel) (by decide) ?_
  refine sX_dup (by decide +kernel) rfl ?_
  refine sX_callIv (As := []) (by decide +kernel) lm_X11_27 mf_X1_init mj_X1_init (m_X1_init G l ((sLen M26)) (sNew 1 10 M26)) (by decide) rfl rfl (Nat.le_of_ble_eq_true rfl) (fun M27 => ?_)
  refine sX_putR lf_X11_28 tk_11_2 (by decide +kernel) (by decide) (fun M28 => ?_)
  refine sX_aload_n (i := 0) (by decide +kernel) rfl ?_
  refine sX_new cw_X11_25 (by decide +kernel) (by decide) ?_
  refine sX_dup (by decide +kernel) rfl ?_
  refine sX_callIv (As := []) (by decide +kernel) lm_X11_27 mf_X1_init mj_X1_init (m_X1_init G l ((sLen M28)) (sNew 1 10 M28)) (by decide) rfl rfl (Nat.le_of_ble_eq_true rfl) (fun M29 => ?_)
  refine sX_putR lf_X11_32 tk_11_3 (by decide +kernel) (by decide) (fun M30 => ?_)
  refine sX_aload_n (i := 0) (by decide +kernel) rfl ?_
  refine sX_new cw_X11_35 (by decide +kernel) (by decide) ?_
  refine sX_dup (by decide +kernel) rfl ?_
  refine sX_callIv (As := []) (by decide +kernel) lm_X11_37 mf_X8_init mj_X8_init (m_X8_init G l ((sLen M30)) (sNew 8 8 M30)) (by decide) rfl rfl (Nat.le_of_ble_eq_true rfl) (fun M31 => ?_)
  refine sX_putFR lg_X11_38 rfl tk_11_4 (by decide +kernel) (by decide) (fun M32 => ?_)
  refine sX_aload_n (i := 0) (by decide +kernel) rfl ?_
  refine sX_new cw_X11_35 (by decide +kernel) (by decide) ?_
  refine sX_dup (by decide +kernel) rfl ?_
  refine sX_callIv (As := []) (by decide +kernel) lm_X11_37 mf_X8_init mj_X8_init (m_X8_init G l ((sLen M32)) (sNew 8 8 M32)) (by decide) rfl rfl (Nat.le_of_ble_eq_true rfl) (fun M33 => ?_)
  refine sX_putFR lg_X11_42 rfl tk_11_5 (by decide +kernel) (by decide) (fun M34 => ?_)
  refine sX_aload_n (i := 0) (by decide +kernel) rfl ?_
  refine sX_bipush (n := 20) (v := (20 : Int32)) (by decide +kernel) (by decide) ?_
  refine sX_newS ca_X11_35 (by decide +kernel) (by decide) (fun q35 M36 => ?_)
  refine sX_putFR lg_X11_45 rfl tk_11_6 (by decide +kernel) (by decide) (fun M37 => ?_)
  refine sX_aload_n (i := 0) (by decide +kernel) rfl ?_
  refine sX_new cw_X11_49 (by decide +kernel) (by decide) ?_
  refine sX_dup (by decide +kernel) rfl ?_
  refine sX_aload_n (i := 0) (by decide +kernel) rfl ?_
  refine sX_getR lf_X11_28 tk_11_2 (by decide +kernel) (fun x38 => ?_)
  refine sX_callIv (As := [.ref x38]) (by decide +kernel) lm_X11_51 mf_X0_init mj_X0_init (m_X0_init G l ((sLen M37)) x38 (sNew 0 7 M37)) (by decide) rfl rfl (Nat.le_of_ble_eq_true rfl) (fun M39 => ?_)
  refine sX_putFR lg_X11_54 rfl tk_11_9 (by decide +kernel) (by decide) (fun M40 => ?_)
  exact sX.le (xB98 v0 M40) (sLe_s sLe_e)
def f_X11_refuse (v0 : Nat) (v1 : Int32) (M0 : sMem) : Option (Int32 × sMem) :=
  sRc 11 20 M0 v0 (
    (gR 11 20 18 M0 v0).bind fun x1 =>
    (ldI 14 M0 x1 v1).bind fun x2 =>
    (stI M0 x1 v1 ((x2 + (1 : Int32)))).bind fun M3 =>
    some (((-1 : Int32), M3)))
set_option maxRecDepth 100000 in
set_option maxHeartbeats 4000000 in
theorem m_X11_refuse (G : sG) (l : Launch) (v0 : Nat) (v1 : Int32) (M0 : sMem) : sC G l 1 yX11_refuse cX11_refuse 2 (some .int) [.ref v0, .int v1] M0 rvI (f_X11_refuse v0 v1 M0) := by
  refine sC_m (ls := [some (.ref v0), some (.int v1)]) (by decide +kernel) rfl (Nat.le_of_ble_eq_true rfl) (fun r M' K hr => ?_)
  unfold f_X11_refuse
  refine sX_rc ?_
  refine sX_aload_n (i := 0) (by decide +kernel) rfl ?_
  refine sX_getR lf_X11_82 tk_11_18 (by decide +kernel) (fun x1 => ?_)
  refine sX_iload_n (i := 1) (by decide +kernel) rfl ?_
  refine sX_dup2 (by decide +kernel) rfl rfl ?_
  refine sX_iaload (by decide +kernel) (fun x2 => ?_)
  refine sX_iconst (n := 1) (v := (1 : Int32)) (by decide +kernel) (by decide) ?_
  refine sX_iadd (by decide +kernel) ?_
  refine sX_iastore (by decide +kernel) (by decide) (fun M3 => ?_)
  refine sX_iconst (n := -1) (v := (-1 : Int32)) (by decide +kernel) (by decide) ?_
  exact sX_some (fun h _ => sW_iret (by decide +kernel) rfl (hr _ h).1.symm (hr _ h).2.symm)
def f_X11_feed (v0 : Nat) (v1 : Int32) (v2 : Int32) (v3 : Int32) (v4 : Int32) (v5 : Int32) (M0 : sMem) : Option (Int32 × sMem) :=
  sRc 11 20 M0 v0 (
    (gR 11 20 0 M0 v0).bind fun x1 =>
    (gI 10 10 1 M0 x1).bind fun x2 =>
    if (x2 + (20 : Int32)) ≤ (1600 : Int32) then
      (gR 11 20 0 M0 v0).bind fun x3 =>
      (f_X10_append x3 v1 M0).bind fun M4 =>
      (gR 11 20 0 M4 v0).bind fun x5 =>
      (f_X10_append x5 v2 M4).bind fun M6 =>
      (gR 11 20 0 M6 v0).bind fun x7 =>
      (f_X10_append x7 v3 M6).bind fun M8 =>
      (gR 11 20 0 M8 v0).bind fun x9 =>
      (f_X10_append x9 v4 M8).bind fun M10 =>
      (gR 11 20 0 M10 v0).bind fun x11 =>
      (f_X10_append x11 v5 M10).bind fun M12 =>
      (gR 11 20 0 M12 v0).bind fun x13 =>
      (gI 10 10 1 M12 x13).bind fun x14 =>
      some ((x14, M12))
    else
      (f_X11_refuse v0 ((0 : Int32)) M0).bind fun (x15, M16) =>
      some ((x15, M16)))
set_option maxRecDepth 100000 in
set_option maxHeartbeats 4000000 in
theorem m_X11_feed (G : sG) (l : Launch) (v0 : Nat) (v1 : Int32) (v2 : Int32) (v3 : Int32) (v4 : Int32) (v5 : Int32) (M0 : sMem) : sC G l 2 yX11_feed cX11_feed 6 (some .int) [.ref v0, .int v1, .int v2, .int v3, .int v4, .int v5] M0 rvI (f_X11_feed v0 v1 v2 v3 v4 v5 M0) := by
  refine sC_m (ls := [some (.ref v0), some (.int v1), some (.int v2), some (.int v3), some (.int v4), some (.int v5)]) (by decide +kernel) rfl (Nat.le_of_ble_eq_true rfl) (fun r M' K hr => ?_)
  unfold f_X11_feed
  refine sX_rc ?_
  refine sX_aload_n (i := 0) (by decide +kernel) rfl ?_
  refine sX_getR lf_X11_12 tk_11_0 (by decide +kernel) (fun x1 => ?_)
  refine sX_getI lf_X11_89 tk_10_1 (by decide +kernel) (fun x2 => ?_)
  refine sX_bipush (n := 20) (v := (20 : Int32)) (by decide +kernel) (by decide) ?_
  refine sX_iadd (by decide +kernel) ?_
  refine sX_sipush (n := 1600) (v := (1600 : Int32)) (by decide +kernel) (by decide) ?_
  refine sX_icle (o := 9) (t := 22) (by decide +kernel) (by decide) (fun _ => ?_) (fun _ => ?_)
  · refine sX_aload_n (i := 0) (by decide +kernel) rfl ?_
    refine sX_getR lf_X11_12 tk_11_0 (by decide +kernel) (fun x3 => ?_)
    refine sX_iload_n (i := 1) (by decide +kernel) rfl ?_
    refine sX_callVv (As := [.int v1]) (by decide +kernel) lm_X11_96 mf_X10_append mi_X10_append mc_10 (m_X10_append G l x3 v1 M0) (fun _ h => sRc_some h) (by decide) rfl rfl (Nat.le_of_ble_eq_true rfl) (fun M4 => ?_)
    refine sX_aload_n (i := 0) (by decide +kernel) rfl ?_
    refine sX_getR lf_X11_12 tk_11_0 (by decide +kernel) (fun x5 => ?_)
    refine sX_iload_n (i := 2) (by decide +kernel) rfl ?_
    refine sX_callVv (As := [.int v2]) (by decide +kernel) lm_X11_96 mf_X10_append mi_X10_append mc_10 (m_X10_append G l x5 v2 M4) (fun _ h => sRc_some h) (by decide) rfl rfl (Nat.le_of_ble_eq_true rfl) (fun M6 => ?_)
    refine sX_aload_n (i := 0) (by decide +kernel) rfl ?_
    refine sX_getR lf_X11_12 tk_11_0 (by decide +kernel) (fun x7 => ?_)
    refine sX_iload_n (i := 3) (by decide +kernel) rfl ?_
    refine sX_callVv (As := [.int v3]) (by decide +kernel) lm_X11_96 mf_X10_append mi_X10_append mc_10 (m_X10_append G l x7 v3 M6) (fun _ h => sRc_some h) (by decide) rfl rfl (Nat.le_of_ble_eq_true rfl) (fun M8 => ?_)
    refine sX_aload_n (i := 0) (by decide +kernel) rfl ?_
    refine sX_getR lf_X11_12 tk_11_0 (by decide +kernel) (fun x9 => ?_)
    refine sX_iload (i := 4) (by decide +kernel) rfl ?_
    refine sX_callVv (As := [.int v4]) (by decide +kernel) lm_X11_96 mf_X10_append mi_X10_append mc_10 (m_X10_append G l x9 v4 M8) (fun _ h => sRc_some h) (by decide) rfl rfl (Nat.le_of_ble_eq_true rfl) (fun M10 => ?_)
    refine sX_aload_n (i := 0) (by decide +kernel) rfl ?_
    refine sX_getR lf_X11_12 tk_11_0 (by decide +kernel) (fun x11 => ?_)
    refine sX_iload (i := 5) (by decide +kernel) rfl ?_
    refine sX_callVv (As := [.int v5]) (by decide +kernel) lm_X11_96 mf_X10_append mi_X10_append mc_10 (m_X10_append G l x11 v5 M10) (fun _ h => sRc_some h) (by decide) rfl rfl (Nat.le_of_ble_eq_true rfl) (fun M12 => ?_)
    refine sX_aload_n (i := 0) (by decide +kernel) rfl ?_
    refine sX_getR lf_X11_12 tk_11_0 (by decide +kernel) (fun x13 => ?_)
    refine sX_getI lf_X11_89 tk_10_1 (by decide +kernel) (fun x14 => ?_)
    exact sX_some (fun h _ => sW_iret (by decide +kernel) rfl (hr _ h).1.symm (hr _ h).2.symm)
  · refine sX_aload_n (i := 0) (by decide +kernel) rfl ?_
    refine sX_iconst (n := 0) (v := (0 : Int32)) (by decide +kernel) (by decide) ?_
    refine sX_callV (As := [.int (0 : Int32)]) (by decide +kernel) lm_X11_92 mf_X11_refuse mi_X11_refuse mc_11 (m_X11_refuse G l v0 ((0 : Int32)) M0) (fun _ h => sRc_some h) (by decide) rfl rfl (Nat.le_of_ble_eq_true rfl) (fun x15 M16 _ => ?_)
    exact sX_some (fun h _ => sW_iret (by decide +kernel) rfl (hr _ h).1.symm (hr _ h).2.symm)
def f_X11_end_B15 (v0 : Nat) (M : sMem) : Option (Int32 × sMem) :=
  (f_X11_refuse v0 ((0 : Int32)) M).bind fun (x1, M2) =>
  some (((0 : Int32), M2))
def f_X11_end (v0 : Nat) (v1 : Int32) (M0 : sMem) : Option (Int32 × sMem) :=
  sRc 11 20 M0 v0 (
    if v1 < 0 then
      f_X11_end_B15 v0 M0
    else
      (gR 11 20 0 M0 v0).bind fun x3 =>
      (gI 10 10 1 M0 x3).bind fun x4 =>
      if v1 ≤ x4 then
        (gR 11 20 0 M0 v0).bind fun x5 =>
        (pI 10 10 1 M0 x5 v1).bind fun M6 =>
        some (((1 : Int32), M6))
      else
        f_X11_end_B15 v0 M0)
set_option maxRecDepth 100000 in
set_option maxHeartbeats 4000000 in
theorem m_X11_end (G : sG) (l : Launch) (v0 : Nat) (v1 : Int32) (M0 : sMem) : sC G l 2 yX11_end cX11_end 2 (some .boolean) [.ref v0, .int v1] M0 rvI (f_X11_end v0 v1 M0) := by
  refine sC_m (ls := [some (.ref v0), some (.int v1)]) (by decide +kernel) rfl (Nat.le_of_ble_eq_true rfl) (fun r M' K hr => ?_)
  unfold f_X11_end
  have xB15 : ∀ (v0 : Nat) (M : sMem), sX G l 2 yX11_end cX11_end 2 (some .boolean) M0 r M' 15 [some (.ref v0), none] [] M (f_X11_end_B15 v0 M) K := by
    intro v0 M
    unfold f_X11_end_B15
    refine sX_aload_n (i := 0) (by decide +kernel) rfl ?_
    refine sX_iconst (n := 0) (v := (0 : Int32)) (by decide +kernel) (by decide) ?_
    refine sX_callV (As := [.int (0 : Int32)]) (by decide +kernel) lm_X11_92 mf_X11_refuse mi_X11_refuse mc_11 (m_X11_refuse G l v0 ((0 : Int32)) M) (fun _ h => sRc_some h) (by decide) rfl rfl (Nat.le_of_ble_eq_true rfl) (fun x1 M2 _ => ?_)
    refine sX_pop (by decide +kernel) rfl ?_
    refine sX_iconst (n := 0) (v := (0 : Int32)) (by decide +kernel) (by decide) ?_
    exact sX_some (fun h _ => sW_zret (by decide +kernel) rfl (by decide) (hr _ h).1.symm (hr _ h).2.symm)
  refine sX_rc ?_
  refine sX_iload_n (i := 1) (by decide +kernel) rfl ?_
  refine sX_iflt (o := 14) (t := 15) (by decide +kernel) (by decide) (fun _ => ?_) (fun _ => ?_)
  · exact sX.le (xB15 v0 M0) (sLe_s (sLe_n sLe_e))
  · refine sX_iload_n (i := 1) (by decide +kernel) rfl ?_
    refine sX_aload_n (i := 0) (by decide +kernel) rfl ?_
    refine sX_getR lf_X11_12 tk_11_0 (by decide +kernel) (fun x3 => ?_)
    refine sX_getI lf_X11_89 tk_10_1 (by decide +kernel) (fun x4 => ?_)
    refine sX_icle (o := 11) (t := 23) (by decide +kernel) (by decide) (fun _ => ?_) (fun _ => ?_)
    · refine sX_aload_n (i := 0) (by decide +kernel) rfl ?_
      refine sX_getR lf_X11_12 tk_11_0 (by decide +kernel) (fun x5 => ?_)
      refine sX_iload_n (i := 1) (by decide +kernel) rfl ?_
      refine sX_putI lf_X11_89 tp_10_1 (by decide +kernel) (by decide) (fun M6 => ?_)
      refine sX_iconst (n := 1) (v := (1 : Int32)) (by decide +kernel) (by decide) ?_
      exact sX_some (fun h _ => sW_zret (by decide +kernel) rfl (by decide) (hr _ h).1.symm (hr _ h).2.symm)
    · exact sX.le (xB15 v0 M0) (sLe_s (sLe_n sLe_e))
def f_X11_district (v0 : Nat) (M0 : sMem) : Option (Int32 × sMem) :=
  sRc 11 20 M0 v0 (
    (gR 11 20 1 M0 v0).bind fun x1 =>
    (gR 11 20 3 M0 v0).bind fun x2 =>
    (f_X5_readDistrict x1 x2 M0).bind fun (x3, M4) =>
    (gR 11 20 0 M4 v0).bind fun x5 =>
    (pI 10 10 1 M4 x5 ((0 : Int32))).bind fun M6 =>
    if x3 = (-1 : Int32) then
      (f_X11_refuse v0 ((1 : Int32)) M6).bind fun (x7, M8) =>
      some ((x7, M8))
    else
      (gR 11 20 2 M6 v0).bind fun x9 =>
      (gR 11 20 3 M6 v0).bind fun x10 =>
      (pR 11 20 2 M6 v0 x10).bind fun M11 =>
      (pR 11 20 3 M11 v0 x9).bind fun M12 =>
      (gR 11 20 9 M12 v0).bind fun x13 =>
      (gR 11 20 2 M12 v0).bind fun x14 =>
      (f_X0_take x13 x14 M12).bind fun M15 =>
      (gR 11 20 4 M15 v0).bind fun x16 =>
      (gR 11 20 2 M15 v0).bind fun x17 =>
      (f_X8_start x16 x17 M15).bind fun M18 =>
      (pI 11 20 7 M18 v0 ((0 : Int32))).bind fun M19 =>
      (pI 11 20 13 M19 v0 ((0 : Int32))).bind fun M20 =>
      some ((x3, M20)))
set_option maxRecDepth 100000 in
set_option maxHeartbeats 4000000 in
theorem m_X11_district (G : sG) (l : Launch) (v0 : Nat) (M0 : sMem) : sC G l 72 yX11_district cX11_district 3 (some .int) [.ref v0] M0 rvI (f_X11_district v0 M0) := by
  refine sC_m (ls := [some (.ref v0), none, none]) (by decide +kernel) rfl (Nat.le_of_ble_eq_true rfl) (fun r M' K hr => ?_)
  unfold f_X11_district
  refine sX_rc ?_
  refine sX_aload_n (i := 0) (by decide +kernel) rfl ?_
  refine sX_getR lf_X11_21 tk_11_1 (by decide +kernel) (fun x1 => ?_)
  refine sX_aload_n (i := 0) (by decide +kernel) rfl ?_
  refine sX_getR lf_X11_32 tk_11_3 (by decide +kernel) (fun x2 => ?_)
  refine sX_callV (As := [.ref x2]) (by decide +kernel) lm_X11_100 mf_X5_readDistrict mi_X5_readDistrict mc_5 (m_X5_readDistrict G l x1 x2 M0) (fun _ h => sRc_some h) (by decide) rfl rfl (Nat.le_of_ble_eq_true rfl) (fun x3 M4 _ => ?_)
  refine sX_istore_n (i := 1) (ls2 := [some (.ref v0), some (.int x3), none]) (by decide +kernel) (by decide) rfl ?_
  refine sX_aload_n (i := 0) (by decide +kernel) rfl ?_
  refine sX_getR lf_X11_12 tk_11_0 (by decide +kernel) (fun x5 => ?_)
  refine sX_iconst (n := 0) (v := (0 : Int32)) (by decide +kernel) (by decide) ?_
  refine sX_putI lf_X11_89 tp_10_1 (by decide +kernel) (by decide) (fun M6 => ?_)
  refine sX_iload_n (i := 1) (by decide +kernel) rfl ?_
  refine sX_iconst (n := -1) (v := (-1 : Int32)) (by decide +kernel) (by decide) ?_
  refine sX_icne (o := 9) (t := 31) (by decide +kernel) (by decide) (fun _ => ?_) (fun _ => ?_)
  · refine sX_aload_n (i := 0) (by decide +kernel) rfl ?_
    refine sX_iconst (n := 1) (v := (1 : Int32)) (by decide +kernel) (by decide) ?_
    refine sX_callV (As := [.int (1 : Int32)]) (by decide +kernel) lm_X11_92 mf_X11_refuse mi_X11_refuse mc_11 (m_X11_refuse G l v0 ((1 : Int32)) M6) (fun _ h => sRc_some h) (by decide) rfl rfl (Nat.le_of_ble_eq_true rfl) (fun x7 M8 _ => ?_)
    exact sX_some (fun h _ => sW_iret (by decide +kernel) rfl (hr _ h).1.symm (hr _ h).2.symm)
  · refine sX_aload_n (i := 0) (by decide +kernel) rfl ?_
    refine sX_getR lf_X11_28 tk_11_2 (by decide +kernel) (fun x9 => ?_)
    refine sX_astore_n (i := 2) (ls2 := [some (.ref v0), some (.int x3), some (.ref x9)]) (by decide +kernel) (by decide) rfl ?_
    refine sX_aload_n (i := 0) (by decide +kernel) rfl ?_
    refine sX_aload_n (i := 0) (by decide +kernel) rfl ?_
    refine sX_getR lf_X11_32 tk_11_3 (by decide +kernel) (fun x10 => ?_)
    refine sX_putR lf_X11_28 tk_11_2 (by decide +kernel) (by decide) (fun M11 => ?_)
    refine sX_aload_n (i := 0) (by decide +kernel) rfl ?_
    refine sX_aload_n (i := 2) (by decide +kernel) rfl ?_
    refine sX_putR lf_X11_32 tk_11_3 (by decide +kernel) (by decide) (fun M12 => ?_)
    refine sX_aload_n (i := 0) (by decide +kernel) rfl ?_
    refine sX_getR lf_X11_54 tk_11_9 (by decide +kernel) (fun x13 => ?_)
    refine sX_aload_n (i := 0) (by decide +kernel) rfl ?_
    refine sX_getR lf_X11_28 tk_11_2 (by decide +kernel) (fun x14 => ?_)
    refine sX_callVv (As := [.ref x14]) (by decide +kernel) lm_X11_104 mf_X0_take mi_X0_take mc_0 (m_X0_take G l x13 x14 M12) (fun _ h => sRc_some h) (by decide) rfl rfl (Nat.le_of_ble_eq_true rfl) (fun M15 => ?_)
    refine sX_aload_n (i := 0) (by decide +kernel) rfl ?_
    refine sX_getR lf_X11_38 tk_11_4 (by decide +kernel) (fun x16 => ?_)
    refine sX_aload_n (i := 0) (by decide +kernel) rfl ?_
    refine sX_getR lf_X11_28 tk_11_2 (by decide +kernel) (fun x17 => ?_)
    refine sX_callVv (As := [.ref x17]) (by decide +kernel) lm_X11_107 mf_X8_start mi_X8_start mc_8 (m_X8_start G l x16 x17 M15) (fun _ h => sRc_some h) (by decide) rfl rfl (Nat.le_of_ble_eq_true rfl) (fun M18 => ?_)
    refine sX_aload_n (i := 0) (by decide +kernel) rfl ?_
    refine sX_iconst (n := 0) (v := (0 : Int32)) (by decide +kernel) (by decide) ?_
    refine sX_putI lf_X11_110 tp_11_7 (by decide +kernel) (by decide) (fun M19 => ?_)
    refine sX_aload_n (i := 0) (by decide +kernel) rfl ?_
    refine sX_iconst (n := 0) (v := (0 : Int32)) (by decide +kernel) (by decide) ?_
    refine sX_putI lf_X11_113 tp_11_13 (by decide +kernel) (by decide) (fun M20 => ?_)
    refine sX_iload_n (i := 1) (by decide +kernel) rfl ?_
    exact sX_some (fun h _ => sW_iret (by decide +kernel) rfl (hr _ h).1.symm (hr _ h).2.symm)
def f_X11_fault (v0 : Nat) (v1 : Int32) (M0 : sMem) : Option Int32 :=
  sRc 11 20 M0 v0 (
    if v1 = 0 then
      (gR 11 20 0 M0 v0).bind fun x1 =>
      (gI 10 10 8 M0 x1).bind fun x2 =>
      some x2
    else
      if v1 = (1 : Int32) then
        (gR 11 20 0 M0 v0).bind fun x3 =>
        (gI 10 10 9 M0 x3).bind fun x4 =>
        some x4
      else
        some ((-1 : Int32)))
set_option maxRecDepth 100000 in
set_option maxHeartbeats 4000000 in
theorem m_X11_fault (G : sG) (l : Launch) (v0 : Nat) (v1 : Int32) (M0 : sMem) : sCp G l 1 yX11_fault cX11_fault 2 (some .int) [.ref v0, .int v1] M0 rvI (f_X11_fault v0 v1 M0) := by
  refine sC_p (ls := [some (.ref v0), some (.int v1)]) (by decide +kernel) rfl (Nat.le_of_ble_eq_true rfl) (fun r M' K hr => ?_)
  unfold f_X11_fault
  refine sX_rc ?_
  refine sX_iload_n (i := 1) (by decide +kernel) rfl ?_
  refine sX_ifne (o := 13) (t := 14) (by decide +kernel) (by decide) (fun _ => ?_) (fun _ => ?_)
  · refine sX_aload_n (i := 0) (by decide +kernel) rfl ?_
    refine sX_getR lf_X11_12 tk_11_0 (by decide +kernel) (fun x1 => ?_)
    refine sX_getI lf_X11_116 tk_10_8 (by decide +kernel) (fun x2 => ?_)
    refine sX_goto (o := 19) (t := 30) (by decide +kernel) (by decide) ?_
    exact sX_some (fun h _ => sW_iret (by decide +kernel) rfl (hr _ h).1.symm (hr _ h).2.symm)
  · refine sX_iload_n (i := 1) (by decide +kernel) rfl ?_
    refine sX_iconst (n := 1) (v := (1 : Int32)) (by decide +kernel) (by decide) ?_
    refine sX_icne (o := 13) (t := 29) (by decide +kernel) (by decide) (fun _ => ?_) (fun _ => ?_)
    · refine sX_aload_n (i := 0) (by decide +kernel) rfl ?_
      refine sX_getR lf_X11_12 tk_11_0 (by decide +kernel) (fun x3 => ?_)
      refine sX_getI lf_X11_119 tk_10_9 (by decide +kernel) (fun x4 => ?_)
      refine sX_goto (o := 4) (t := 30) (by decide +kernel) (by decide) ?_
      exact sX_some (fun h _ => sW_iret (by decide +kernel) rfl (hr _ h).1.symm (hr _ h).2.symm)
    · refine sX_iconst (n := -1) (v := (-1 : Int32)) (by decide +kernel) (by decide) ?_
      exact sX_some (fun h _ => sW_iret (by decide +kernel) rfl (hr _ h).1.symm (hr _ h).2.symm)
def f_J6_bitCount_0f7a4 (v0 : Int32) (M0 : sMem) : Option Int32 :=
  some (((((((((v0 - ((v0.toUInt32 >>> (((1 : Int32)).toUInt32 &&& Int32.toUInt32 31)).toInt32 &&& (1431655765 : Int32))) &&& (858993459 : Int32)) + ((((v0 - ((v0.toUInt32 >>> (((1 : Int32)).toUInt32 &&& Int32.toUInt32 31)).toInt32 &&& (1431655765 : Int32)))).toUInt32 >>> (((2 : Int32)).toUInt32 &&& Int32.toUInt32 31)).toInt32 &&& (858993459 : Int32))) + (((((v0 - ((v0.toUInt32 >>> (((1 : Int32)).toUInt32 &&& Int32.toUInt32 31)).toInt32 &&& (1431655765 : Int32))) &&& (858993459 : Int32)) + ((((v0 - ((v0.toUInt32 >>> (((1 : Int32)).toUInt32 &&& Int32.toUInt32 31)).toInt32 &&& (1431655765 : Int32)))).toUInt32 >>> (((2 : Int32)).toUInt32 &&& Int32.toUInt32 31)).toInt32 &&& (858993459 : Int32)))).toUInt32 >>> (((4 : Int32)).toUInt32 &&& Int32.toUInt32 31)).toInt32) &&& (252645135 : Int32)) + (((((((v0 - ((v0.toUInt32 >>> (((1 : Int32)).toUInt32 &&& Int32.toUInt32 31)).toInt32 &&& (1431655765 : Int32))) &&& (858993459 : Int32)) + ((((v0 - ((v0.toUInt32 >>> (((1 : Int32)).toUInt32 &&& Int32.toUInt32 31)).toInt32 &&& (1431655765 : Int32)))).toUInt32 >>> (((2 : Int32)).toUInt32 &&& Int32.toUInt32 31)).toInt32 &&& (858993459 : Int32))) + (((((v0 - ((v0.toUInt32 >>> (((1 : Int32)).toUInt32 &&& Int32.toUInt32 31)).toInt32 &&& (1431655765 : Int32))) &&& (858993459 : Int32)) + ((((v0 - ((v0.toUInt32 >>> (((1 : Int32)).toUInt32 &&& Int32.toUInt32 31)).toInt32 &&& (1431655765 : Int32)))).toUInt32 >>> (((2 : Int32)).toUInt32 &&& Int32.toUInt32 31)).toInt32 &&& (858993459 : Int32)))).toUInt32 >>> (((4 : Int32)).toUInt32 &&& Int32.toUInt32 31)).toInt32) &&& (252645135 : Int32))).toUInt32 >>> (((8 : Int32)).toUInt32 &&& Int32.toUInt32 31)).toInt32) + ((((((((v0 - ((v0.toUInt32 >>> (((1 : Int32)).toUInt32 &&& Int32.toUInt32 31)).toInt32 &&& (1431655765 : Int32))) &&& (858993459 : Int32)) + ((((v0 - ((v0.toUInt32 >>> (((1 : Int32)).toUInt32 &&& Int32.toUInt32 31)).toInt32 &&& (1431655765 : Int32)))).toUInt32 >>> (((2 : Int32)).toUInt32 &&& Int32.toUInt32 31)).toInt32 &&& (858993459 : Int32))) + (((((v0 - ((v0.toUInt32 >>> (((1 : Int32)).toUInt32 &&& Int32.toUInt32 31)).toInt32 &&& (1431655765 : Int32))) &&& (858993459 : Int32)) + ((((v0 - ((v0.toUInt32 >>> (((1 : Int32)).toUInt32 &&& Int32.toUInt32 31)).toInt32 &&& (1431655765 : Int32)))).toUInt32 >>> (((2 : Int32)).toUInt32 &&& Int32.toUInt32 31)).toInt32 &&& (858993459 : Int32)))).toUInt32 >>> (((4 : Int32)).toUInt32 &&& Int32.toUInt32 31)).toInt32) &&& (252645135 : Int32)) + (((((((v0 - ((v0.toUInt32 >>> (((1 : Int32)).toUInt32 &&& Int32.toUInt32 31)).toInt32 &&& (1431655765 : Int32))) &&& (858993459 : Int32)) + ((((v0 - ((v0.toUInt32 >>> (((1 : Int32)).toUInt32 &&& Int32.toUInt32 31)).toInt32 &&& (1431655765 : Int32)))).toUInt32 >>> (((2 : Int32)).toUInt32 &&& Int32.toUInt32 31)).toInt32 &&& (858993459 : Int32))) + (((((v0 - ((v0.toUInt32 >>> (((1 : Int32)).toUInt32 &&& Int32.toUInt32 31)).toInt32 &&& (1431655765 : Int32))) &&& (858993459 : Int32)) + ((((v0 - ((v0.toUInt32 >>> (((1 : Int32)).toUInt32 &&& Int32.toUInt32 31)).toInt32 &&& (1431655765 : Int32)))).toUInt32 >>> (((2 : Int32)).toUInt32 &&& Int32.toUInt32 31)).toInt32 &&& (858993459 : Int32)))).toUInt32 >>> (((4 : Int32)).toUInt32 &&& Int32.toUInt32 31)).toInt32) &&& (252645135 : Int32))).toUInt32 >>> (((8 : Int32)).toUInt32 &&& Int32.toUInt32 31)).toInt32)).toUInt32 >>> (((16 : Int32)).toUInt32 &&& Int32.toUInt32 31)).toInt32) &&& (63 : Int32)))
set_option maxRecDepth 100000 in
set_option maxHeartbeats 4000000 in
theorem m_J6_bitCount_0f7a4 (G : sG) (l : Launch) (v0 : Int32) (M0 : sMem) : sCp G l 1 yJ6_bitCount_0f7a4 cJ6_bitCount_0f7a4 1 (some .int) [.int v0] M0 rvI (f_J6_bitCount_0f7a4 v0 M0) := by
  refine sC_p (ls := [some (.int v0)]) (by decide +kernel) rfl (Nat.le_of_ble_eq_true rfl) (fun r M' K hr => ?_)
  unfold f_J6_bitCount_0f7a4
  refine sX_iload_n (i := 0) (by decide +kernel) rfl ?_
  refine sX_iload_n (i := 0) (by decide +kernel) rfl ?_
  refine sX_iconst (n := 1) (v := (1 : Int32)) (by decide +kernel) (by decide) ?_
  refine sX_iushr (by decide +kernel) ?_
  refine sX_ldcw (v := (1431655765 : Int32)) (by decide +kernel) kc_J6_265 ?_
  refine sX_iand (by decide +kernel) ?_
  refine sX_isub (by decide +kernel) ?_
  refine sX_istore_n (i := 0) (ls2 := [some (.int (v0 - ((v0.toUInt32 >>> (((1 : Int32)).toUInt32 &&& Int32.toUInt32 31)).toInt32 &&& (1431655765 : Int32))))]) (by decide +kernel) (by decide) rfl ?_
  refine sX_iload_n (i := 0) (by decide +kernel) rfl ?_
  refine sX_ldcw (v := (858993459 : Int32)) (by decide +kernel) kc_J6_266 ?_
  refine sX_iand (by decide +kernel) ?_
  refine sX_iload_n (i := 0) (by decide +kernel) rfl ?_
  refine sX_iconst (n := 2) (v := (2 : Int32)) (by decide +kernel) (by decide) ?_
  refine sX_iushr (by decide +kernel) ?_
  refine sX_ldcw (v := (858993459 : Int32)) (by decide +kernel) kc_J6_266 ?_
  refine sX_iand (by decide +kernel) ?_
  refine sX_iadd (by decide +kernel) ?_
  refine sX_istore_n (i := 0) (ls2 := [some (.int (((v0 - ((v0.toUInt32 >>> (((1 : Int32)).toUInt32 &&& Int32.toUInt32 31)).toInt32 &&& (1431655765 : Int32))) &&& (858993459 : Int32)) + ((((v0 - ((v0.toUInt32 >>> (((1 : Int32)).toUInt32 &&& Int32.toUInt32 31)).toInt32 &&& (1431655765 : Int32)))).toUInt32 >>> (((2 : Int32)).toUInt32 &&& Int32.toUInt32 31)).toInt32 &&& (858993459 : Int32))))]) (by decide +kernel) (by decide) rfl ?_
  refine sX_iload_n (i := 0) (by decide +kernel) rfl ?_
  refine sX_iload_n (i := 0) (by decide +kernel) rfl ?_
  refine sX_iconst (n := 4) (v := (4 : Int32)) (by decide +kernel) (by decide) ?_
  refine sX_iushr (by decide +kernel) ?_
  refine sX_iadd (by decide +kernel) ?_
  refine sX_ldcw (v := (252645135 : Int32)) (by decide +kernel) kc_J6_267 ?_
  refine sX_iand (by decide +kernel) ?_
  refine sX_istore_n (i := 0) (ls2 := [some (.int (((((v0 - ((v0.toUInt32 >>> (((1 : Int32)).toUInt32 &&& Int32.toUInt32 31)).toInt32 &&& (1431655765 : Int32))) &&& (858993459 : Int32)) + ((((v0 - ((v0.toUInt32 >>> (((1 : Int32)).toUInt32 &&& Int32.toUInt32 31)).toInt32 &&& (1431655765 : Int32)))).toUInt32 >>> (((2 : Int32)).toUInt32 &&& Int32.toUInt32 31)).toInt32 &&& (858993459 : Int32))) + (((((v0 - ((v0.toUInt32 >>> (((1 : Int32)).toUInt32 &&& Int32.toUInt32 31)).toInt32 &&& (1431655765 : Int32))) &&& (858993459 : Int32)) + ((((v0 - ((v0.toUInt32 >>> (((1 : Int32)).toUInt32 &&& Int32.toUInt32 31)).toInt32 &&& (1431655765 : Int32)))).toUInt32 >>> (((2 : Int32)).toUInt32 &&& Int32.toUInt32 31)).toInt32 &&& (858993459 : Int32)))).toUInt32 >>> (((4 : Int32)).toUInt32 &&& Int32.toUInt32 31)).toInt32) &&& (252645135 : Int32)))]) (by decide +kernel) (by decide) rfl ?_
  refine sX_iload_n (i := 0) (by decide +kernel) rfl ?_
  refine sX_iload_n (i := 0) (by decide +kernel) rfl ?_
  refine sX_bipush (n := 8) (v := (8 : Int32)) (by decide +kernel) (by decide) ?_
  refine sX_iushr (by decide +kernel) ?_
  refine sX_iadd (by decide +kernel) ?_
  refine sX_istore_n (i := 0) (ls2 := [some (.int ((((((v0 - ((v0.toUInt32 >>> (((1 : Int32)).toUInt32 &&& Int32.toUInt32 31)).toInt32 &&& (1431655765 : Int32))) &&& (858993459 : Int32)) + ((((v0 - ((v0.toUInt32 >>> (((1 : Int32)).toUInt32 &&& Int32.toUInt32 31)).toInt32 &&& (1431655765 : Int32)))).toUInt32 >>> (((2 : Int32)).toUInt32 &&& Int32.toUInt32 31)).toInt32 &&& (858993459 : Int32))) + (((((v0 - ((v0.toUInt32 >>> (((1 : Int32)).toUInt32 &&& Int32.toUInt32 31)).toInt32 &&& (1431655765 : Int32))) &&& (858993459 : Int32)) + ((((v0 - ((v0.toUInt32 >>> (((1 : Int32)).toUInt32 &&& Int32.toUInt32 31)).toInt32 &&& (1431655765 : Int32)))).toUInt32 >>> (((2 : Int32)).toUInt32 &&& Int32.toUInt32 31)).toInt32 &&& (858993459 : Int32)))).toUInt32 >>> (((4 : Int32)).toUInt32 &&& Int32.toUInt32 31)).toInt32) &&& (252645135 : Int32)) + (((((((v0 - ((v0.toUInt32 >>> (((1 : Int32)).toUInt32 &&& Int32.toUInt32 31)).toInt32 &&& (1431655765 : Int32))) &&& (858993459 : Int32)) + ((((v0 - ((v0.toUInt32 >>> (((1 : Int32)).toUInt32 &&& Int32.toUInt32 31)).toInt32 &&& (1431655765 : Int32)))).toUInt32 >>> (((2 : Int32)).toUInt32 &&& Int32.toUInt32 31)).toInt32 &&& (858993459 : Int32))) + (((((v0 - ((v0.toUInt32 >>> (((1 : Int32)).toUInt32 &&& Int32.toUInt32 31)).toInt32 &&& (1431655765 : Int32))) &&& (858993459 : Int32)) + ((((v0 - ((v0.toUInt32 >>> (((1 : Int32)).toUInt32 &&& Int32.toUInt32 31)).toInt32 &&& (1431655765 : Int32)))).toUInt32 >>> (((2 : Int32)).toUInt32 &&& Int32.toUInt32 31)).toInt32 &&& (858993459 : Int32)))).toUInt32 >>> (((4 : Int32)).toUInt32 &&& Int32.toUInt32 31)).toInt32) &&& (252645135 : Int32))).toUInt32 >>> (((8 : Int32)).toUInt32 &&& Int32.toUInt32 31)).toInt32))]) (by decide +kernel) (by decide) rfl ?_
  refine sX_iload_n (i := 0) (by decide +kernel) rfl ?_
  refine sX_iload_n (i := 0) (by decide +kernel) rfl ?_
  refine sX_bipush (n := 16) (v := (16 : Int32)) (by decide +kernel) (by decide) ?_
  refine sX_iushr (by decide +kernel) ?_
  refine sX_iadd (by decide +kernel) ?_
  refine sX_istore_n (i := 0) (ls2 := [some (.int (((((((v0 - ((v0.toUInt32 >>> (((1 : Int32)).toUInt32 &&& Int32.toUInt32 31)).toInt32 &&& (1431655765 : Int32))) &&& (858993459 : Int32)) + ((((v0 - ((v0.toUInt32 >>> (((1 : Int32)).toUInt32 &&& Int32.toUInt32 31)).toInt32 &&& (1431655765 : Int32)))).toUInt32 >>> (((2 : Int32)).toUInt32 &&& Int32.toUInt32 31)).toInt32 &&& (858993459 : Int32))) + (((((v0 - ((v0.toUInt32 >>> (((1 : Int32)).toUInt32 &&& Int32.toUInt32 31)).toInt32 &&& (1431655765 : Int32))) &&& (858993459 : Int32)) + ((((v0 - ((v0.toUInt32 >>> (((1 : Int32)).toUInt32 &&& Int32.toUInt32 31)).toInt32 &&& (1431655765 : Int32)))).toUInt32 >>> (((2 : Int32)).toUInt32 &&& Int32.toUInt32 31)).toInt32 &&& (858993459 : Int32)))).toUInt32 >>> (((4 : Int32)).toUInt32 &&& Int32.toUInt32 31)).toInt32) &&& (252645135 : Int32)) + (((((((v0 - ((v0.toUInt32 >>> (((1 : Int32)).toUInt32 &&& Int32.toUInt32 31)).toInt32 &&& (1431655765 : Int32))) &&& (858993459 : Int32)) + ((((v0 - ((v0.toUInt32 >>> (((1 : Int32)).toUInt32 &&& Int32.toUInt32 31)).toInt32 &&& (1431655765 : Int32)))).toUInt32 >>> (((2 : Int32)).toUInt32 &&& Int32.toUInt32 31)).toInt32 &&& (858993459 : Int32))) + (((((v0 - ((v0.toUInt32 >>> (((1 : Int32)).toUInt32 &&& Int32.toUInt32 31)).toInt32 &&& (1431655765 : Int32))) &&& (858993459 : Int32)) + ((((v0 - ((v0.toUInt32 >>> (((1 : Int32)).toUInt32 &&& Int32.toUInt32 31)).toInt32 &&& (1431655765 : Int32)))).toUInt32 >>> (((2 : Int32)).toUInt32 &&& Int32.toUInt32 31)).toInt32 &&& (858993459 : Int32)))).toUInt32 >>> (((4 : Int32)).toUInt32 &&& Int32.toUInt32 31)).toInt32) &&& (252645135 : Int32))).toUInt32 >>> (((8 : Int32)).toUInt32 &&& Int32.toUInt32 31)).toInt32) + ((((((((v0 - ((v0.toUInt32 >>> (((1 : Int32)).toUInt32 &&& Int32.toUInt32 31)).toInt32 &&& (1431655765 : Int32))) &&& (858993459 : Int32)) + ((((v0 - ((v0.toUInt32 >>> (((1 : Int32)).toUInt32 &&& Int32.toUInt32 31)).toInt32 &&& (1431655765 : Int32)))).toUInt32 >>> (((2 : Int32)).toUInt32 &&& Int32.toUInt32 31)).toInt32 &&& (858993459 : Int32))) + (((((v0 - ((v0.toUInt32 >>> (((1 : Int32)).toUInt32 &&& Int32.toUInt32 31)).toInt32 &&& (1431655765 : Int32))) &&& (858993459 : Int32)) + ((((v0 - ((v0.toUInt32 >>> (((1 : Int32)).toUInt32 &&& Int32.toUInt32 31)).toInt32 &&& (1431655765 : Int32)))).toUInt32 >>> (((2 : Int32)).toUInt32 &&& Int32.toUInt32 31)).toInt32 &&& (858993459 : Int32)))).toUInt32 >>> (((4 : Int32)).toUInt32 &&& Int32.toUInt32 31)).toInt32) &&& (252645135 : Int32)) + (((((((v0 - ((v0.toUInt32 >>> (((1 : Int32)).toUInt32 &&& Int32.toUInt32 31)).toInt32 &&& (1431655765 : Int32))) &&& (858993459 : Int32)) + ((((v0 - ((v0.toUInt32 >>> (((1 : Int32)).toUInt32 &&& Int32.toUInt32 31)).toInt32 &&& (1431655765 : Int32)))).toUInt32 >>> (((2 : Int32)).toUInt32 &&& Int32.toUInt32 31)).toInt32 &&& (858993459 : Int32))) + (((((v0 - ((v0.toUInt32 >>> (((1 : Int32)).toUInt32 &&& Int32.toUInt32 31)).toInt32 &&& (1431655765 : Int32))) &&& (858993459 : Int32)) + ((((v0 - ((v0.toUInt32 >>> (((1 : Int32)).toUInt32 &&& Int32.toUInt32 31)).toInt32 &&& (1431655765 : Int32)))).toUInt32 >>> (((2 : Int32)).toUInt32 &&& Int32.toUInt32 31)).toInt32 &&& (858993459 : Int32)))).toUInt32 >>> (((4 : Int32)).toUInt32 &&& Int32.toUInt32 31)).toInt32) &&& (252645135 : Int32))).toUInt32 >>> (((8 : Int32)).toUInt32 &&& Int32.toUInt32 31)).toInt32)).toUInt32 >>> (((16 : Int32)).toUInt32 &&& Int32.toUInt32 31)).toInt32))]) (by decide +kernel) (by decide) rfl ?_
  refine sX_iload_n (i := 0) (by decide +kernel) rfl ?_
  refine sX_bipush (n := 63) (v := (63 : Int32)) (by decide +kernel) (by decide) ?_
  refine sX_iand (by decide +kernel) ?_
  exact sX_some (fun h _ => sW_iret (by decide +kernel) rfl (hr _ h).1.symm (hr _ h).2.symm)
