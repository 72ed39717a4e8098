def f_X2_init (v0 : Nat) (M0 : sMem) : Option sMem :=
  (nA 14 M0 ((33 : Int32))).bind fun (q1, M2) =>
  (pR 2 5 0 M2 v0 q1).bind fun M3 =>
  (nA 14 M3 ((6 : Int32))).bind fun (q4, M5) =>
  (pR 2 5 1 M5 v0 q4).bind fun M6 =>
  (nA 14 M6 ((7 : Int32))).bind fun (q7, M8) =>
  (pR 2 5 2 M8 v0 q7).bind fun M9 =>
  (nA 14 M9 ((64 : Int32))).bind fun (q10, M11) =>
  (pR 2 5 3 M11 v0 q10).bind fun M12 =>
  some M12
set_option maxRecDepth 100000 in
set_option maxHeartbeats 4000000 in
theorem m_X2_init (G : sG) (l : Launch) (v0 : Nat) (M0 : sMem) : sCv G l 1 yX2_init cX2_init 1 none [.ref v0] M0 (f_X2_init v0 M0) := by
  refine sC_v (ls := [some (.ref v0)]) (by decide +kernel) rfl (Nat.le_of_ble_eq_true rfl) (fun r M' K hr => ?_)
  unfold f_X2_init
  refine sX_aload_n (i := 0) (by decide +kernel) rfl ?_
  refine sX_objI (by decide +kernel) lo_X2_3 oi_ok (by decide) (Nat.le_of_ble_eq_true rfl) ?_
  refine sX_aload_n (i := 0) (by decide +kernel) rfl ?_
  refine sX_bipush (n := 33) (v := (33 : Int32)) (by decide +kernel) (by decide) ?_
  refine sX_newa ak_int (by decide +kernel) (by decide) (fun q1 M2 => ?_)
  refine sX_putFR lg_X2_9 rfl tk_2_0 (by decide +kernel) (by decide) (fun M3 => ?_)
  refine sX_aload_n (i := 0) (by decide +kernel) rfl ?_
  refine sX_bipush (n := 6) (v := (6 : Int32)) (by decide +kernel) (by decide) ?_
  refine sX_newa ak_int (by decide +kernel) (by decide) (fun q4 M5 => ?_)
  refine sX_putFR lg_X2_15 rfl tk_2_1 (by decide +kernel) (by decide) (fun M6 => ?_)
  refine sX_aload_n (i := 0) (by decide +kernel) rfl ?_
  refine sX_bipush (n := 7) (v := (7 : Int32)) (by decide +kernel) (by decide) ?_
  refine sX_newa ak_int (by decide +kernel) (by decide) (fun q7 M8 => ?_)
  refine sX_putFR lg_X2_18 rfl tk_2_2 (by decide +kernel) (by decide) (fun M9 => ?_)
  refine sX_aload_n (i := 0) (by decide +kernel) rfl ?_
  refine sX_bipush (n := 64) (v := (64 : Int32)) (by decide +kernel) (by decide) ?_
  refine sX_newa ak_int (by decide +kernel) (by decide) (fun q10 M11 => ?_)
  refine sX_putFR lg_X2_21 rfl tk_2_3 (by decide +kernel) (by decide) (fun M12 => ?_)
  exact sX_some (fun h _ => sW_vret (by decide +kernel) rfl (hr _ h).1.symm (hr _ h).2.symm)
def f_X4_init (v0 : Nat) (v1 : Nat) (v2 : Nat) (M0 : sMem) : Option sMem :=
  (nA 18 M0 ((500 : Int32))).bind fun (q1, M2) =>
  (pR 4 5 2 M2 v0 q1).bind fun M3 =>
  (nA 14 M3 ((500 : Int32))).bind fun (q4, M5) =>
  (pR 4 5 3 M5 v0 q4).bind fun M6 =>
  (nA 15 M6 ((24 : Int32))).bind fun (q7, M8) =>
  (pR 4 5 4 M8 v0 q7).bind fun M9 =>
  (pR 4 5 0 M9 v0 v1).bind fun M10 =>
  (pR 4 5 1 M10 v0 v2).bind fun M11 =>
  some M11
set_option maxRecDepth 100000 in
set_option maxHeartbeats 4000000 in
theorem m_X4_init (G : sG) (l : Launch) (v0 : Nat) (v1 : Nat) (v2 : Nat) (M0 : sMem) : sCv G l 1 yX4_init cX4_init 3 none [.ref v0, .ref v1, .ref v2] M0 (f_X4_init v0 v1 v2 M0) := by
  refine sC_v (ls := [some (.ref v0), some (.ref v1), some (.ref v2)]) (by decide +kernel) rfl (Nat.le_of_ble_eq_true rfl) (fun r M' K hr => ?_)
  unfold f_X4_init
  refine sX_aload_n (i := 0) (by decide +kernel) rfl ?_
  refine sX_objI (by decide +kernel) lo_X4_3 oi_ok (by decide) (Nat.le_of_ble_eq_true rfl) ?_
  refine sX_aload_n (i := 0) (by decide +kernel) rfl ?_
  refine sX_sipush (n := 500) (v := (500 : Int32)) (by decide +kernel) (by decide) ?_
  refine sX_newL ca_X4_9 (by decide +kernel) (by decide) (fun q1 M2 => ?_)
  refine sX_putFR lg_X4_11 rfl tk_4_2 (by decide +kernel) (by decide) (fun M3 => ?_)
  refine sX_aload_n (i := 0) (by decide +kernel) rfl ?_
  refine sX_sipush (n := 500) (v := (500 : Int32)) (by decide +kernel) (by decide) ?_
  refine sX_newa ak_int (by decide +kernel) (by decide) (fun q4 M5 => ?_)
  refine sX_putFR lg_X4_17 rfl tk_4_3 (by decide +kernel) (by decide) (fun M6 => ?_)
  refine sX_aload_n (i := 0) (by decide +kernel) rfl ?_
  refine sX_bipush (n := 24) (v := (24 : Int32)) (by decide +kernel) (by decide) ?_
  refine sX_newa ak_long (by decide +kernel) (by decide) (fun q7 M8 => ?_)
  refine sX_putFR lg_X4_21 rfl tk_4_4 (by decide +kernel) (by decide) (fun M9 => ?_)
  refine sX_aload_n (i := 0) (by decide +kernel) rfl ?_
  refine sX_aload_n (i := 1) (by decide +kernel) rfl ?_
  refine sX_putFR lg_X4_24 rfl tk_4_0 (by decide +kernel) (by decide) (fun M10 => ?_)
  refine sX_aload_n (i := 0) (by decide +kernel) rfl ?_
  refine sX_aload_n (i := 2) (by decide +kernel) rfl ?_
  refine sX_putR lf_X4_28 tk_4_1 (by decide +kernel) (by decide) (fun M11 => ?_)
  exact sX_some (fun h _ => sW_vret (by decide +kernel) rfl (hr _ h).1.symm (hr _ h).2.symm)
def f_X7_init (v0 : Nat) (v1 : Nat) (M0 : sMem) : Option sMem :=
  (nA 14 M0 ((7 : Int32))).bind fun (q1, M2) =>
  (pR 7 2 0 M2 v0 q1).bind fun M3 =>
  (pR 7 2 1 M3 v0 v1).bind fun M4 =>
  some M4
set_option maxRecDepth 100000 in
set_option maxHeartbeats 4000000 in
theorem m_X7_init (G : sG) (l : Launch) (v0 : Nat) (v1 : Nat) (M0 : sMem) : sCv G l 1 yX7_init cX7_init 2 none [.ref v0, .ref v1] M0 (f_X7_init v0 v1 M0) := by
  refine sC_v (ls := [some (.ref v0), some (.ref v1)]) (by decide +kernel) rfl (Nat.le_of_ble_eq_true rfl) (fun r M' K hr => ?_)
  unfold f_X7_init
  refine sX_aload_n (i := 0) (by decide +kernel) rfl ?_
  refine sX_objI (by decide +kernel) lo_X7_3 oi_ok (by decide) (Nat.le_of_ble_eq_true rfl) ?_
  refine sX_aload_n (i := 0) (by decide +kernel) rfl ?_
  refine sX_bipush (n := 7) (v := (7 : Int32)) (by decide +kernel) (by decide) ?_
  refine sX_newa ak_int (by decide +kernel) (by decide) (fun q1 M2 => ?_)
  refine sX_putFR lg_X7_9 rfl tk_7_0 (by decide +kernel) (by decide) (fun M3 => ?_)
  refine sX_aload_n (i := 0) (by decide +kernel) rfl ?_
  refine sX_aload_n (i := 1) (by decide +kernel) rfl ?_
  refine sX_putR lf_X7_15 tk_7_1 (by decide +kernel) (by decide) (fun M4 => ?_)
  exact sX_some (fun h _ => sW_vret (by decide +kernel) rfl (hr _ h).1.symm (hr _ h).2.symm)
def f_X0_init (v0 : Nat) (v1 : Nat) (M0 : sMem) : Option sMem :=
  (f_X2_init ((sLen M0)) (sNew 2 5 M0)).bind fun M1 =>
  (pR 0 7 0 M1 v0 ((sLen M0))).bind fun M2 =>
  (nA 15 M2 ((24 : Int32))).bind fun (q3, M4) =>
  (pR 0 7 4 M4 v0 q3).bind fun M5 =>
  (nA 15 M5 ((24 : Int32))).bind fun (q6, M7) =>
  (pR 0 7 5 M7 v0 q6).bind fun M8 =>
  (nA 14 M8 ((5 : Int32))).bind fun (q9, M10) =>
  (pR 0 7 6 M10 v0 q9).bind fun M11 =>
  (pR 0 7 3 M11 v0 v1).bind fun M12 =>
  (gR 0 7 0 (sNew 4 5 M12) v0).bind fun x13 =>
  (f_X4_init ((sLen M12)) x13 v1 (sNew 4 5 M12)).bind fun M14 =>
  (pR 0 7 1 M14 v0 ((sLen M12))).bind fun M15 =>
  (f_X7_init ((sLen M15)) v1 (sNew 7 2 M15)).bind fun M16 =>
  (pR 0 7 2 M16 v0 ((sLen M15))).bind fun M17 =>
  some M17
set_option maxRecDepth 100000 in
set_option maxHeartbeats 4000000 in
theorem m_X0_init (G : sG) (l : Launch) (v0 : Nat) (v1 : Nat) (M0 : sMem) : sCv G l 2 yX0_init cX0_init 2 none [.ref v0, .ref v1] M0 (f_X0_init v0 v1 M0) := by
  refine sC_v (ls := [some (.ref v0), some (.ref v1)]) (by decide +kernel) rfl (Nat.le_of_ble_eq_true rfl) (fun r M' K hr => ?_)
  unfold f_X0_init
  refine sX_aload_n (i := 0) (by decide +kernel) rfl ?_
  refine sX_objI (by decide +kernel) lo_X0_3 oi_ok (by decide) (Nat.le_of_ble_eq_true rfl) ?_
  refine sX_aload_n (i := 0) (by decide +kernel) rfl ?_
  refine sX_new cw_X0_9 (by decide +kernel) (by decide) ?_
  refine sX_dup (by decide +kernel) rfl ?_
  refine sX_callIv (As := []) (by decide +kernel) lm_X0_11 mf_X2_init mj_X2_init (m_X2_init G l ((sLen M0)) (sNew 2 5 M0)) (by decide) rfl rfl (Nat.le_of_ble_eq_true rfl) (fun M1 => ?_)
  refine sX_putFR lg_X0_12 rfl tk_0_0 (by decide +kernel) (by decide) (fun M2 => ?_)
  refine sX_aload_n (i := 0) (by decide +kernel) rfl ?_
  refine sX_bipush (n := 24) (v := (24 : Int32)) (by decide +kernel) (by decide) ?_
  refine sX_newa ak_long (by decide +kernel) (by decide) (fun q3 M4 => ?_)
  refine sX_putFR lg_X0_18 rfl tk_0_4 (by decide +kernel) (by decide) (fun M5 => ?_)
  refine sX_aload_n (i := 0) (by decide +kernel) rfl ?_
  refine sX_bipush (n := 24) (v := (24 : Int32)) (by decide +kernel) (by decide) ?_
  refine sX_newa ak_long (by decide +kernel) (by decide) (fun q6 M7 => ?_)
  refine sX_putFR lg_X0_22 rfl tk_0_5 (by decide +kernel) (by decide) (fun M8 => ?_)
  refine sX_aload_n (i := 0) (by decide +kernel) rfl ?_
  refine sX_iconst (n := 5) (v := (5 : Int32)) (by decide +kernel) (by decide) ?_
  refine sX_newa ak_int (by decide +kernel) (by decide) (fun q9 M10 => ?_)
  refine sX_putFR lg_X0_25 rfl tk_0_6 (by decide +kernel) (by decide) (fun M11 => ?_)
  refine sX_aload_n (i := 0) (by decide +kernel) rfl ?_
  refine sX_aload_n (i := 1) (by decide +kernel) rfl ?_
  refine sX_putR lf_X0_29 tk_0_3 (by decide +kernel) (by decide) (fun M12 => ?_)
  refine sX_aload_n (i := 0) (by decide +kernel) rfl ?_
  refine sX_new cw_X0_33 (by decide +kernel) (by decide) ?_
  refine sX_dup (by decide +kernel) rfl ?_
  refine sX_aload_n (i := 0) (by decide +kernel) rfl ?_
  refine sX_getR lf_X0_12 tk_0_0 (by decide +kernel) (fun x13 => ?_)
  refine sX_aload_n (i := 1) (by decide +kernel) rfl ?_
  refine sX_callIv (As := [.ref x13, .ref v1]) (by decide +kernel) lm_X0_35 mf_X4_init mj_X4_init (m_X4_init G l ((sLen M12)) x13 v1 (sNew 4 5 M12)) (by decide) rfl rfl (Nat.le_of_ble_eq_true rfl) (fun M14 => ?_)
  refine sX_putFR lg_X0_38 rfl tk_0_1 (by decide +kernel) (by decide) (fun M15 => ?_)
  refine sX_aload_n (i := 0) (by decide +kernel) rfl ?_
  refine sX_new cw_X0_42 (by decide +kernel) (by decide) ?_
  refine sX_dup (by decide +kernel) rfl ?_
  refine sX_aload_n (i := 1) (by decide +kernel) rfl ?_
  refine sX_callIv (As := [.ref v1]) (by decide +kernel) lm_X0_44 mf_X7_init mj_X7_init (m_X7_init G l ((sLen M15)) v1 (sNew 7 2 M15)) (by decide) rfl rfl (Nat.le_of_ble_eq_true rfl) (fun M16 => ?_)
  refine sX_putFR lg_X0_47 rfl tk_0_2 (by decide +kernel) (by decide) (fun M17 => ?_)
  exact sX_some (fun h _ => sW_vret (by decide +kernel) rfl (hr _ h).1.symm (hr _ h).2.symm)
def f_J7_fill_53178_K5 (v0 : Nat) (v1 : Int32) (v3 : Int32) (v2 : Int32) (M : sMem) : Option ((Int32 × sMem) ⊕ ((sMem))) :=
  if v3 ≤ v2 then
    some (.inr M)
  else
    (stI M v0 v2 v1).bind fun M1 =>
    some (.inl ((((v2 + (1 : Int32))), M1)))
def f_J7_fill_53178_L5 (v0 : Nat) (v1 : Int32) (v2 : Int32) (v3 : Int32) (M : sMem) : Option sMem :=
  (sItr (fun a : (Int32 × sMem) => f_J7_fill_53178_K5 v0 v1 v3 a.1 a.2) sFuel (v2, M)).bind (fun b => some b)
def f_J7_fill_53178 (v0 : Nat) (v1 : Int32) (M0 : sMem) : Option sMem :=
  (aL 14 M0 v0).bind fun x2 =>
  f_J7_fill_53178_L5 v0 v1 ((0 : Int32)) x2 M0
set_option maxRecDepth 100000 in
set_option maxHeartbeats 4000000 in
theorem m_J7_fill_53178 (G : sG) (l : Launch) (v0 : Nat) (v1 : Int32) (M0 : sMem) : sCv G l 1 yJ7_fill_53178 cJ7_fill_53178 4 none [.ref v0, .int v1] M0 (f_J7_fill_53178 v0 v1 M0) := by
  refine sC_v (ls := [some (.ref v0), some (.int v1), none, none]) (by decide +kernel) rfl (Nat.le_of_ble_eq_true rfl) (fun r M' K hr => ?_)
  unfold f_J7_fill_53178
  have xL5 : ∀ (v0 : Nat) (v1 : Int32) (v2 : Int32) (v3 : Int32) (M : sMem), sX G l 1 yJ7_fill_53178 cJ7_fill_53178 4 none M0 r M' 5 [some (.ref v0), some (.int v1), some (.int v2), some (.int v3)] [] M (f_J7_fill_53178_L5 v0 v1 v2 v3 M) K := by
    intro v0 v1 v2 v3 M
    unfold f_J7_fill_53178_L5
    refine sX_bind ?_
    refine sX_loop (LS := fun a : (Int32 × sMem) => [some (.ref v0), some (.int v1), some (.int a.1), some (.int v3)]) (MM := fun a => a.2) (fun K1 hb1 he1 => ?_) sFuel ((v2, M))
    have xK5 : ∀ (v2 : Int32) (M : sMem), sX G l 1 yJ7_fill_53178 cJ7_fill_53178 4 none M0 r M' 5 [some (.ref v0), some (.int v1), some (.int v2), some (.int v3)] [] M (f_J7_fill_53178_K5 v0 v1 v3 v2 M) K1 := by
      intro v2 M
      unfold f_J7_fill_53178_K5
      refine sX_iload_n (i := 2) (by decide +kernel) rfl ?_
      refine sX_iload_n (i := 3) (by decide +kernel) rfl ?_
      refine sX_icge (o := 13) (t := 20) (by decide +kernel) (by decide) (fun _ => ?_) (fun _ => ?_)
      · refine sX_exit he1 ?_
        exact sX_some (fun h _ => sW_vret (by decide +kernel) rfl (hr _ h).1.symm (hr _ h).2.symm)
      · refine sX_aload_n (i := 0) (by decide +kernel) rfl ?_
        refine sX_iload_n (i := 2) (by decide +kernel) rfl ?_
        refine sX_iload_n (i := 1) (by decide +kernel) rfl ?_
        refine sX_iastore (by decide +kernel) (by decide) (fun M1 => ?_)
        refine sX_iinc (i := 2) (n := 1) (v := v2 + (1 : Int32)) (ls2 := [some (.ref v0), some (.int v1), some (.int (v2 + (1 : Int32))), some (.int v3)]) (by decide +kernel) rfl rfl (by decide) rfl ?_
        refine sX_goto (o := -12) (t := 5) (by decide +kernel) (by decide) ?_
        exact sX_back (a := (((v2 + (1 : Int32))), M1)) hb1 rfl (sLe_s (sLe_s (sLe_s (sLe_s sLe_e))))
    exact fun a => xK5 a.1 a.2
  refine sX_iconst (n := 0) (v := (0 : Int32)) (by decide +kernel) (by decide) ?_
  refine sX_istore_n (i := 2) (ls2 := [some (.ref v0), some (.int v1), some (.int (0 : Int32)), none]) (by decide +kernel) (by decide) rfl ?_
  refine sX_aload_n (i := 0) (by decide +kernel) rfl ?_
  refine sX_alen (by decide) (by decide) (by decide +kernel) (fun x2 => ?_)
  refine sX_istore_n (i := 3) (ls2 := [some (.ref v0), some (.int v1), some (.int (0 : Int32)), some (.int x2)]) (by decide +kernel) (by decide) rfl ?_
  exact sX.le (xL5 v0 v1 ((0 : Int32)) x2 M0) (sLe_s (sLe_s (sLe_s (sLe_s sLe_e))))
def f_X4_take (v0 : Nat) (v1 : Nat) (M0 : sMem) : Option sMem :=
  sRc 4 5 M0 v0 (
    (pR 4 5 1 M0 v0 v1).bind fun M1 =>
    (gR 4 5 3 M1 v0).bind fun x2 =>
    (f_J7_fill_53178 x2 ((0 : Int32)) M1).bind fun M3 =>
    some M3)
set_option maxRecDepth 100000 in
set_option maxHeartbeats 4000000 in
theorem m_X4_take (G : sG) (l : Launch) (v0 : Nat) (v1 : Nat) (M0 : sMem) : sCv G l 2 yX4_take cX4_take 2 none [.ref v0, .ref v1] M0 (f_X4_take v0 v1 M0) := by
  refine sC_v (ls := [some (.ref v0), some (.ref v1)]) (by decide +kernel) rfl (Nat.le_of_ble_eq_true rfl) (fun r M' K hr => ?_)
  unfold f_X4_take
  refine sX_rc ?_
  refine sX_aload_n (i := 0) (by decide +kernel) rfl ?_
  refine sX_aload_n (i := 1) (by decide +kernel) rfl ?_
  refine sX_putR lf_X4_28 tk_4_1 (by decide +kernel) (by decide) (fun M1 => ?_)
  refine sX_aload_n (i := 0) (by decide +kernel) rfl ?_
  refine sX_getR lf_X4_17 tk_4_3 (by decide +kernel) (fun x2 => ?_)
  refine sX_iconst (n := 0) (v := (0 : Int32)) (by decide +kernel) (by decide) ?_
  refine sX_callSv (As := [.ref x2, .int (0 : Int32)]) (by decide +kernel) lm_X4_32 mf_J7_fill_53178 ms_J7_fill_53178 (m_J7_fill_53178 G l x2 ((0 : Int32)) M1) (by decide) rfl rfl (Nat.le_of_ble_eq_true rfl) (fun M3 => ?_)
  exact sX_some (fun h _ => sW_vret (by decide +kernel) rfl (hr _ h).1.symm (hr _ h).2.symm)
def f_X0_take (v0 : Nat) (v1 : Nat) (M0 : sMem) : Option sMem :=
  sRc 0 7 M0 v0 (
    (pR 0 7 3 M0 v0 v1).bind fun M1 =>
    (gR 0 7 2 M1 v0).bind fun x2 =>
    (pR 7 2 1 M1 x2 v1).bind fun M3 =>
    (gR 0 7 1 M3 v0).bind fun x4 =>
    (f_X4_take x4 v1 M3).bind fun M5 =>
    some M5)
set_option maxRecDepth 100000 in
set_option maxHeartbeats 4000000 in
theorem m_X0_take (G : sG) (l : Launch) (v0 : Nat) (v1 : Nat) (M0 : sMem) : sCv G l 3 yX0_take cX0_take 2 none [.ref v0, .ref v1] M0 (f_X0_take v0 v1 M0) := by
  refine sC_v (ls := [some (.ref v0), some (.ref v1)]) (by decide +kernel) rfl (Nat.le_of_ble_eq_true rfl) (fun r M' K hr => ?_)
  unfold f_X0_take
  refine sX_rc ?_
  refine sX_aload_n (i := 0) (by decide +kernel) rfl ?_
  refine sX_aload_n (i := 1) (by decide +kernel) rfl ?_
  refine sX_putR lf_X0_29 tk_0_3 (by decide +kernel) (by decide) (fun M1 => ?_)
  refine sX_aload_n (i := 0) (by decide +kernel) rfl ?_
  refine sX_getR lf_X0_47 tk_0_2 (by decide +kernel) (fun x2 => ?_)
  refine sX_aload_n (i := 1) (by decide +kernel) rfl ?_
  refine sX_putR lf_X0_51 tk_7_1 (by decide +kernel) (by decide) (fun M3 => ?_)
  refine sX_aload_n (i := 0) (by decide +kernel) rfl ?_
  refine sX_getR lf_X0_38 tk_0_1 (by decide +kernel) (fun x4 => ?_)
  refine sX_aload_n (i := 1) (by decide +kernel) rfl ?_
  refine sX_callVv (As := [.ref v1]) (by decide +kernel) lm_X0_52 mf_X4_take mi_X4_take mc_4 (m_X4_take G l x4 v1 M3) (fun _ h => sRc_some h) (by decide) rfl rfl (Nat.le_of_ble_eq_true rfl) (fun M5 => ?_)
  exact sX_some (fun h _ => sW_vret (by decide +kernel) rfl (hr _ h).1.symm (hr _ h).2.symm)
def f_X9_isThere (v0 : Nat) (v1 : Int32) (M0 : sMem) : Option Int32 :=
  sRc 9 4 M0 v0 (
    if v1 < 0 then
      some ((0 : Int32))
    else
      (gI 9 4 3 M0 v0).bind fun x1 =>
      if x1 ≤ v1 then
        some ((0 : Int32))
      else
        some ((1 : Int32)))
set_option maxRecDepth 100000 in
set_option maxHeartbeats 4000000 in
theorem m_X9_isThere (G : sG) (l : Launch) (v0 : Nat) (v1 : Int32) (M0 : sMem) : sCp G l 1 yX9_isThere cX9_isThere 2 (some .boolean) [.ref v0, .int v1] M0 rvI (f_X9_isThere v0 v1 M0) := by
  refine sC_p (ls := [some (.ref v0), some (.int v1)]) (by decide +kernel) rfl (Nat.le_of_ble_eq_true rfl) (fun r M' K hr => ?_)
  unfold f_X9_isThere
  refine sX_rc ?_
  refine sX_iload_n (i := 1) (by decide +kernel) rfl ?_
  refine sX_iflt (o := 15) (t := 16) (by decide +kernel) (by decide) (fun _ => ?_) (fun _ => ?_)
  · refine sX_iconst (n := 0) (v := (0 : Int32)) (by decide +kernel) (by decide) ?_
    exact sX_some (fun h _ => sW_zret (by decide +kernel) rfl (by decide) (hr _ h).1.symm (hr _ h).2.symm)
  · refine sX_iload_n (i := 1) (by decide +kernel) rfl ?_
    refine sX_aload_n (i := 0) (by decide +kernel) rfl ?_
    refine sX_getI lf_X9_22 tk_9_3 (by decide +kernel) (fun x1 => ?_)
    refine sX_icge (o := 7) (t := 16) (by decide +kernel) (by decide) (fun _ => ?_) (fun _ => ?_)
    · refine sX_iconst (n := 0) (v := (0 : Int32)) (by decide +kernel) (by decide) ?_
      exact sX_some (fun h _ => sW_zret (by decide +kernel) rfl (by decide) (hr _ h).1.symm (hr _ h).2.symm)
    · refine sX_iconst (n := 1) (v := (1 : Int32)) (by decide +kernel) (by decide) ?_
      refine sX_goto (o := 4) (t := 17) (by decide +kernel) (by decide) ?_
      exact sX_some (fun h _ => sW_zret (by decide +kernel) rfl (by decide) (hr _ h).1.symm (hr _ h).2.symm)
def f_X7_nearest_B64 (v0 : Nat) (v1 : Int32) (v2 : Int32) (v3 : Int32) (M0 : sMem) : Option ((Int32 × Int32) ⊕ ((Int32))) :=
  some (.inl ((v2, ((v3 + (1 : Int32))))))
def f_X7_nearest_B62 (v0 : Nat) (v1 : Int32) (v3 : Int32) (M0 : sMem) : Option ((Int32 × Int32) ⊕ ((Int32))) :=
  f_X7_nearest_B64 v0 v1 v3 v3 M0
def f_X7_nearest_B35 (v0 : Nat) (v1 : Int32) (v2 : Int32) (v3 : Int32) (s0 : Int32) (M0 : sMem) : Option ((Int32 × Int32) ⊕ ((Int32))) :=
  if s0 = 0 then
    f_X7_nearest_B64 v0 v1 v2 v3 M0
  else
    if v2 = (-1 : Int32) then
      f_X7_nearest_B62 v0 v1 v3 M0
    else
      (gR 7 2 0 M0 v0).bind fun x1 =>
      (ldI 14 M0 x1 v3).bind fun x2 =>
      (gR 7 2 0 M0 v0).bind fun x3 =>
      (ldI 14 M0 x3 v2).bind fun x4 =>
      if x4 ≤ x2 then
        f_X7_nearest_B64 v0 v1 v2 v3 M0
      else
        f_X7_nearest_B62 v0 v1 v3 M0
def f_X7_nearest_B34 (v0 : Nat) (v1 : Int32) (v2 : Int32) (v3 : Int32) (M0 : sMem) : Option ((Int32 × Int32) ⊕ ((Int32))) :=
  f_X7_nearest_B35 v0 v1 v2 v3 ((0 : Int32)) M0
def f_X7_nearest_K4 (v0 : Nat) (v1 : Int32) (v2 : Int32) (v3 : Int32) (M0 : sMem) : Option ((Int32 × Int32) ⊕ ((Int32))) :=
  if (7 : Int32) ≤ v3 then
    some (.inr v2)
  else
    if ((v1 >>> (v3 &&& 31)) &&& (1 : Int32)) = 0 then
      (gR 7 2 0 M0 v0).bind fun x5 =>
      (ldI 14 M0 x5 v3).bind fun x6 =>
      if (200 : Int32) ≤ x6 then
        f_X7_nearest_B34 v0 v1 v2 v3 M0
      else
        f_X7_nearest_B35 v0 v1 v2 v3 ((1 : Int32)) M0
    else
      f_X7_nearest_B34 v0 v1 v2 v3 M0
def f_X7_nearest_L4 (v0 : Nat) (v1 : Int32) (v2 : Int32) (v3 : Int32) (M0 : sMem) : Option Int32 :=
  (sItr (fun a : (Int32 × Int32) => f_X7_nearest_K4 v0 v1 a.1 a.2 M0) sFuel (v2, v3)).bind (fun b => some b)
def f_X7_nearest (v0 : Nat) (v1 : Int32) (M0 : sMem) : Option Int32 :=
  sRc 7 2 M0 v0 (
    f_X7_nearest_L4 v0 v1 ((-1 : Int32)) ((0 : Int32)) M0)
set_option maxRecDepth 100000 in
set_option maxHeartbeats 4000000 in
theorem m_X7_nearest (G : sG) (l : Launch) (v0 : Nat) (v1 : Int32) (M0 : sMem) : sCp G l 1 yX7_nearest cX7_nearest 5 (some .int) [.ref v0, .int v1] M0 rvI (f_X7_nearest v0 v1 M0) := by
  refine sC_p (ls := [some (.ref v0), some (.int v1), none, none, none]) (by decide +kernel) rfl (Nat.le_of_ble_eq_true rfl) (fun r M' K hr => ?_)
  unfold f_X7_nearest
  have xL4 : ∀ (v0 : Nat) (v1 : Int32) (v2 : Int32) (v3 : Int32), sX G l 1 yX7_nearest cX7_nearest 5 (some .int) M0 r M' 4 [some (.ref v0), some (.int v1), some (.int v2), some (.int v3), none] [] M0 (f_X7_nearest_L4 v0 v1 v2 v3 M0) K := by
    intro v0 v1 v2 v3
    unfold f_X7_nearest_L4
    refine sX_bind ?_
    refine sX_loop (LS := fun a : (Int32 × Int32) => [some (.ref v0), some (.int v1), some (.int a.1), some (.int a.2), none]) (MM := fun a => M0) (fun K1 hb1 he1 => ?_) sFuel ((v2, v3))
    have xB64 : ∀ (v2 : Int32) (v3 : Int32), sX G l 1 yX7_nearest cX7_nearest 5 (some .int) M0 r M' 64 [some (.ref v0), some (.int v1), some (.int v2), some (.int v3), none] [] M0 (f_X7_nearest_B64 v0 v1 v2 v3 M0) K1 := by
      intro v2 v3
      unfold f_X7_nearest_B64
      refine sX_iinc (i := 3) (n := 1) (v := v3 + (1 : Int32)) (ls2 := [some (.ref v0), some (.int v1), some (.int v2), some (.int (v3 + (1 : Int32))), none]) (by decide +kernel) rfl rfl (by decide) rfl ?_
      refine sX_goto (o := -63) (t := 4) (by decide +kernel) (by decide) ?_
      exact sX_back (a := (v2, ((v3 + (1 : Int32))))) hb1 rfl (sLe_s (sLe_s (sLe_s (sLe_s (sLe_n sLe_e)))))
    have xB62 : ∀ (v3 : Int32), sX G l 1 yX7_nearest cX7_nearest 5 (some .int) M0 r M' 62 [some (.ref v0), some (.int v1), none, some (.int v3), none] [] M0 (f_X7_nearest_B62 v0 v1 v3 M0) K1 := by
      intro v3
      unfold f_X7_nearest_B62
      refine sX_iload_n (i := 3) (by decide +kernel) rfl ?_
      refine sX_istore_n (i := 2) (ls2 := [some (.ref v0), some (.int v1), some (.int v3), some (.int v3), none]) (by decide +kernel) (by decide) rfl ?_
      exact sX.le (xB64 v3 v3) (sLe_s (sLe_s (sLe_s (sLe_s (sLe_n sLe_e)))))
    have xB35 : ∀ (v2 : Int32) (v3 : Int32) (s0 : Int32), sX G l 1 yX7_nearest cX7_nearest 5 (some .int) M0 r M' 35 [some (.ref v0), some (.int v1), some (.int v2), some (.int v3), none] [.int s0] M0 (f_X7_nearest_B35 v0 v1 v2 v3 s0 M0) K1 := by
      intro v2 v3 s0
      unfold f_X7_nearest_B35
      refine sX_istore (i := 4) (ls2 := [some (.ref v0), some (.int v1), some (.int v2), some (.int v3), some (.int s0)]) (by decide +kernel) (by decide) rfl ?_
      refine sX_iload (i := 4) (by decide +kernel) rfl ?_
      refine sX_ifeq (o := 25) (t := 64) (by decide +kernel) (by decide) (fun _ => ?_) (fun _ => ?_)
      · exact sX.le (xB64 v2 v3) (sLe_s (sLe_s (sLe_s (sLe_s (sLe_n sLe_e)))))
      · refine sX_iload_n (i := 2) (by decide +kernel) rfl ?_
        refine sX_iconst (n := -1) (v := (-1 : Int32)) (by decide +kernel) (by decide) ?_
        refine sX_iceq (o := 18) (t := 62) (by decide +kernel) (by decide) (fun _ => ?_) (fun _ => ?_)
        · exact sX.le (xB62 v3) (sLe_s (sLe_s (sLe_n (sLe_s (sLe_n sLe_e)))))
        · refine sX_aload_n (i := 0) (by decide +kernel) rfl ?_
          refine sX_getR lf_X7_9 tk_7_0 (by decide +kernel) (fun x1 => ?_)
          refine sX_iload_n (i := 3) (by decide +kernel) rfl ?_
          refine sX_iaload (by decide +kernel) (fun x2 => ?_)
          refine sX_aload_n (i := 0) (by decide +kernel) rfl ?_
          refine sX_getR lf_X7_9 tk_7_0 (by decide +kernel) (fun x3 => ?_)
          refine sX_iload_n (i := 2) (by decide +kernel) rfl ?_
          refine sX_iaload (by decide +kernel) (fun x4 => ?_)
          refine sX_icge (o := 5) (t := 64) (by decide +kernel) (by decide) (fun _ => ?_) (fun _ => ?_)
          · exact sX.le (xB64 v2 v3) (sLe_s (sLe_s (sLe_s (sLe_s (sLe_n sLe_e)))))
          · exact sX.le (xB62 v3) (sLe_s (sLe_s (sLe_n (sLe_s (sLe_n sLe_e)))))
    have xB34 : ∀ (v2 : Int32) (v3 : Int32), sX G l 1 yX7_nearest cX7_nearest 5 (some .int) M0 r M' 34 [some (.ref v0), some (.int v1), some (.int v2), some (.int v3), none] [] M0 (f_X7_nearest_B34 v0 v1 v2 v3 M0) K1 := by
      intro v2 v3
      unfold f_X7_nearest_B34
      refine sX_iconst (n := 0) (v := (0 : Int32)) (by decide +kernel) (by decide) ?_
      exact sX.le (xB35 v2 v3 ((0 : Int32))) (sLe_s (sLe_s (sLe_s (sLe_s (sLe_n sLe_e)))))
    have xK4 : ∀ (v2 : Int32) (v3 : Int32), sX G l 1 yX7_nearest cX7_nearest 5 (some .int) M0 r M' 4 [some (.ref v0), some (.int v1), some (.int v2), some (.int v3), none] [] M0 (f_X7_nearest_K4 v0 v1 v2 v3 M0) K1 := by
      intro v2 v3
      unfold f_X7_nearest_K4
      refine sX_iload_n (i := 3) (by decide +kernel) rfl ?_
      refine sX_bipush (n := 7) (v := (7 : Int32)) (by decide +kernel) (by decide) ?_
      refine sX_icge (o := 63) (t := 70) (by decide +kernel) (by decide) (fun _ => ?_) (fun _ => ?_)
      · refine sX_iload_n (i := 2) (by decide +kernel) rfl ?_
        refine sX_exit he1 ?_
        exact sX_some (fun h _ => sW_iret (by decide +kernel) rfl (hr _ h).1.symm (hr _ h).2.symm)
      · refine sX_iload_n (i := 1) (by decide +kernel) rfl ?_
        refine sX_iload_n (i := 3) (by decide +kernel) rfl ?_
        refine sX_ishr (by decide +kernel) ?_
        refine sX_iconst (n := 1) (v := (1 : Int32)) (by decide +kernel) (by decide) ?_
        refine sX_iand (by decide +kernel) ?_
        refine sX_ifne (o := 19) (t := 34) (by decide +kernel) (by decide) (fun _ => ?_) (fun _ => ?_)
        · refine sX_aload_n (i := 0) (by decide +kernel) rfl ?_
          refine sX_getR lf_X7_9 tk_7_0 (by decide +kernel) (fun x5 => ?_)
          refine sX_iload_n (i := 3) (by decide +kernel) rfl ?_
          refine sX_iaload (by decide +kernel) (fun x6 => ?_)
          refine sX_sipush (n := 200) (v := (200 : Int32)) (by decide +kernel) (by decide) ?_
          refine sX_icge (o := 7) (t := 34) (by decide +kernel) (by decide) (fun _ => ?_) (fun _ => ?_)
          · exact sX.le (xB34 v2 v3) (sLe_s (sLe_s (sLe_s (sLe_s (sLe_n sLe_e)))))
          · refine sX_iconst (n := 1) (v := (1 : Int32)) (by decide +kernel) (by decide) ?_
            refine sX_goto (o := 4) (t := 35) (by decide +kernel) (by decide) ?_
            exact sX.le (xB35 v2 v3 ((1 : Int32))) (sLe_s (sLe_s (sLe_s (sLe_s (sLe_n sLe_e)))))
        · exact sX.le (xB34 v2 v3) (sLe_s (sLe_s (sLe_s (sLe_s (sLe_n sLe_e)))))
    exact fun a => xK4 a.1 a.2
  refine sX_rc ?_
  refine sX_iconst (n := -1) (v := (-1 : Int32)) (by decide +kernel) (by decide) ?_
  refine sX_istore_n (i := 2) (ls2 := [some (.ref v0), some (.int v1), some (.int (-1 : Int32)), none, none]) (by decide +kernel) (by decide) rfl ?_
  refine sX_iconst (n := 0) (v := (0 : Int32)) (by decide +kernel) (by decide) ?_
  refine sX_istore_n (i := 3) (ls2 := [some (.ref v0), some (.int v1), some (.int (-1 : Int32)), some (.int (0 : Int32)), none]) (by decide +kernel) (by decide) rfl ?_
  exact sX.le (xL4 v0 v1 ((-1 : Int32)) ((0 : Int32))) (sLe_s (sLe_s (sLe_s (sLe_s (sLe_n sLe_e)))))
def f_X9_cell_B26 (v0 : Nat) (v1 : Int32) (v2 : Int32) (s0 : Int32) (M0 : sMem) : Option Int32 :=
  if s0 = 0 then
    some ((-1 : Int32))
  else
    (gR 9 4 2 M0 v0).bind fun x1 =>
    (ldI 14 M0 x1 (((v1 * (4 : Int32)) + v2))).bind fun x2 =>
    some x2
def f_X9_cell_B25 (v0 : Nat) (v1 : Int32) (v2 : Int32) (M0 : sMem) : Option Int32 :=
  f_X9_cell_B26 v0 v1 v2 ((0 : Int32)) M0
def f_X9_cell (v0 : Nat) (v1 : Int32) (v2 : Int32) (M0 : sMem) : Option Int32 :=
  sRc 9 4 M0 v0 (
    if v1 < 0 then
      f_X9_cell_B25 v0 v1 v2 M0
    else
      (gI 9 4 3 M0 v0).bind fun x3 =>
      if x3 ≤ v1 then
        f_X9_cell_B25 v0 v1 v2 M0
      else
        if v2 < 0 then
          f_X9_cell_B25 v0 v1 v2 M0
        else
          if (4 : Int32) ≤ v2 then
            f_X9_cell_B25 v0 v1 v2 M0
          else
            f_X9_cell_B26 v0 v1 v2 ((1 : Int32)) M0)
set_option maxRecDepth 100000 in
set_option maxHeartbeats 4000000 in
theorem m_X9_cell (G : sG) (l : Launch) (v0 : Nat) (v1 : Int32) (v2 : Int32) (M0 : sMem) : sCp G l 1 yX9_cell cX9_cell 4 (some .int) [.ref v0, .int v1, .int v2] M0 rvI (f_X9_cell v0 v1 v2 M0) := by
  refine sC_p (ls := [some (.ref v0), some (.int v1), some (.int v2), none]) (by decide +kernel) rfl (Nat.le_of_ble_eq_true rfl) (fun r M' K hr => ?_)
  unfold f_X9_cell
  have xB26 : ∀ (v0 : Nat) (v1 : Int32) (v2 : Int32) (s0 : Int32), sX G l 1 yX9_cell cX9_cell 4 (some .int) M0 r M' 26 [some (.ref v0), some (.int v1), some (.int v2), none] [.int s0] M0 (f_X9_cell_B26 v0 v1 v2 s0 M0) K := by
    intro v0 v1 v2 s0
    unfold f_X9_cell_B26
    refine sX_istore_n (i := 3) (ls2 := [some (.ref v0), some (.int v1), some (.int v2), some (.int s0)]) (by decide +kernel) (by decide) rfl ?_
    refine sX_iload_n (i := 3) (by decide +kernel) rfl ?_
    refine sX_ifeq (o := 16) (t := 44) (by decide +kernel) (by decide) (fun _ => ?_) (fun _ => ?_)
    · refine sX_iconst (n := -1) (v := (-1 : Int32)) (by decide +kernel) (by decide) ?_
      exact sX_some (fun h _ => sW_iret (by decide +kernel) rfl (hr _ h).1.symm (hr _ h).2.symm)
    · refine sX_aload_n (i := 0) (by decide +kernel) rfl ?_
      refine sX_getR lf_X9_19 tk_9_2 (by decide +kernel) (fun x1 => ?_)
      refine sX_iload_n (i := 1) (by decide +kernel) rfl ?_
      refine sX_iconst (n := 4) (v := (4 : Int32)) (by decide +kernel) (by decide) ?_
      refine sX_imul (by decide +kernel) ?_
      refine sX_iload_n (i := 2) (by decide +kernel) rfl ?_
      refine sX_iadd (by decide +kernel) ?_
      refine sX_iaload (by decide +kernel) (fun x2 => ?_)
      refine sX_goto (o := 4) (t := 45) (by decide +kernel) (by decide) ?_
      exact sX_some (fun h _ => sW_iret (by decide +kernel) rfl (hr _ h).1.symm (hr _ h).2.symm)
  have xB25 : ∀ (v0 : Nat) (v1 : Int32) (v2 : Int32), sX G l 1 yX9_cell cX9_cell 4 (some .int) M0 r M' 25 [some (.ref v0), some (.int v1), some (.int v2), none] [] M0 (f_X9_cell_B25 v0 v1 v2 M0) K := by
    intro v0 v1 v2
    unfold f_X9_cell_B25
    refine sX_iconst (n := 0) (v := (0 : Int32)) (by decide +kernel) (by decide) ?_
    exact sX.le (xB26 v0 v1 v2 ((0 : Int32))) (sLe_s (sLe_s (sLe_s (sLe_n sLe_e))))
  refine sX_rc ?_
  refine sX_iload_n (i := 1) (by decide +kernel) rfl ?_
  refine sX_iflt (o := 24) (t := 25) (by decide +kernel) (by decide) (fun _ => ?_) (fun _ => ?_)
  · exact sX.le (xB25 v0 v1 v2) (sLe_s (sLe_s (sLe_s (sLe_n sLe_e))))
  · refine sX_iload_n (i := 1) (by decide +kernel) rfl ?_
    refine sX_aload_n (i := 0) (by decide +kernel) rfl ?_
    refine sX_getI lf_X9_22 tk_9_3 (by decide +kernel) (fun x3 => ?_)
    refine sX_icge (o := 16) (t := 25) (by decide +kernel) (by decide) (fun _ => ?_) (fun _ => ?_)
    · exact sX.le (xB25 v0 v1 v2) (sLe_s (sLe_s (sLe_s (sLe_n sLe_e))))
    · refine sX_iload_n (i := 2) (by decide +kernel) rfl ?_
      refine sX_iflt (o := 12) (t := 25) (by decide +kernel) (by decide) (fun _ => ?_) (fun _ => ?_)
      · exact sX.le (xB25 v0 v1 v2) (sLe_s (sLe_s (sLe_s (sLe_n sLe_e))))
      · refine sX_iload_n (i := 2) (by decide +kernel) rfl ?_
        refine sX_iconst (n := 4) (v := (4 : Int32)) (by decide +kernel) (by decide) ?_
        refine sX_icge (o := 7) (t := 25) (by decide +kernel) (by decide) (fun _ => ?_) (fun _ => ?_)
        · exact sX.le (xB25 v0 v1 v2) (sLe_s (sLe_s (sLe_s (sLe_n sLe_e))))
        · refine sX_iconst (n := 1) (v := (1 : Int32)) (by decide +kernel) (by decide) ?_
          refine sX_goto (o := 4) (t := 26) (by decide +kernel) (by decide) ?_
          exact sX.le (xB26 v0 v1 v2 ((1 : Int32))) (sLe_s (sLe_s (sLe_s (sLe_n sLe_e))))
def f_X7_otherEnd (v0 : Nat) (v1 : Int32) (v2 : Int32) (M0 : sMem) : Option Int32 :=
  sRc 7 2 M0 v0 (
    (gR 7 2 1 M0 v0).bind fun x1 =>
    (gR 1 10 3 M0 x1).bind fun x2 =>
    (f_X9_cell x2 v1 ((0 : Int32)) M0).bind fun x3 =>
    (gR 7 2 1 M0 v0).bind fun x4 =>
    (gR 1 10 3 M0 x4).bind fun x5 =>
    (f_X9_cell x5 v1 ((1 : Int32)) M0).bind fun x6 =>
    if x3 = v2 then
      some x6
    else
      if x6 = v2 then
        some x3
      else
        some ((-1 : Int32)))
set_option maxRecDepth 100000 in
set_option maxHeartbeats 4000000 in
theorem m_X7_otherEnd (G : sG) (l : Launch) (v0 : Nat) (v1 : Int32) (v2 : Int32) (M0 : sMem) : sCp G l 2 yX7_otherEnd cX7_otherEnd 5 (some .int) [.ref v0, .int v1, .int v2] M0 rvI (f_X7_otherEnd v0 v1 v2 M0) := by
  refine sC_p (ls := [some (.ref v0), some (.int v1), some (.int v2), none, none]) (by decide +kernel) rfl (Nat.le_of_ble_eq_true rfl) (fun r M' K hr => ?_)
  unfold f_X7_otherEnd
  refine sX_rc ?_
  refine sX_aload_n (i := 0) (by decide +kernel) rfl ?_
  refine sX_getR lf_X7_15 tk_7_1 (by decide +kernel) (fun x1 => ?_)
  refine sX_getR lf_X7_41 tk_1_3 (by decide +kernel) (fun x2 => ?_)
  refine sX_iload_n (i := 1) (by decide +kernel) rfl ?_
  refine sX_iconst (n := 0) (v := (0 : Int32)) (by decide +kernel) (by decide) ?_
  refine sX_callVp (As := [.int v1, .int (0 : Int32)]) (by decide +kernel) lm_X7_56 mf_X9_cell mi_X9_cell mc_9 (m_X9_cell G l x2 v1 ((0 : Int32)) M0) (fun _ h => sRc_some h) (by decide) rfl rfl (Nat.le_of_ble_eq_true rfl) (fun x3 => ?_)
  refine sX_istore_n (i := 3) (ls2 := [some (.ref v0), some (.int v1), some (.int v2), some (.int x3), none]) (by decide +kernel) (by decide) rfl ?_
  refine sX_aload_n (i := 0) (by decide +kernel) rfl ?_
  refine sX_getR lf_X7_15 tk_7_1 (by decide +kernel) (fun x4 => ?_)
  refine sX_getR lf_X7_41 tk_1_3 (by decide +kernel) (fun x5 => ?_)
  refine sX_iload_n (i := 1) (by decide +kernel) rfl ?_
  refine sX_iconst (n := 1) (v := (1 : Int32)) (by decide +kernel) (by decide) ?_
  refine sX_callVp (As := [.int v1, .int (1 : Int32)]) (by decide +kernel) lm_X7_56 mf_X9_cell mi_X9_cell mc_9 (m_X9_cell G l x5 v1 ((1 : Int32)) M0) (fun _ h => sRc_some h) (by decide) rfl rfl (Nat.le_of_ble_eq_true rfl) (fun x6 => ?_)
  refine sX_istore (i := 4) (ls2 := [some (.ref v0), some (.int v1), some (.int v2), some (.int x3), some (.int x6)]) (by decide +kernel) (by decide) rfl ?_
  refine sX_iload_n (i := 3) (by decide +kernel) rfl ?_
  refine sX_iload_n (i := 2) (by decide +kernel) rfl ?_
  refine sX_icne (o := 8) (t := 37) (by decide +kernel) (by decide) (fun _ => ?_) (fun _ => ?_)
  · refine sX_iload (i := 4) (by decide +kernel) rfl ?_
    refine sX_goto (o := 14) (t := 48) (by decide +kernel) (by decide) ?_
    exact sX_some (fun h _ => sW_iret (by decide +kernel) rfl (hr _ h).1.symm (hr _ h).2.symm)
  · refine sX_iload (i := 4) (by decide +kernel) rfl ?_
    refine sX_iload_n (i := 2) (by decide +kernel) rfl ?_
    refine sX_icne (o := 7) (t := 47) (by decide +kernel) (by decide) (fun _ => ?_) (fun _ => ?_)
    · refine sX_iload_n (i := 3) (by decide +kernel) rfl ?_
      refine sX_goto (o := 4) (t := 48) (by decide +kernel) (by decide) ?_
      exact sX_some (fun h _ => sW_iret (by decide +kernel) rfl (hr _ h).1.symm (hr _ h).2.symm)
    · refine sX_iconst (n := -1) (v := (-1 : Int32)) (by decide +kernel) (by decide) ?_
      exact sX_some (fun h _ => sW_iret (by decide +kernel) rfl (hr _ h).1.symm (hr _ h).2.symm)
def f_X11_isMarked (v0 : Nat) (v1 : Int32) (v2 : Int32) (M0 : sMem) : Option Int32 :=
  if ((v1 * (4 : Int32)) + (v2 >>> ((6 : Int32) &&& 31))) < 0 then
    some ((0 : Int32))
  else
    (aL 15 M0 v0).bind fun x1 =>
    if x1 ≤ ((v1 * (4 : Int32)) + (v2 >>> ((6 : Int32) &&& 31))) then
      some ((0 : Int32))
    else
      (ldJ M0 v0 (((v1 * (4 : Int32)) + (v2 >>> ((6 : Int32) &&& 31))))).bind fun x2 =>
      if ((x2 >>> (((v2 &&& (63 : Int32))).toInt64 &&& 63)) &&& (1 : Int64)) = (1 : Int64) then
        some ((1 : Int32))
      else
        some ((0 : Int32))
set_option maxRecDepth 100000 in
set_option maxHeartbeats 4000000 in
theorem m_X11_isMarked (G : sG) (l : Launch) (v0 : Nat) (v1 : Int32) (v2 : Int32) (M0 : sMem) : sCp G l 1 yX11_isMarked cX11_isMarked 4 (some .boolean) [.ref v0, .int v1, .int v2] M0 rvI (f_X11_isMarked v0 v1 v2 M0) := by
  refine sC_p (ls := [some (.ref v0), some (.int v1), some (.int v2), none]) (by decide +kernel) rfl (Nat.le_of_ble_eq_true rfl) (fun r M' K hr => ?_)
  unfold f_X11_isMarked
  refine sX_iload_n (i := 1) (by decide +kernel) rfl ?_
  refine sX_iconst (n := 4) (v := (4 : Int32)) (by decide +kernel) (by decide) ?_
  refine sX_imul (by decide +kernel) ?_
  refine sX_iload_n (i := 2) (by decide +kernel) rfl ?_
  refine sX_bipush (n := 6) (v := (6 : Int32)) (by decide +kernel) (by decide) ?_
  refine sX_ishr (by decide +kernel) ?_
  refine sX_iadd (by decide +kernel) ?_
  refine sX_istore_n (i := 3) (ls2 := [some (.ref v0), some (.int v1), some (.int v2), some (.int ((v1 * (4 : Int32)) + (v2 >>> ((6 : Int32) &&& 31))))]) (by decide +kernel) (by decide) rfl ?_
  refine sX_iload_n (i := 3) (by decide +kernel) rfl ?_
  refine sX_iflt (o := 28) (t := 38) (by decide +kernel) (by decide) (fun _ => ?_) (fun _ => ?_)
  · refine sX_iconst (n := 0) (v := (0 : Int32)) (by decide +kernel) (by decide) ?_
    exact sX_some (fun h _ => sW_zret (by decide +kernel) rfl (by decide) (hr _ h).1.symm (hr _ h).2.symm)
  · refine sX_iload_n (i := 3) (by decide +kernel) rfl ?_
    refine sX_aload_n (i := 0) (by decide +kernel) rfl ?_
    refine sX_alen (by decide) (by decide) (by decide +kernel) (fun x1 => ?_)
    refine sX_icge (o := 22) (t := 38) (by decide +kernel) (by decide) (fun _ => ?_) (fun _ => ?_)
    · refine sX_iconst (n := 0) (v := (0 : Int32)) (by decide +kernel) (by decide) ?_
      exact sX_some (fun h _ => sW_zret (by decide +kernel) rfl (by decide) (hr _ h).1.symm (hr _ h).2.symm)
    · refine sX_aload_n (i := 0) (by decide +kernel) rfl ?_
      refine sX_iload_n (i := 3) (by decide +kernel) rfl ?_
      refine sX_laload (by decide +kernel) (fun x2 => ?_)
      refine sX_iload_n (i := 2) (by decide +kernel) rfl ?_
      refine sX_bipush (n := 63) (v := (63 : Int32)) (by decide +kernel) (by decide) ?_
      refine sX_iand (by decide +kernel) ?_
      refine sX_lshr (by decide +kernel) ?_
      refine sX_lconst (n := 1) (v := (1 : Int64)) (by decide +kernel) (by decide) ?_
      refine sX_land (by decide +kernel) ?_
      refine sX_lconst (n := 1) (v := (1 : Int64)) (by decide +kernel) (by decide) ?_
      refine sX_lcne (o := 7) (t := 38) (by decide +kernel) (by decide +kernel) (by decide) (fun _ => ?_) (fun _ => ?_)
      · refine sX_iconst (n := 1) (v := (1 : Int32)) (by decide +kernel) (by decide) ?_
        refine sX_goto (o := 4) (t := 39) (by decide +kernel) (by decide) ?_
        exact sX_some (fun h _ => sW_zret (by decide +kernel) rfl (by decide) (hr _ h).1.symm (hr _ h).2.symm)
      · refine sX_iconst (n := 0) (v := (0 : Int32)) (by decide +kernel) (by decide) ?_
        exact sX_some (fun h _ => sW_zret (by decide +kernel) rfl (by decide) (hr _ h).1.symm (hr _ h).2.symm)
def f_X11_firstOpen_K2 (v0 : Nat) (v1 : Int32) (v3 : Int32) (M0 : sMem) : Option ((Int32) ⊕ ((Int32))) :=
  if (200 : Int32) ≤ v3 then
    some (.inr ((-1 : Int32)))
  else
    (f_X11_isMarked v0 v1 v3 M0).bind fun x1 =>
    if x1 = 0 then
      some (.inr v3)
    else
      some (.inl (((v3 + (1 : Int32)))))
def f_X11_firstOpen_L2 (v0 : Nat) (v1 : Int32) (v3 : Int32) (M0 : sMem) : Option Int32 :=
  (sItr (fun a : (Int32) => f_X11_firstOpen_K2 v0 v1 a M0) sFuel v3).bind (fun b => some b)
def f_X11_firstOpen (v0 : Nat) (v1 : Int32) (v2 : Int32) (M0 : sMem) : Option Int32 :=
  f_X11_firstOpen_L2 v0 v1 v2 M0
set_option maxRecDepth 100000 in
set_option maxHeartbeats 4000000 in
theorem m_X11_firstOpen (G : sG) (l : Launch) (v0 : Nat) (v1 : Int32) (v2 : Int32) (M0 : sMem) : sCp G l 2 yX11_firstOpen cX11_firstOpen 4 (some .int) [.ref v0, .int v1, .int v2] M0 rvI (f_X11_firstOpen v0 v1 v2 M0) := by
  refine sC_p (ls := [some (.ref v0), some (.int v1), some (.int v2), none]) (by decide +kernel) rfl (Nat.le_of_ble_eq_true rfl) (fun r M' K hr => ?_)
  unfold f_X11_firstOpen
  have xL2 : ∀ (v0 : Nat) (v1 : Int32) (v3 : Int32), sX G l 2 yX11_firstOpen cX11_firstOpen 4 (some .int) M0 r M' 2 [some (.ref v0), some (.int v1), none, some (.int v3)] [] M0 (f_X11_firstOpen_L2 v0 v1 v3 M0) K := by
    intro v0 v1 v3
    unfold f_X11_firstOpen_L2
    refine sX_bind ?_
    refine sX_loop (LS := fun a : (Int32) => [some (.ref v0), some (.int v1), none, some (.int a)]) (MM := fun a => M0) (fun K1 hb1 he1 => ?_) sFuel v3
    have xK2 : ∀ (v3 : Int32), sX G l 2 yX11_firstOpen cX11_firstOpen 4 (some .int) M0 r M' 2 [some (.ref v0), some (.int v1), none, some (.int v3)] [] M0 (f_X11_firstOpen_K2 v0 v1 v3 M0) K1 := by
      intro v3
      unfold f_X11_firstOpen_K2
      refine sX_iload_n (i := 3) (by decide +kernel) rfl ?_
      refine sX_sipush (n := 200) (v := (200 : Int32)) (by decide +kernel) (by decide) ?_
      refine sX_icge (o := 20) (t := 26) (by decide +kernel) (by decide) (fun _ => ?_) (fun _ => ?_)
      · refine sX_iconst (n := -1) (v := (-1 : Int32)) (by decide +kernel) (by decide) ?_
        refine sX_exit he1 ?_
        exact sX_some (fun h _ => sW_iret (by decide +kernel) rfl (hr _ h).1.symm (hr _ h).2.symm)
      · refine sX_aload_n (i := 0) (by decide +kernel) rfl ?_
        refine sX_iload_n (i := 1) (by decide +kernel) rfl ?_
        refine sX_iload_n (i := 3) (by decide +kernel) rfl ?_
        refine sX_callSp (As := [.ref v0, .int v1, .int v3]) (by decide +kernel) lm_X11_205 mf_X11_isMarked ms_X11_isMarked (m_X11_isMarked G l v0 v1 v3 M0) (by decide) rfl rfl (Nat.le_of_ble_eq_true rfl) (fun x1 => ?_)
        refine sX_ifne (o := 5) (t := 20) (by decide +kernel) (by decide) (fun _ => ?_) (fun _ => ?_)
        · refine sX_iload_n (i := 3) (by decide +kernel) rfl ?_
          refine sX_exit he1 ?_
          exact sX_some (fun h _ => sW_iret (by decide +kernel) rfl (hr _ h).1.symm (hr _ h).2.symm)
        · refine sX_iinc (i := 3) (n := 1) (v := v3 + (1 : Int32)) (ls2 := [some (.ref v0), some (.int v1), none, some (.int (v3 + (1 : Int32)))]) (by decide +kernel) rfl rfl (by decide) rfl ?_
          refine sX_goto (o := -21) (t := 2) (by decide +kernel) (by decide) ?_
          exact sX_back (a := ((v3 + (1 : Int32)))) hb1 rfl (sLe_s (sLe_s (sLe_n (sLe_s sLe_e))))
    exact fun a => xK2 a
  refine sX_iload_n (i := 2) (by decide +kernel) rfl ?_
  refine sX_istore_n (i := 3) (ls2 := [some (.ref v0), some (.int v1), some (.int v2), some (.int v2)]) (by decide +kernel) (by decide) rfl ?_
  exact sX.le (xL2 v0 v1 v2) (sLe_s (sLe_s (sLe_n (sLe_s sLe_e))))
def f_X7_reach_B43 (v0 : Nat) (v1 : Int32) (v2 : Int32) (s0 : Int32) (M : sMem) : Option sMem :=
  (gR 7 2 1 M v0).bind fun x1 =>
  (gR 1 10 3 M x1).bind fun x2 =>
  (f_X9_cell x2 v2 ((2 : Int32)) M).bind fun x3 =>
  if s0 = (-1 : Int32) then
    some M
  else
    (gR 7 2 0 M v0).bind fun x4 =>
    (ldI 14 M x4 v1).bind fun x5 =>
    if x5 ≤ (s0 + x3) then
      some M
    else
      (gR 7 2 0 M v0).bind fun x6 =>
      (stI M x6 v1 ((s0 + x3))).bind fun M7 =>
      some M7
def f_X7_reach (v0 : Nat) (v1 : Int32) (v2 : Int32) (v3 : Int32) (v4 : Nat) (M0 : sMem) : Option sMem :=
  sRc 7 2 M0 v0 (
    if v1 < 0 then
      some M0
    else
      if v1 < (7 : Int32) then
        (gR 7 2 1 M0 v0).bind fun x8 =>
        (gR 1 10 3 M0 x8).bind fun x9 =>
        (f_X9_cell x9 v2 ((3 : Int32)) M0).bind fun x10 =>
        if x10 = (-1 : Int32) then
          f_X7_reach_B43 v0 v1 v2 v3 M0
        else
          (f_X11_firstOpen v4 x10 v3 M0).bind fun x11 =>
          f_X7_reach_B43 v0 v1 v2 x11 M0
      else
        some M0)
set_option maxRecDepth 100000 in
set_option maxHeartbeats 4000000 in
theorem m_X7_reach (G : sG) (l : Launch) (v0 : Nat) (v1 : Int32) (v2 : Int32) (v3 : Int32) (v4 : Nat) (M0 : sMem) : sCv G l 3 yX7_reach cX7_reach 8 none [.ref v0, .int v1, .int v2, .int v3, .ref v4] M0 (f_X7_reach v0 v1 v2 v3 v4 M0) := by
  refine sC_v (ls := [some (.ref v0), some (.int v1), some (.int v2), some (.int v3), some (.ref v4), none, none, none]) (by decide +kernel) rfl (Nat.le_of_ble_eq_true rfl) (fun r M' K hr => ?_)
  unfold f_X7_reach
  have xB43 : ∀ (v0 : Nat) (v1 : Int32) (v2 : Int32) (s0 : Int32) (M : sMem), sX G l 3 yX7_reach cX7_reach 8 none M0 r M' 43 [some (.ref v0), some (.int v1), some (.int v2), none, none, none, none, none] [.int s0] M (f_X7_reach_B43 v0 v1 v2 s0 M) K := by
    intro v0 v1 v2 s0 M
    unfold f_X7_reach_B43
    refine sX_istore (i := 6) (ls2 := [some (.ref v0), some (.int v1), some (.int v2), none, none, none, some (.int s0), none]) (by decide +kernel) (by decide) rfl ?_
    refine sX_iload (i := 6) (by decide +kernel) rfl ?_
    refine sX_aload_n (i := 0) (by decide +kernel) rfl ?_
    refine sX_getR lf_X7_15 tk_7_1 (by decide +kernel) (fun x1 => ?_)
    refine sX_getR lf_X7_41 tk_1_3 (by decide +kernel) (fun x2 => ?_)
    refine sX_iload_n (i := 2) (by decide +kernel) rfl ?_
    refine sX_iconst (n := 2) (v := (2 : Int32)) (by decide +kernel) (by decide) ?_
    refine sX_callVp (As := [.int v2, .int (2 : Int32)]) (by decide +kernel) lm_X7_56 mf_X9_cell mi_X9_cell mc_9 (m_X9_cell G l x2 v2 ((2 : Int32)) M) (fun _ h => sRc_some h) (by decide) rfl rfl (Nat.le_of_ble_eq_true rfl) (fun x3 => ?_)
    refine sX_iadd (by decide +kernel) ?_
    refine sX_istore (i := 7) (ls2 := [some (.ref v0), some (.int v1), some (.int v2), none, none, none, some (.int s0), some (.int (s0 + x3))]) (by decide +kernel) (by decide) rfl ?_
    refine sX_iload (i := 6) (by decide +kernel) rfl ?_
    refine sX_iconst (n := -1) (v := (-1 : Int32)) (by decide +kernel) (by decide) ?_
    refine sX_iceq (o := 22) (t := 87) (by decide +kernel) (by decide) (fun _ => ?_) (fun _ => ?_)
    · exact sX_some (fun h _ => sW_vret (by decide +kernel) rfl (hr _ h).1.symm (hr _ h).2.symm)
    · refine sX_iload (i := 7) (by decide +kernel) rfl ?_
      refine sX_aload_n (i := 0) (by decide +kernel) rfl ?_
      refine sX_getR lf_X7_9 tk_7_0 (by decide +kernel) (fun x4 => ?_)
      refine sX_iload_n (i := 1) (by decide +kernel) rfl ?_
      refine sX_iaload (by decide +kernel) (fun x5 => ?_)
      refine sX_icge (o := 11) (t := 87) (by decide +kernel) (by decide) (fun _ => ?_) (fun _ => ?_)
      · exact sX_some (fun h _ => sW_vret (by decide +kernel) rfl (hr _ h).1.symm (hr _ h).2.symm)
      · refine sX_aload_n (i := 0) (by decide +kernel) rfl ?_
        refine sX_getR lf_X7_9 tk_7_0 (by decide +kernel) (fun x6 => ?_)
        refine sX_iload_n (i := 1) (by decide +kernel) rfl ?_
        refine sX_iload (i := 7) (by decide +kernel) rfl ?_
        refine sX_iastore (by decide +kernel) (by decide) (fun M7 => ?_)
        exact sX_some (fun h _ => sW_vret (by decide +kernel) rfl (hr _ h).1.symm (hr _ h).2.symm)
  refine sX_rc ?_
  refine sX_iload_n (i := 1) (by decide +kernel) rfl ?_
  refine sX_iflt (o := 9) (t := 10) (by decide +kernel) (by decide) (fun _ => ?_) (fun _ => ?_)
  · exact sX_some (fun h _ => sW_vret (by decide +kernel) rfl (hr _ h).1.symm (hr _ h).2.symm)
  · refine sX_iload_n (i := 1) (by decide +kernel) rfl ?_
    refine sX_bipush (n := 7) (v := (7 : Int32)) (by decide +kernel) (by decide) ?_
    refine sX_iclt (o := 4) (t := 11) (by decide +kernel) (by decide) (fun _ => ?_) (fun _ => ?_)
    · refine sX_aload_n (i := 0) (by decide +kernel) rfl ?_
      refine sX_getR lf_X7_15 tk_7_1 (by decide +kernel) (fun x8 => ?_)
      refine sX_getR lf_X7_41 tk_1_3 (by decide +kernel) (fun x9 => ?_)
      refine sX_iload_n (i := 2) (by decide +kernel) rfl ?_
      refine sX_iconst (n := 3) (v := (3 : Int32)) (by decide +kernel) (by decide) ?_
      refine sX_callVp (As := [.int v2, .int (3 : Int32)]) (by decide +kernel) lm_X7_56 mf_X9_cell mi_X9_cell mc_9 (m_X9_cell G l x9 v2 ((3 : Int32)) M0) (fun _ h => sRc_some h) (by decide) rfl rfl (Nat.le_of_ble_eq_true rfl) (fun x10 => ?_)
      refine sX_istore (i := 5) (ls2 := [some (.ref v0), some (.int v1), some (.int v2), some (.int v3), some (.ref v4), some (.int x10), none, none]) (by decide +kernel) (by decide) rfl ?_
      refine sX_iload (i := 5) (by decide +kernel) rfl ?_
      refine sX_iconst (n := -1) (v := (-1 : Int32)) (by decide +kernel) (by decide) ?_
      refine sX_icne (o := 7) (t := 35) (by decide +kernel) (by decide) (fun _ => ?_) (fun _ => ?_)
      · refine sX_iload_n (i := 3) (by decide +kernel) rfl ?_
        refine sX_goto (o := 11) (t := 43) (by decide +kernel) (by decide) ?_
        exact sX.le (xB43 v0 v1 v2 v3 M0) (sLe_s (sLe_s (sLe_s (sLe_n (sLe_n (sLe_n (sLe_n (sLe_n sLe_e))))))))
      · refine sX_aload (i := 4) (by decide +kernel) rfl ?_
        refine sX_iload (i := 5) (by decide +kernel) rfl ?_
        refine sX_iload_n (i := 3) (by decide +kernel) rfl ?_
        refine sX_callSp (As := [.ref v4, .int x10, .int v3]) (by decide +kernel) lm_X7_59 mf_X11_firstOpen ms_X11_firstOpen (m_X11_firstOpen G l v4 x10 v3 M0) (by decide) rfl rfl (Nat.le_of_ble_eq_true rfl) (fun x11 => ?_)
        exact sX.le (xB43 v0 v1 v2 x11 M0) (sLe_s (sLe_s (sLe_s (sLe_n (sLe_n (sLe_n (sLe_n (sLe_n sLe_e))))))))
    · exact sX_some (fun h _ => sW_vret (by decide +kernel) rfl (hr _ h).1.symm (hr _ h).2.symm)
def f_X7_go_B115 (v0 : Nat) (v3 : Nat) (v4 : Int32) (v5 : Int32) (M : sMem) : Option ((Int32 × Int32 × sMem) ⊕ ((sMem))) :=
  some (.inl ((v4, ((v5 + (1 : Int32))), M)))
def f_X7_go_K72 (v0 : Nat) (v3 : Nat) (v4 : Int32) (v5 : Int32) (v6 : Int32) (v7 : Int32) (M : sMem) : Option ((Int32 × sMem) ⊕ ((sMem))) :=
  (gR 7 2 1 M v0).bind fun x1 =>
  (gR 1 10 3 M x1).bind fun x2 =>
  (gI 9 4 3 M x2).bind fun x3 =>
  if x3 ≤ v7 then
    some (.inr M)
  else
    (f_X7_otherEnd v0 v7 v6 M).bind fun x4 =>
    (gR 7 2 0 M v0).bind fun x5 =>
    (ldI 14 M x5 v6).bind fun x6 =>
    (f_X7_reach v0 x4 v7 x6 v3 M).bind fun M7 =>
    some (.inl ((((v7 + (1 : Int32))), M7)))
def f_X7_go_L72 (v0 : Nat) (v3 : Nat) (v4 : Int32) (v5 : Int32) (v6 : Int32) (v7 : Int32) (M : sMem) : Option ((Int32 × Int32 × sMem) ⊕ ((sMem))) :=
  (sItr (fun a : (Int32 × sMem) => f_X7_go_K72 v0 v3 v4 v5 v6 a.1 a.2) sFuel (v7, M)).bind (fun b => f_X7_go_B115 v0 v3 v4 v5 b)
def f_X7_go_K38 (v0 : Nat) (v3 : Nat) (v4 : Int32) (v5 : Int32) (M : sMem) : Option ((Int32 × Int32 × sMem) ⊕ ((sMem))) :=
  if (7 : Int32) ≤ v5 then
    some (.inr M)
  else
    (f_X7_nearest v0 v4 M).bind fun x8 =>
    if x8 = (-1 : Int32) then
      some (.inr M)
    else
      f_X7_go_L72 v0 v3 ((v4 ||| ((1 : Int32) <<< (x8 &&& 31)))) v5 x8 ((0 : Int32)) M
def f_X7_go_L38 (v0 : Nat) (v3 : Nat) (v4 : Int32) (v5 : Int32) (M : sMem) : Option sMem :=
  (sItr (fun a : (Int32 × Int32 × sMem) => f_X7_go_K38 v0 v3 a.1 a.2.1 a.2.2) sFuel (v4, v5, M)).bind (fun b => some b)
def f_X7_go (v0 : Nat) (v1 : Int32) (v2 : Int32) (v3 : Nat) (M0 : sMem) : Option sMem :=
  sRc 7 2 M0 v0 (
    (gR 7 2 0 M0 v0).bind fun x9 =>
    (f_J7_fill_53178 x9 ((200 : Int32)) M0).bind fun M10 =>
    (gR 7 2 1 M10 v0).bind fun x11 =>
    (gR 1 10 2 M10 x11).bind fun x12 =>
    (f_X9_isThere x12 v1 M10).bind fun x13 =>
    if x13 = 0 then
      some M10
    else
      (gR 7 2 0 M10 v0).bind fun x14 =>
      (stI M10 x14 v1 v2).bind fun M15 =>
      f_X7_go_L38 v0 v3 ((0 : Int32)) ((0 : Int32)) M15)
set_option maxRecDepth 100000 in
set_option maxHeartbeats 4000000 in
theorem m_X7_go (G : sG) (l : Launch) (v0 : Nat) (v1 : Int32) (v2 : Int32) (v3 : Nat) (M0 : sMem) : sCv G l 4 yX7_go cX7_go 8 none [.ref v0, .int v1, .int v2, .ref v3] M0 (f_X7_go v0 v1 v2 v3 M0) := by
  refine sC_v (ls := [some (.ref v0), some (.int v1), some (.int v2), some (.ref v3), none, none, none, none]) (by decide +kernel) rfl (Nat.le_of_ble_eq_true rfl) (fun r M' K hr => ?_)
  unfold f_X7_go
  have xL38 : ∀ (v0 : Nat) (v3 : Nat) (v4 : Int32) (v5 : Int32) (M : sMem), sX G l 4 yX7_go cX7_go 8 none M0 r M' 38 [some (.ref v0), none, none, some (.ref v3), some (.int v4), some (.int v5), none, none] [] M (f_X7_go_L38 v0 v3 v4 v5 M) K := by
    intro v0 v3 v4 v5 M
    unfold f_X7_go_L38
    refine sX_bind ?_
    refine sX_loop (LS := fun a : (Int32 × Int32 × sMem) => [some (.ref v0), none, none, some (.ref v3), some (.int a.1), some (.int a.2.1), none, none]) (MM := fun a => a.2.2) (fun K1 hb1 he1 => ?_) sFuel ((v4, v5, M))
    have xB115 : ∀ (v4 : Int32) (v5 : Int32) (M : sMem), sX G l 4 yX7_go cX7_go 8 none M0 r M' 115 [some (.ref v0), none, none, some (.ref v3), some (.int v4), some (.int v5), none, none] [] M (f_X7_go_B115 v0 v3 v4 v5 M) K1 := by
      intro v4 v5 M
      unfold f_X7_go_B115
      refine sX_iinc (i := 5) (n := 1) (v := v5 + (1 : Int32)) (ls2 := [some (.ref v0), none, none, some (.ref v3), some (.int v4), some (.int (v5 + (1 : Int32))), none, none]) (by decide +kernel) rfl rfl (by decide) rfl ?_
      refine sX_goto (o := -80) (t := 38) (by decide +kernel) (by decide) ?_
      exact sX_back (a := (v4, ((v5 + (1 : Int32))), M)) hb1 rfl (sLe_s (sLe_n (sLe_n (sLe_s (sLe_s (sLe_s (sLe_n (sLe_n sLe_e))))))))
    have xL72 : ∀ (v4 : Int32) (v5 : Int32) (v6 : Int32) (v7 : Int32) (M : sMem), sX G l 4 yX7_go cX7_go 8 none M0 r M' 72 [some (.ref v0), none, none, some (.ref v3), some (.int v4), some (.int v5), some (.int v6), some (.int v7)] [] M (f_X7_go_L72 v0 v3 v4 v5 v6 v7 M) K1 := by
      intro v4 v5 v6 v7 M
      unfold f_X7_go_L72
      refine sX_bind ?_
      refine sX_loop (LS := fun a : (Int32 × sMem) => [some (.ref v0), none, none, some (.ref v3), some (.int v4), some (.int v5), some (.int v6), some (.int a.1)]) (MM := fun a => a.2) (fun K2 hb2 he2 => ?_) sFuel ((v7, M))
      have xK72 : ∀ (v7 : Int32) (M : sMem), sX G l 4 yX7_go cX7_go 8 none M0 r M' 72 [some (.ref v0), none, none, some (.ref v3), some (.int v4), some (.int v5), some (.int v6), some (.int v7)] [] M (f_X7_go_K72 v0 v3 v4 v5 v6 v7 M) K2 := by
        intro v7 M
        unfold f_X7_go_K72
        refine sX_iload (i := 7) (by decide +kernel) rfl ?_
        refine sX_aload_n (i := 0) (by decide +kernel) rfl ?_
        refine sX_getR lf_X7_15 tk_7_1 (by decide +kernel) (fun x1 => ?_)
        refine sX_getR lf_X7_41 tk_1_3 (by decide +kernel) (fun x2 => ?_)
        refine sX_getI lf_X7_44 tk_9_3 (by decide +kernel) (fun x3 => ?_)
        refine sX_icge (o := 31) (t := 115) (by decide +kernel) (by decide) (fun _ => ?_) (fun _ => ?_)
        · refine sX_exit he2 ?_
          exact sX.le (xB115 v4 v5 M) (sLe_s (sLe_n (sLe_n (sLe_s (sLe_s (sLe_s (sLe_n (sLe_n sLe_e))))))))
        · refine sX_aload_n (i := 0) (by decide +kernel) rfl ?_
          refine sX_aload_n (i := 0) (by decide +kernel) rfl ?_
          refine sX_iload (i := 7) (by decide +kernel) rfl ?_
          refine sX_iload (i := 6) (by decide +kernel) rfl ?_
          refine sX_callVp (As := [.int v7, .int v6]) (by decide +kernel) lm_X7_48 mf_X7_otherEnd mi_X7_otherEnd mc_7 (m_X7_otherEnd G l v0 v7 v6 M) (fun _ h => sRc_some h) (by decide) rfl rfl (Nat.le_of_ble_eq_true rfl) (fun x4 => ?_)
          refine sX_iload (i := 7) (by decide +kernel) rfl ?_
          refine sX_aload_n (i := 0) (by decide +kernel) rfl ?_
          refine sX_getR lf_X7_9 tk_7_0 (by decide +kernel) (fun x5 => ?_)
          refine sX_iload (i := 6) (by decide +kernel) rfl ?_
          refine sX_iaload (by decide +kernel) (fun x6 => ?_)
          refine sX_aload_n (i := 3) (by decide +kernel) rfl ?_
          refine sX_callVv (As := [.int x4, .int v7, .int x6, .ref v3]) (by decide +kernel) lm_X7_52 mf_X7_reach mi_X7_reach mc_7 (m_X7_reach G l v0 x4 v7 x6 v3 M) (fun _ h => sRc_some h) (by decide) rfl rfl (Nat.le_of_ble_eq_true rfl) (fun M7 => ?_)
          refine sX_iinc (i := 7) (n := 1) (v := v7 + (1 : Int32)) (ls2 := [some (.ref v0), none, none, some (.ref v3), some (.int v4), some (.int v5), some (.int v6), some (.int (v7 + (1 : Int32)))]) (by decide +kernel) rfl rfl (by decide) rfl ?_
          refine sX_goto (o := -40) (t := 72) (by decide +kernel) (by decide) ?_
          exact sX_back (a := (((v7 + (1 : Int32))), M7)) hb2 rfl (sLe_s (sLe_n (sLe_n (sLe_s (sLe_s (sLe_s (sLe_s (sLe_s sLe_e))))))))
      exact fun a => xK72 a.1 a.2
    have xK38 : ∀ (v4 : Int32) (v5 : Int32) (M : sMem), sX G l 4 yX7_go cX7_go 8 none M0 r M' 38 [some (.ref v0), none, none, some (.ref v3), some (.int v4), some (.int v5), none, none] [] M (f_X7_go_K38 v0 v3 v4 v5 M) K1 := by
      intro v4 v5 M
      unfold f_X7_go_K38
      refine sX_iload (i := 5) (by decide +kernel) rfl ?_
      refine sX_bipush (n := 7) (v := (7 : Int32)) (by decide +kernel) (by decide) ?_
      refine sX_icge (o := 79) (t := 121) (by decide +kernel) (by decide) (fun _ => ?_) (fun _ => ?_)
      · refine sX_exit he1 ?_
        exact sX_some (fun h _ => sW_vret (by decide +kernel) rfl (hr _ h).1.symm (hr _ h).2.symm)
      · refine sX_aload_n (i := 0) (by decide +kernel) rfl ?_
        refine sX_iload (i := 4) (by decide +kernel) rfl ?_
        refine sX_callVp (As := [.int v4]) (by decide +kernel) lm_X7_37 mf_X7_nearest mi_X7_nearest mc_7 (m_X7_nearest G l v0 v4 M) (fun _ h => sRc_some h) (by decide) rfl rfl (Nat.le_of_ble_eq_true rfl) (fun x8 => ?_)
        refine sX_istore (i := 6) (ls2 := [some (.ref v0), none, none, some (.ref v3), some (.int v4), some (.int v5), some (.int x8), none]) (by decide +kernel) (by decide) rfl ?_
        refine sX_iload (i := 6) (by decide +kernel) rfl ?_
        refine sX_iconst (n := -1) (v := (-1 : Int32)) (by decide +kernel) (by decide) ?_
        refine sX_icne (o := 4) (t := 60) (by decide +kernel) (by decide) (fun _ => ?_) (fun _ => ?_)
        · refine sX_exit he1 ?_
          exact sX_some (fun h _ => sW_vret (by decide +kernel) rfl (hr _ h).1.symm (hr _ h).2.symm)
        · refine sX_iload (i := 4) (by decide +kernel) rfl ?_
          refine sX_iconst (n := 1) (v := (1 : Int32)) (by decide +kernel) (by decide) ?_
          refine sX_iload (i := 6) (by decide +kernel) rfl ?_
          refine sX_ishl (by decide +kernel) ?_
          refine sX_ior (by decide +kernel) ?_
          refine sX_istore (i := 4) (ls2 := [some (.ref v0), none, none, some (.ref v3), some (.int (v4 ||| ((1 : Int32) <<< (x8 &&& 31)))), some (.int v5), some (.int x8), none]) (by decide +kernel) (by decide) rfl ?_
          refine sX_iconst (n := 0) (v := (0 : Int32)) (by decide +kernel) (by decide) ?_
          refine sX_istore (i := 7) (ls2 := [some (.ref v0), none, none, some (.ref v3), some (.int (v4 ||| ((1 : Int32) <<< (x8 &&& 31)))), some (.int v5), some (.int x8), some (.int (0 : Int32))]) (by decide +kernel) (by decide) rfl ?_
          exact sX.le (xL72 ((v4 ||| ((1 : Int32) <<< (x8 &&& 31)))) v5 x8 ((0 : Int32)) M) (sLe_s (sLe_n (sLe_n (sLe_s (sLe_s (sLe_s (sLe_s (sLe_s sLe_e))))))))
    exact fun a => xK38 a.1 a.2.1 a.2.2
  refine sX_rc ?_
  refine sX_aload_n (i := 0) (by decide +kernel) rfl ?_
  refine sX_getR lf_X7_9 tk_7_0 (by decide +kernel) (fun x9 => ?_)
  refine sX_sipush (n := 200) (v := (200 : Int32)) (by decide +kernel) (by decide) ?_
  refine sX_callSv (As := [.ref x9, .int (200 : Int32)]) (by decide +kernel) lm_X7_19 mf_J7_fill_53178 ms_J7_fill_53178 (m_J7_fill_53178 G l x9 ((200 : Int32)) M0) (by decide) rfl rfl (Nat.le_of_ble_eq_true rfl) (fun M10 => ?_)
  refine sX_aload_n (i := 0) (by decide +kernel) rfl ?_
  refine sX_getR lf_X7_15 tk_7_1 (by decide +kernel) (fun x11 => ?_)
  refine sX_getR lf_X7_25 tk_1_2 (by decide +kernel) (fun x12 => ?_)
  refine sX_iload_n (i := 1) (by decide +kernel) rfl ?_
  refine sX_callVp (As := [.int v1]) (by decide +kernel) lm_X7_31 mf_X9_isThere mi_X9_isThere mc_9 (m_X9_isThere G l x12 v1 M10) (fun _ h => sRc_some h) (by decide) rfl rfl (Nat.le_of_ble_eq_true rfl) (fun x13 => ?_)
  refine sX_ifne (o := 4) (t := 25) (by decide +kernel) (by decide) (fun _ => ?_) (fun _ => ?_)
  · exact sX_some (fun h _ => sW_vret (by decide +kernel) rfl (hr _ h).1.symm (hr _ h).2.symm)
  · refine sX_aload_n (i := 0) (by decide +kernel) rfl ?_
    refine sX_getR lf_X7_9 tk_7_0 (by decide +kernel) (fun x14 => ?_)
    refine sX_iload_n (i := 1) (by decide +kernel) rfl ?_
    refine sX_iload_n (i := 2) (by decide +kernel) rfl ?_
    refine sX_iastore (by decide +kernel) (by decide) (fun M15 => ?_)
    refine sX_iconst (n := 0) (v := (0 : Int32)) (by decide +kernel) (by decide) ?_
    refine sX_istore (i := 4) (ls2 := [some (.ref v0), some (.int v1), some (.int v2), some (.ref v3), some (.int (0 : Int32)), none, none, none]) (by decide +kernel) (by decide) rfl ?_
    refine sX_iconst (n := 0) (v := (0 : Int32)) (by decide +kernel) (by decide) ?_
    refine sX_istore (i := 5) (ls2 := [some (.ref v0), some (.int v1), some (.int v2), some (.ref v3), some (.int (0 : Int32)), some (.int (0 : Int32)), none, none]) (by decide +kernel) (by decide) rfl ?_
    exact sX.le (xL38 v0 v3 ((0 : Int32)) ((0 : Int32)) M15) (sLe_s (sLe_n (sLe_n (sLe_s (sLe_s (sLe_s (sLe_n (sLe_n sLe_e))))))))
def f_X7_arrival_B27 (v0 : Nat) (v1 : Int32) (s0 : Int32) (M0 : sMem) : Option Int32 :=
  if s0 = 0 then
    some ((-1 : Int32))
  else
    (gR 7 2 0 M0 v0).bind fun x1 =>
    (ldI 14 M0 x1 v1).bind fun x2 =>
    some x2
def f_X7_arrival_B26 (v0 : Nat) (v1 : Int32) (M0 : sMem) : Option Int32 :=
  f_X7_arrival_B27 v0 v1 ((0 : Int32)) M0
def f_X7_arrival (v0 : Nat) (v1 : Int32) (M0 : sMem) : Option Int32 :=
  sRc 7 2 M0 v0 (
    if v1 < 0 then
      f_X7_arrival_B26 v0 v1 M0
    else
      if (7 : Int32) ≤ v1 then
        f_X7_arrival_B26 v0 v1 M0
      else
        (gR 7 2 0 M0 v0).bind fun x3 =>
        (ldI 14 M0 x3 v1).bind fun x4 =>
        if (200 : Int32) ≤ x4 then
          f_X7_arrival_B26 v0 v1 M0
        else
          f_X7_arrival_B27 v0 v1 ((1 : Int32)) M0)
set_option maxRecDepth 100000 in
set_option maxHeartbeats 4000000 in
theorem m_X7_arrival (G : sG) (l : Launch) (v0 : Nat) (v1 : Int32) (M0 : sMem) : sCp G l 1 yX7_arrival cX7_arrival 3 (some .int) [.ref v0, .int v1] M0 rvI (f_X7_arrival v0 v1 M0) := by
  refine sC_p (ls := [some (.ref v0), some (.int v1), none]) (by decide +kernel) rfl (Nat.le_of_ble_eq_true rfl) (fun r M' K hr => ?_)
  unfold f_X7_arrival
  have xB27 : ∀ (v0 : Nat) (v1 : Int32) (s0 : Int32), sX G l 1 yX7_arrival cX7_arrival 3 (some .int) M0 r M' 27 [some (.ref v0), some (.int v1), none] [.int s0] M0 (f_X7_arrival_B27 v0 v1 s0 M0) K := by
    intro v0 v1 s0
    unfold f_X7_arrival_B27
    refine sX_istore_n (i := 2) (ls2 := [some (.ref v0), some (.int v1), some (.int s0)]) (by decide +kernel) (by decide) rfl ?_
    refine sX_iload_n (i := 2) (by decide +kernel) rfl ?_
    refine sX_ifeq (o := 12) (t := 41) (by decide +kernel) (by decide) (fun _ => ?_) (fun _ => ?_)
    · refine sX_iconst (n := -1) (v := (-1 : Int32)) (by decide +kernel) (by decide) ?_
      exact sX_some (fun h _ => sW_iret (by decide +kernel) rfl (hr _ h).1.symm (hr _ h).2.symm)
    · refine sX_aload_n (i := 0) (by decide +kernel) rfl ?_
      refine sX_getR lf_X7_9 tk_7_0 (by decide +kernel) (fun x1 => ?_)
      refine sX_iload_n (i := 1) (by decide +kernel) rfl ?_
      refine sX_iaload (by decide +kernel) (fun x2 => ?_)
      refine sX_goto (o := 4) (t := 42) (by decide +kernel) (by decide) ?_
      exact sX_some (fun h _ => sW_iret (by decide +kernel) rfl (hr _ h).1.symm (hr _ h).2.symm)
  have xB26 : ∀ (v0 : Nat) (v1 : Int32), sX G l 1 yX7_arrival cX7_arrival 3 (some .int) M0 r M' 26 [some (.ref v0), some (.int v1), none] [] M0 (f_X7_arrival_B26 v0 v1 M0) K := by
    intro v0 v1
    unfold f_X7_arrival_B26
    refine sX_iconst (n := 0) (v := (0 : Int32)) (by decide +kernel) (by decide) ?_
    exact sX.le (xB27 v0 v1 ((0 : Int32))) (sLe_s (sLe_s (sLe_n sLe_e)))
  refine sX_rc ?_
  refine sX_iload_n (i := 1) (by decide +kernel) rfl ?_
  refine sX_iflt (o := 25) (t := 26) (by decide +kernel) (by decide) (fun _ => ?_) (fun _ => ?_)
  · exact sX.le (xB26 v0 v1) (sLe_s (sLe_s (sLe_n sLe_e)))
  · refine sX_iload_n (i := 1) (by decide +kernel) rfl ?_
    refine sX_bipush (n := 7) (v := (7 : Int32)) (by decide +kernel) (by decide) ?_
    refine sX_icge (o := 19) (t := 26) (by decide +kernel) (by decide) (fun _ => ?_) (fun _ => ?_)
    · exact sX.le (xB26 v0 v1) (sLe_s (sLe_s (sLe_n sLe_e)))
    · refine sX_aload_n (i := 0) (by decide +kernel) rfl ?_
      refine sX_getR lf_X7_9 tk_7_0 (by decide +kernel) (fun x3 => ?_)
      refine sX_iload_n (i := 1) (by decide +kernel) rfl ?_
      refine sX_iaload (by decide +kernel) (fun x4 => ?_)
      refine sX_sipush (n := 200) (v := (200 : Int32)) (by decide +kernel) (by decide) ?_
      refine sX_icge (o := 7) (t := 26) (by decide +kernel) (by decide) (fun _ => ?_) (fun _ => ?_)
      · exact sX.le (xB26 v0 v1) (sLe_s (sLe_s (sLe_n sLe_e)))
      · refine sX_iconst (n := 1) (v := (1 : Int32)) (by decide +kernel) (by decide) ?_
        refine sX_goto (o := 4) (t := 27) (by decide +kernel) (by decide) ?_
        exact sX.le (xB27 v0 v1 ((1 : Int32))) (sLe_s (sLe_s (sLe_n sLe_e)))
def f_X0_arrivalFrom (v0 : Nat) (v1 : Nat) (v2 : Int32) (v3 : Int32) (v4 : Nat) (M0 : sMem) : Option (Int32 × sMem) :=
  sRc 0 7 M0 v0 (
    (gR 0 7 2 M0 v0).bind fun x1 =>
    (gR 8 8 3 M0 v1).bind fun x2 =>
    (ldI 14 M0 x2 v2).bind fun x3 =>
    (f_X7_go x1 x3 v3 v4 M0).bind fun M4 =>
    (gR 0 7 2 M4 v0).bind fun x5 =>
    (gR 8 8 4 M4 v1).bind fun x6 =>
    (ldI 14 M4 x6 v2).bind fun x7 =>
    (f_X7_arrival x5 x7 M4).bind fun x8 =>
    some ((x8, M4)))
set_option maxRecDepth 100000 in
set_option maxHeartbeats 4000000 in
theorem m_X0_arrivalFrom (G : sG) (l : Launch) (v0 : Nat) (v1 : Nat) (v2 : Int32) (v3 : Int32) (v4 : Nat) (M0 : sMem) : sC G l 5 yX0_arrivalFrom cX0_arrivalFrom 5 (some .int) [.ref v0, .ref v1, .int v2, .int v3, .ref v4] M0 rvI (f_X0_arrivalFrom v0 v1 v2 v3 v4 M0) := by
  refine sC_m (ls := [some (.ref v0), some (.ref v1), some (.int v2), some (.int v3), some (.ref v4)]) (by decide +kernel) rfl (Nat.le_of_ble_eq_true rfl) (fun r M' K hr => ?_)
  unfold f_X0_arrivalFrom
  refine sX_rc ?_
  refine sX_aload_n (i := 0) (by decide +kernel) rfl ?_
  refine sX_getR lf_X0_47 tk_0_2 (by decide +kernel) (fun x1 => ?_)
  refine sX_aload_n (i := 1) (by decide +kernel) rfl ?_
  refine sX_getR lf_X0_55 tk_8_3 (by decide +kernel) (fun x2 => ?_)
  refine sX_iload_n (i := 2) (by decide +kernel) rfl ?_
  refine sX_iaload (by decide +kernel) (fun x3 => ?_)
  refine sX_iload_n (i := 3) (by decide +kernel) rfl ?_
  refine sX_aload (i := 4) (by decide +kernel) rfl ?_
  refine sX_callVv (As := [.int x3, .int v3, .ref v4]) (by decide +kernel) lm_X0_60 mf_X7_go mi_X7_go mc_7 (m_X7_go G l x1 x3 v3 v4 M0) (fun _ h => sRc_some h) (by decide) rfl rfl (Nat.le_of_ble_eq_true rfl) (fun M4 => ?_)
  refine sX_aload_n (i := 0) (by decide +kernel) rfl ?_
  refine sX_getR lf_X0_47 tk_0_2 (by decide +kernel) (fun x5 => ?_)
  refine sX_aload_n (i := 1) (by decide +kernel) rfl ?_
  refine sX_getR lf_X0_64 tk_8_4 (by decide +kernel) (fun x6 => ?_)
  refine sX_iload_n (i := 2) (by decide +kernel) rfl ?_
  refine sX_iaload (by decide +kernel) (fun x7 => ?_)
  refine sX_callVp (As := [.int x7]) (by decide +kernel) lm_X0_67 mf_X7_arrival mi_X7_arrival mc_7 (m_X7_arrival G l x5 x7 M4) (fun _ h => sRc_some h) (by decide) rfl rfl (Nat.le_of_ble_eq_true rfl) (fun x8 => ?_)
  exact sX_some (fun h _ => sW_iret (by decide +kernel) rfl (hr _ h).1.symm (hr _ h).2.symm)
def f_X0_waitOf_B85 (M : sMem) : Option (Int32 × sMem) :=
  some (((-1 : Int32), M))
def f_X0_waitOf (v0 : Nat) (v1 : Nat) (v2 : Int32) (v3 : Nat) (M0 : sMem) : Option (Int32 × sMem) :=
  sRc 0 7 M0 v0 (
    (gR 0 7 3 M0 v0).bind fun x1 =>
    (gR 1 10 5 M0 x1).bind fun x2 =>
    (f_X9_cell x2 v2 ((2 : Int32)) M0).bind fun x3 =>
    (gR 0 7 2 M0 v0).bind fun x4 =>
    (gR 8 8 3 M0 v1).bind fun x5 =>
    (ldI 14 M0 x5 v2).bind fun x6 =>
    (gR 0 7 5 M0 v0).bind fun x7 =>
    (f_X7_go x4 x6 x3 x7 M0).bind fun M8 =>
    (gR 0 7 2 M8 v0).bind fun x9 =>
    (gR 8 8 4 M8 v1).bind fun x10 =>
    (ldI 14 M8 x10 v2).bind fun x11 =>
    (f_X7_arrival x9 x11 M8).bind fun x12 =>
    (gR 0 7 2 M8 v0).bind fun x13 =>
    (gR 8 8 3 M8 v1).bind fun x14 =>
    (ldI 14 M8 x14 v2).bind fun x15 =>
    (f_X7_go x13 x15 x3 v3 M8).bind fun M16 =>
    (gR 0 7 2 M16 v0).bind fun x17 =>
    (gR 8 8 4 M16 v1).bind fun x18 =>
    (ldI 14 M16 x18 v2).bind fun x19 =>
    (f_X7_arrival x17 x19 M16).bind fun x20 =>
    if x20 = (-1 : Int32) then
      f_X0_waitOf_B85 M16
    else
      some (((x20 - x12), M16)))
set_option maxRecDepth 100000 in
set_option maxHeartbeats 4000000 in
theorem m_X0_waitOf (G : sG) (l : Launch) (v0 : Nat) (v1 : Nat) (v2 : Int32) (v3 : Nat) (M0 : sMem) : sC G l 5 yX0_waitOf cX0_waitOf 7 (some .int) [.ref v0, .ref v1, .int v2, .ref v3] M0 rvI (f_X0_waitOf v0 v1 v2 v3 M0) := by
  refine sC_m (ls := [some (.ref v0), some (.ref v1), some (.int v2), some (.ref v3), none, none, none]) (by decide +kernel) rfl (Nat.le_of_ble_eq_true rfl) (fun r M' K hr => ?_)
  unfold f_X0_waitOf
  have xB85 : ∀ (M : sMem), sX G l 5 yX0_waitOf cX0_waitOf 7 (some .int) M0 r M' 85 [none, none, none, none, none, none, none] [] M (f_X0_waitOf_B85 M) K := by
    intro M
    unfold f_X0_waitOf_B85
    refine sX_iconst (n := -1) (v := (-1 : Int32)) (by decide +kernel) (by decide) ?_
    refine sX_goto (o := 8) (t := 94) (by decide +kernel) (by decide) ?_
    exact sX_some (fun h _ => sW_iret (by decide +kernel) rfl (hr _ h).1.symm (hr _ h).2.symm)
  refine sX_rc ?_
  refine sX_aload_n (i := 0) (by decide +kernel) rfl ?_
  refine sX_getR lf_X0_29 tk_0_3 (by decide +kernel) (fun x1 => ?_)
  refine sX_getR lf_X0_71 tk_1_5 (by decide +kernel) (fun x2 => ?_)
  refine sX_iload_n (i := 2) (by decide +kernel) rfl ?_
  refine sX_iconst (n := 2) (v := (2 : Int32)) (by decide +kernel) (by decide) ?_
  refine sX_callVp (As := [.int v2, .int (2 : Int32)]) (by decide +kernel) lm_X0_77 mf_X9_cell mi_X9_cell mc_9 (m_X9_cell G l x2 v2 ((2 : Int32)) M0) (fun _ h => sRc_some h) (by decide) rfl rfl (Nat.le_of_ble_eq_true rfl) (fun x3 => ?_)
  refine sX_istore (i := 4) (ls2 := [some (.ref v0), some (.ref v1), some (.int v2), some (.ref v3), some (.int x3), none, none]) (by decide +kernel) (by decide) rfl ?_
  refine sX_aload_n (i := 0) (by decide +kernel) rfl ?_
  refine sX_getR lf_X0_47 tk_0_2 (by decide +kernel) (fun x4 => ?_)
  refine sX_aload_n (i := 1) (by decide +kernel) rfl ?_
  refine sX_getR lf_X0_55 tk_8_3 (by decide +kernel) (fun x5 => ?_)
  refine sX_iload_n (i := 2) (by decide +kernel) rfl ?_
  refine sX_iaload (by decide +kernel) (fun x6 => ?_)
  refine sX_iload (i := 4) (by decide +kernel) rfl ?_
  refine sX_aload_n (i := 0) (by decide +kernel) rfl ?_
  refine sX_getR lf_X0_22 tk_0_5 (by decide +kernel) (fun x7 => ?_)
  refine sX_callVv (As := [.int x6, .int x3, .ref x7]) (by decide +kernel) lm_X0_60 mf_X7_go mi_X7_go mc_7 (m_X7_go G l x4 x6 x3 x7 M0) (fun _ h => sRc_some h) (by decide) rfl rfl (Nat.le_of_ble_eq_true rfl) (fun M8 => ?_)
  refine sX_aload_n (i := 0) (by decide +kernel) rfl ?_
  refine sX_getR lf_X0_47 tk_0_2 (by decide +kernel) (fun x9 => ?_)
  refine sX_aload_n (i := 1) (by decide +kernel) rfl ?_
  refine sX_getR lf_X0_64 tk_8_4 (by decide +kernel) (fun x10 => ?_)
  refine sX_iload_n (i := 2) (by decide +kernel) rfl ?_
  refine sX_iaload (by decide +kernel) (fun x11 => ?_)
  refine sX_callVp (As := [.int x11]) (by decide +kernel) lm_X0_67 mf_X7_arrival mi_X7_arrival mc_7 (m_X7_arrival G l x9 x11 M8) (fun _ h => sRc_some h) (by decide) rfl rfl (Nat.le_of_ble_eq_true rfl) (fun x12 => ?_)
  refine sX_istore (i := 5) (ls2 := [some (.ref v0), some (.ref v1), some (.int v2), some (.ref v3), some (.int x3), some (.int x12), none]) (by decide +kernel) (by decide) rfl ?_
  refine sX_aload_n (i := 0) (by decide +kernel) rfl ?_
  refine sX_getR lf_X0_47 tk_0_2 (by decide +kernel) (fun x13 => ?_)
  refine sX_aload_n (i := 1) (by decide +kernel) rfl ?_
  refine sX_getR lf_X0_55 tk_8_3 (by decide +kernel) (fun x14 => ?_)
  refine sX_iload_n (i := 2) (by decide +kernel) rfl ?_
  refine sX_iaload (by decide +kernel) (fun x15 => ?_)
  refine sX_iload (i := 4) (by decide +kernel) rfl ?_
  refine sX_aload_n (i := 3) (by decide +kernel) rfl ?_
  refine sX_callVv (As := [.int x15, .int x3, .ref v3]) (by decide +kernel) lm_X0_60 mf_X7_go mi_X7_go mc_7 (m_X7_go G l x13 x15 x3 v3 M8) (fun _ h => sRc_some h) (by decide) rfl rfl (Nat.le_of_ble_eq_true rfl) (fun M16 => ?_)
  refine sX_aload_n (i := 0) (by decide +kernel) rfl ?_
  refine sX_getR lf_X0_47 tk_0_2 (by decide +kernel) (fun x17 => ?_)
  refine sX_aload_n (i := 1) (by decide +kernel) rfl ?_
  refine sX_getR lf_X0_64 tk_8_4 (by decide +kernel) (fun x18 => ?_)
  refine sX_iload_n (i := 2) (by decide +kernel) rfl ?_
  refine sX_iaload (by decide +kernel) (fun x19 => ?_)
  refine sX_callVp (As := [.int x19]) (by decide +kernel) lm_X0_67 mf_X7_arrival mi_X7_arrival mc_7 (m_X7_arrival G l x17 x19 M16) (fun _ h => sRc_some h) (by decide) rfl rfl (Nat.le_of_ble_eq_true rfl) (fun x20 => ?_)
  refine sX_istore (i := 6) (ls2 := [some (.ref v0), some (.ref v1), some (.int v2), some (.ref v3), some (.int x3), some (.int x12), some (.int x20)]) (by decide +kernel) (by decide) rfl ?_
  refine sX_iload (i := 6) (by decide +kernel) rfl ?_
  refine sX_iconst (n := -1) (v := (-1 : Int32)) (by decide +kernel) (by decide) ?_
  refine sX_icne (o := 7) (t := 89) (by decide +kernel) (by decide) (fun _ => ?_) (fun _ => ?_)
  · exact sX.le (xB85 M16) (sLe_n (sLe_n (sLe_n (sLe_n (sLe_n (sLe_n (sLe_n sLe_e)))))))
  · refine sX_iload (i := 6) (by decide +kernel) rfl ?_
    refine sX_iload (i := 5) (by decide +kernel) rfl ?_
    refine sX_isub (by decide +kernel) ?_
    exact sX_some (fun h _ => sW_iret (by decide +kernel) rfl (hr _ h).1.symm (hr _ h).2.symm)
def f_J7_fill_d0a16_K6 (v0 : Nat) (v1 : Int64) (v4 : Int32) (v3 : Int32) (M : sMem) : Option ((Int32 × sMem) ⊕ ((sMem))) :=
  if v4 ≤ v3 then
    some (.inr M)
  else
    (stJ M v0 v3 v1).bind fun M1 =>
    some (.inl ((((v3 + (1 : Int32))), M1)))
def f_J7_fill_d0a16_L6 (v0 : Nat) (v1 : Int64) (v3 : Int32) (v4 : Int32) (M : sMem) : Option sMem :=
  (sItr (fun a : (Int32 × sMem) => f_J7_fill_d0a16_K6 v0 v1 v4 a.1 a.2) sFuel (v3, M)).bind (fun b => some b)
def f_J7_fill_d0a16 (v0 : Nat) (v1 : Int64) (M0 : sMem) : Option sMem :=
  (aL 15 M0 v0).bind fun x2 =>
  f_J7_fill_d0a16_L6 v0 v1 ((0 : Int32)) x2 M0
set_option maxRecDepth 100000 in
set_option maxHeartbeats 4000000 in
theorem m_J7_fill_d0a16 (G : sG) (l : Launch) (v0 : Nat) (v1 : Int64) (M0 : sMem) : sCv G l 1 yJ7_fill_d0a16 cJ7_fill_d0a16 5 none [.ref v0, .long v1] M0 (f_J7_fill_d0a16 v0 v1 M0) := by
  refine sC_v (ls := [some (.ref v0), some (.long v1), none, none, none]) (by decide +kernel) rfl (Nat.le_of_ble_eq_true rfl) (fun r M' K hr => ?_)
  unfold f_J7_fill_d0a16
  have xL6 : ∀ (v0 : Nat) (v1 : Int64) (v3 : Int32) (v4 : Int32) (M : sMem), sX G l 1 yJ7_fill_d0a16 cJ7_fill_d0a16 5 none M0 r M' 6 [some (.ref v0), some (.long v1), none, some (.int v3), some (.int v4)] [] M (f_J7_fill_d0a16_L6 v0 v1 v3 v4 M) K := by
    intro v0 v1 v3 v4 M
    unfold f_J7_fill_d0a16_L6
    refine sX_bind ?_
    refine sX_loop (LS := fun a : (Int32 × sMem) => [some (.ref v0), some (.long v1), none, some (.int a.1), some (.int v4)]) (MM := fun a => a.2) (fun K1 hb1 he1 => ?_) sFuel ((v3, M))
    have xK6 : ∀ (v3 : Int32) (M : sMem), sX G l 1 yJ7_fill_d0a16 cJ7_fill_d0a16 5 none M0 r M' 6 [some (.ref v0), some (.long v1), none, some (.int v3), some (.int v4)] [] M (f_J7_fill_d0a16_K6 v0 v1 v4 v3 M) K1 := by
      intro v3 M
      unfold f_J7_fill_d0a16_K6
      refine sX_iload_n (i := 3) (by decide +kernel) rfl ?_
      refine sX_iload (i := 4) (by decide +kernel) rfl ?_
      refine sX_icge (o := 13) (t := 22) (by decide +kernel) (by decide) (fun _ => ?_) (fun _ => ?_)
      · refine sX_exit he1 ?_
        exact sX_some (fun h _ => sW_vret (by decide +kernel) rfl (hr _ h).1.symm (hr _ h).2.symm)
      · refine sX_aload_n (i := 0) (by decide +kernel) rfl ?_
        refine sX_iload_n (i := 3) (by decide +kernel) rfl ?_
        refine sX_lload_n (i := 1) (by decide +kernel) rfl ?_
        refine sX_lastore (by decide +kernel) (by decide) (fun M1 => ?_)
        refine sX_iinc (i := 3) (n := 1) (v := v3 + (1 : Int32)) (ls2 := [some (.ref v0), some (.long v1), none, some (.int (v3 + (1 : Int32))), some (.int v4)]) (by decide +kernel) rfl rfl (by decide) rfl ?_
        refine sX_goto (o := -13) (t := 6) (by decide +kernel) (by decide) ?_
        exact sX_back (a := (((v3 + (1 : Int32))), M1)) hb1 rfl (sLe_s (sLe_s (sLe_n (sLe_s (sLe_s sLe_e)))))
    exact fun a => xK6 a.1 a.2
  refine sX_iconst (n := 0) (v := (0 : Int32)) (by decide +kernel) (by decide) ?_
  refine sX_istore_n (i := 3) (ls2 := [some (.ref v0), some (.long v1), none, some (.int (0 : Int32)), none]) (by decide +kernel) (by decide) rfl ?_
  refine sX_aload_n (i := 0) (by decide +kernel) rfl ?_
  refine sX_alen (by decide) (by decide) (by decide +kernel) (fun x2 => ?_)
  refine sX_istore (i := 4) (ls2 := [some (.ref v0), some (.long v1), none, some (.int (0 : Int32)), some (.int x2)]) (by decide +kernel) (by decide) rfl ?_
  exact sX.le (xL6 v0 v1 ((0 : Int32)) x2 M0) (sLe_s (sLe_s (sLe_n (sLe_s (sLe_s sLe_e)))))
def f_X4_headOf_B70 (v5 : Int32) (s0 : Int32) (M0 : sMem) : Option Int32 :=
  if s0 = 0 then
    some ((-1 : Int32))
  else
    some v5
def f_X4_headOf_B69 (v5 : Int32) (M0 : sMem) : Option Int32 :=
  f_X4_headOf_B70 v5 ((0 : Int32)) M0
def f_X4_headOf (v0 : Nat) (v1 : Int32) (v2 : Int32) (v3 : Int32) (M0 : sMem) : Option Int32 :=
  sRc 4 5 M0 v0 (
    (gR 4 5 1 M0 v0).bind fun x1 =>
    (gR 1 10 4 M0 x1).bind fun x2 =>
    (f_X9_cell x2 v1 ((2 : Int32)) M0).bind fun x3 =>
    (gR 4 5 1 M0 v0).bind fun x4 =>
    (gR 1 10 4 M0 x4).bind fun x5 =>
    (f_X9_cell x5 v1 ((1 : Int32)) M0).bind fun x6 =>
    if ((v3 - x3) - v2) < 0 then
      f_X4_headOf_B69 ((((v3 - x3) - v2) * x6)) M0
    else
      (gR 4 5 1 M0 v0).bind fun x7 =>
      (gR 1 10 4 M0 x7).bind fun x8 =>
      (f_X9_cell x8 v1 ((0 : Int32)) M0).bind fun x9 =>
      (gR 4 5 1 M0 v0).bind fun x10 =>
      (gI 1 10 0 M0 x10).bind fun x11 =>
      if x11 < ((((v3 - x3) - v2) * x6) - x9) then
        f_X4_headOf_B69 ((((v3 - x3) - v2) * x6)) M0
      else
        f_X4_headOf_B70 ((((v3 - x3) - v2) * x6)) ((1 : Int32)) M0)
set_option maxRecDepth 100000 in
set_option maxHeartbeats 4000000 in
theorem m_X4_headOf (G : sG) (l : Launch) (v0 : Nat) (v1 : Int32) (v2 : Int32) (v3 : Int32) (M0 : sMem) : sCp G l 2 yX4_headOf cX4_headOf 7 (some .int) [.ref v0, .int v1, .int v2, .int v3] M0 rvI (f_X4_headOf v0 v1 v2 v3 M0) := by
  refine sC_p (ls := [some (.ref v0), some (.int v1), some (.int v2), some (.int v3), none, none, none]) (by decide +kernel) rfl (Nat.le_of_ble_eq_true rfl) (fun r M' K hr => ?_)
  unfold f_X4_headOf
  have xB70 : ∀ (v5 : Int32) (s0 : Int32), sX G l 2 yX4_headOf cX4_headOf 7 (some .int) M0 r M' 70 [none, none, none, none, none, some (.int v5), none] [.int s0] M0 (f_X4_headOf_B70 v5 s0 M0) K := by
    intro v5 s0
    unfold f_X4_headOf_B70
    refine sX_istore (i := 6) (ls2 := [none, none, none, none, none, some (.int v5), some (.int s0)]) (by decide +kernel) (by decide) rfl ?_
    refine sX_iload (i := 6) (by decide +kernel) rfl ?_
    refine sX_ifeq (o := 8) (t := 82) (by decide +kernel) (by decide) (fun _ => ?_) (fun _ => ?_)
    · refine sX_iconst (n := -1) (v := (-1 : Int32)) (by decide +kernel) (by decide) ?_
      exact sX_some (fun h _ => sW_iret (by decide +kernel) rfl (hr _ h).1.symm (hr _ h).2.symm)
    · refine sX_iload (i := 5) (by decide +kernel) rfl ?_
      refine sX_goto (o := 4) (t := 83) (by decide +kernel) (by decide) ?_
      exact sX_some (fun h _ => sW_iret (by decide +kernel) rfl (hr _ h).1.symm (hr _ h).2.symm)
  have xB69 : ∀ (v5 : Int32), sX G l 2 yX4_headOf cX4_headOf 7 (some .int) M0 r M' 69 [none, none, none, none, none, some (.int v5), none] [] M0 (f_X4_headOf_B69 v5 M0) K := by
    intro v5
    unfold f_X4_headOf_B69
    refine sX_iconst (n := 0) (v := (0 : Int32)) (by decide +kernel) (by decide) ?_
    exact sX.le (xB70 v5 ((0 : Int32))) (sLe_n (sLe_n (sLe_n (sLe_n (sLe_n (sLe_s (sLe_n sLe_e)))))))
  refine sX_rc ?_
  refine sX_iload_n (i := 3) (by decide +kernel) rfl ?_
  refine sX_aload_n (i := 0) (by decide +kernel) rfl ?_
  refine sX_getR lf_X4_28 tk_4_1 (by decide +kernel) (fun x1 => ?_)
  refine sX_getR lf_X4_38 tk_1_4 (by decide +kernel) (fun x2 => ?_)
  refine sX_iload_n (i := 1) (by decide +kernel) rfl ?_
  refine sX_iconst (n := 2) (v := (2 : Int32)) (by decide +kernel) (by decide) ?_
  refine sX_callVp (As := [.int v1, .int (2 : Int32)]) (by decide +kernel) lm_X4_44 mf_X9_cell mi_X9_cell mc_9 (m_X9_cell G l x2 v1 ((2 : Int32)) M0) (fun _ h => sRc_some h) (by decide) rfl rfl (Nat.le_of_ble_eq_true rfl) (fun x3 => ?_)
  refine sX_isub (by decide +kernel) ?_
  refine sX_iload_n (i := 2) (by decide +kernel) rfl ?_
  refine sX_isub (by decide +kernel) ?_
  refine sX_istore (i := 4) (ls2 := [some (.ref v0), some (.int v1), some (.int v2), some (.int v3), some (.int ((v3 - x3) - v2)), none, none]) (by decide +kernel) (by decide) rfl ?_
  refine sX_iload (i := 4) (by decide +kernel) rfl ?_
  refine sX_aload_n (i := 0) (by decide +kernel) rfl ?_
  refine sX_getR lf_X4_28 tk_4_1 (by decide +kernel) (fun x4 => ?_)
  refine sX_getR lf_X4_38 tk_1_4 (by decide +kernel) (fun x5 => ?_)
  refine sX_iload_n (i := 1) (by decide +kernel) rfl ?_
  refine sX_iconst (n := 1) (v := (1 : Int32)) (by decide +kernel) (by decide) ?_
  refine sX_callVp (As := [.int v1, .int (1 : Int32)]) (by decide +kernel) lm_X4_44 mf_X9_cell mi_X9_cell mc_9 (m_X9_cell G l x5 v1 ((1 : Int32)) M0) (fun _ h => sRc_some h) (by decide) rfl rfl (Nat.le_of_ble_eq_true rfl) (fun x6 => ?_)
  refine sX_imul (by decide +kernel) ?_
  refine sX_istore (i := 5) (ls2 := [some (.ref v0), some (.int v1), some (.int v2), some (.int v3), some (.int ((v3 - x3) - v2)), some (.int (((v3 - x3) - v2) * x6)), none]) (by decide +kernel) (by decide) rfl ?_
  refine sX_iload (i := 4) (by decide +kernel) rfl ?_
  refine sX_iflt (o := 32) (t := 69) (by decide +kernel) (by decide) (fun _ => ?_) (fun _ => ?_)
  · exact sX.le (xB69 ((((v3 - x3) - v2) * x6))) (sLe_n (sLe_n (sLe_n (sLe_n (sLe_n (sLe_s (sLe_n sLe_e)))))))
  · refine sX_iload (i := 5) (by decide +kernel) rfl ?_
    refine sX_aload_n (i := 0) (by decide +kernel) rfl ?_
    refine sX_getR lf_X4_28 tk_4_1 (by decide +kernel) (fun x7 => ?_)
    refine sX_getR lf_X4_38 tk_1_4 (by decide +kernel) (fun x8 => ?_)
    refine sX_iload_n (i := 1) (by decide +kernel) rfl ?_
    refine sX_iconst (n := 0) (v := (0 : Int32)) (by decide +kernel) (by decide) ?_
    refine sX_callVp (As := [.int v1, .int (0 : Int32)]) (by decide +kernel) lm_X4_44 mf_X9_cell mi_X9_cell mc_9 (m_X9_cell G l x8 v1 ((0 : Int32)) M0) (fun _ h => sRc_some h) (by decide) rfl rfl (Nat.le_of_ble_eq_true rfl) (fun x9 => ?_)
    refine sX_isub (by decide +kernel) ?_
    refine sX_aload_n (i := 0) (by decide +kernel) rfl ?_
    refine sX_getR lf_X4_28 tk_4_1 (by decide +kernel) (fun x10 => ?_)
    refine sX_getI lf_X4_50 tk_1_0 (by decide +kernel) (fun x11 => ?_)
    refine sX_icgt (o := 7) (t := 69) (by decide +kernel) (by decide) (fun _ => ?_) (fun _ => ?_)
    · exact sX.le (xB69 ((((v3 - x3) - v2) * x6))) (sLe_n (sLe_n (sLe_n (sLe_n (sLe_n (sLe_s (sLe_n sLe_e)))))))
    · refine sX_iconst (n := 1) (v := (1 : Int32)) (by decide +kernel) (by decide) ?_
      refine sX_goto (o := 4) (t := 70) (by decide +kernel) (by decide) ?_
      exact sX.le (xB70 ((((v3 - x3) - v2) * x6)) ((1 : Int32))) (sLe_n (sLe_n (sLe_n (sLe_n (sLe_n (sLe_s (sLe_n sLe_e)))))))
def f_X4_setFacts_B93 (v0 : Nat) (v4 : Int32) (M : sMem) : Option sMem :=
  (gR 4 5 0 M v0).bind fun x1 =>
  (gR 2 5 0 M x1).bind fun x2 =>
  (stI M x2 ((20 : Int32)) v4).bind fun M3 =>
  some M3
def f_X4_setFacts (v0 : Nat) (v1 : Int32) (v2 : Int32) (v3 : Int32) (v4 : Int32) (M0 : sMem) : Option sMem :=
  sRc 4 5 M0 v0 (
    (gR 4 5 1 M0 v0).bind fun x4 =>
    (gR 1 10 1 M0 x4).bind fun x5 =>
    (f_X9_cell x5 v2 ((0 : Int32)) M0).bind fun x6 =>
    (gR 4 5 1 M0 v0).bind fun x7 =>
    (gR 1 10 4 M0 x7).bind fun x8 =>
    (f_X9_cell x8 v1 ((0 : Int32)) M0).bind fun x9 =>
    (gR 4 5 0 M0 v0).bind fun x10 =>
    (gR 2 5 0 M0 x10).bind fun x11 =>
    (stI M0 x11 ((18 : Int32)) ((x6 - v3))).bind fun M12 =>
    (gR 4 5 0 M12 v0).bind fun x13 =>
    (gR 2 5 0 M12 x13).bind fun x14 =>
    (stI M12 x14 ((19 : Int32)) (((v3 - x9) - x6))).bind fun M15 =>
    (gR 4 5 0 M15 v0).bind fun x16 =>
    (gR 2 5 0 M15 x16).bind fun x17 =>
    (stI M15 x17 ((10 : Int32)) x9).bind fun M18 =>
    (gR 4 5 0 M18 v0).bind fun x19 =>
    (gR 2 5 0 M18 x19).bind fun x20 =>
    (gR 4 5 1 M18 v0).bind fun x21 =>
    (gR 1 10 4 M18 x21).bind fun x22 =>
    (f_X9_cell x22 v1 ((1 : Int32)) M18).bind fun x23 =>
    (stI M18 x20 ((11 : Int32)) x23).bind fun M24 =>
    f_X4_setFacts_B93 v0 v4 M24)
set_option maxRecDepth 100000 in
set_option maxHeartbeats 4000000 in
theorem m_X4_setFacts (G : sG) (l : Launch) (v0 : Nat) (v1 : Int32) (v2 : Int32) (v3 : Int32) (v4 : Int32) (M0 : sMem) : sCv G l 2 yX4_setFacts cX4_setFacts 7 none [.ref v0, .int v1, .int v2, .int v3, .int v4] M0 (f_X4_setFacts v0 v1 v2 v3 v4 M0) := by
  refine sC_v (ls := [some (.ref v0), some (.int v1), some (.int v2), some (.int v3), some (.int v4), none, none]) (by decide +kernel) rfl (Nat.le_of_ble_eq_true rfl) (fun r M' K hr => ?_)
  unfold f_X4_setFacts
  have xB93 : ∀ (v0 : Nat) (v4 : Int32) (M : sMem), sX G l 2 yX4_setFacts cX4_setFacts 7 none M0 r M' 93 [some (.ref v0), none, none, none, some (.int v4), none, none] [] M (f_X4_setFacts_B93 v0 v4 M) K := by
    intro v0 v4 M
    unfold f_X4_setFacts_B93
    refine sX_aload_n (i := 0) (by decide +kernel) rfl ?_
    refine sX_getR lf_X4_24 tk_4_0 (by decide +kernel) (fun x1 => ?_)
    refine sX_getR lf_X4_94 tk_2_0 (by decide +kernel) (fun x2 => ?_)
    refine sX_bipush (n := 20) (v := (20 : Int32)) (by decide +kernel) (by decide) ?_
    refine sX_iload (i := 4) (by decide +kernel) rfl ?_
    refine sX_iastore (by decide +kernel) (by decide) (fun M3 => ?_)
    exact sX_some (fun h _ => sW_vret (by decide +kernel) rfl (hr _ h).1.symm (hr _ h).2.symm)
  refine sX_rc ?_
  refine sX_aload_n (i := 0) (by decide +kernel) rfl ?_
  refine sX_getR lf_X4_28 tk_4_1 (by decide +kernel) (fun x4 => ?_)
  refine sX_getR lf_X4_73 tk_1_1 (by decide +kernel) (fun x5 => ?_)
  refine sX_iload_n (i := 2) (by decide +kernel) rfl ?_
  refine sX_iconst (n := 0) (v := (0 : Int32)) (by decide +kernel) (by decide) ?_
  refine sX_callVp (As := [.int v2, .int (0 : Int32)]) (by decide +kernel) lm_X4_44 mf_X9_cell mi_X9_cell mc_9 (m_X9_cell G l x5 v2 ((0 : Int32)) M0) (fun _ h => sRc_some h) (by decide) rfl rfl (Nat.le_of_ble_eq_true rfl) (fun x6 => ?_)
  refine sX_istore (i := 5) (ls2 := [some (.ref v0), some (.int v1), some (.int v2), some (.int v3), some (.int v4), some (.int x6), none]) (by decide +kernel) (by decide) rfl ?_
  refine sX_aload_n (i := 0) (by decide +kernel) rfl ?_
  refine sX_getR lf_X4_28 tk_4_1 (by decide +kernel) (fun x7 => ?_)
  refine sX_getR lf_X4_38 tk_1_4 (by decide +kernel) (fun x8 => ?_)
  refine sX_iload_n (i := 1) (by decide +kernel) rfl ?_
  refine sX_iconst (n := 0) (v := (0 : Int32)) (by decide +kernel) (by decide) ?_
  refine sX_callVp (As := [.int v1, .int (0 : Int32)]) (by decide +kernel) lm_X4_44 mf_X9_cell mi_X9_cell mc_9 (m_X9_cell G l x8 v1 ((0 : Int32)) M0) (fun _ h => sRc_some h) (by decide) rfl rfl (Nat.le_of_ble_eq_true rfl) (fun x9 => ?_)
  refine sX_istore (i := 6) (ls2 := [some (.ref v0), some (.int v1), some (.int v2), some (.int v3), some (.int v4), some (.int x6), some (.int x9)]) (by decide +kernel) (by decide) rfl ?_
  refine sX_aload_n (i := 0) (by decide +kernel) rfl ?_
  refine sX_getR lf_X4_24 tk_4_0 (by decide +kernel) (fun x10 => ?_)
  refine sX_getR lf_X4_94 tk_2_0 (by decide +kernel) (fun x11 => ?_)
  refine sX_bipush (n := 18) (v := (18 : Int32)) (by decide +kernel) (by decide) ?_
  refine sX_iload (i := 5) (by decide +kernel) rfl ?_
  refine sX_iload_n (i := 3) (by decide +kernel) rfl ?_
  refine sX_isub (by decide +kernel) ?_
  refine sX_iastore (by decide +kernel) (by decide) (fun M12 => ?_)
  refine sX_aload_n (i := 0) (by decide +kernel) rfl ?_
  refine sX_getR lf_X4_24 tk_4_0 (by decide +kernel) (fun x13 => ?_)
  refine sX_getR lf_X4_94 tk_2_0 (by decide +kernel) (fun x14 => ?_)
  refine sX_bipush (n := 19) (v := (19 : Int32)) (by decide +kernel) (by decide) ?_
  refine sX_iload_n (i := 3) (by decide +kernel) rfl ?_
  refine sX_iload (i := 6) (by decide +kernel) rfl ?_
  refine sX_isub (by decide +kernel) ?_
  refine sX_iload (i := 5) (by decide +kernel) rfl ?_
  refine sX_isub (by decide +kernel) ?_
  refine sX_iastore (by decide +kernel) (by decide) (fun M15 => ?_)
  refine sX_aload_n (i := 0) (by decide +kernel) rfl ?_
  refine sX_getR lf_X4_24 tk_4_0 (by decide +kernel) (fun x16 => ?_)
  refine sX_getR lf_X4_94 tk_2_0 (by decide +kernel) (fun x17 => ?_)
  refine sX_bipush (n := 10) (v := (10 : Int32)) (by decide +kernel) (by decide) ?_
  refine sX_iload (i := 6) (by decide +kernel) rfl ?_
  refine sX_iastore (by decide +kernel) (by decide) (fun M18 => ?_)
  refine sX_aload_n (i := 0) (by decide +kernel) rfl ?_
  refine sX_getR lf_X4_24 tk_4_0 (by decide +kernel) (fun x19 => ?_)
  refine sX_getR lf_X4_94 tk_2_0 (by decide +kernel) (fun x20 => ?_)
  refine sX_bipush (n := 11) (v := (11 : Int32)) (by decide +kernel) (by decide) ?_
  refine sX_aload_n (i := 0) (by decide +kernel) rfl ?_
  refine sX_getR lf_X4_28 tk_4_1 (by decide +kernel) (fun x21 => ?_)
  refine sX_getR lf_X4_38 tk_1_4 (by decide +kernel) (fun x22 => ?_)
  refine sX_iload_n (i := 1) (by decide +kernel) rfl ?_
  refine sX_iconst (n := 1) (v := (1 : Int32)) (by decide +kernel) (by decide) ?_
  refine sX_callVp (As := [.int v1, .int (1 : Int32)]) (by decide +kernel) lm_X4_44 mf_X9_cell mi_X9_cell mc_9 (m_X9_cell G l x22 v1 ((1 : Int32)) M18) (fun _ h => sRc_some h) (by decide) rfl rfl (Nat.le_of_ble_eq_true rfl) (fun x23 => ?_)
  refine sX_iastore (by decide +kernel) (by decide) (fun M24 => ?_)
  exact sX.le (xB93 v0 v4 M24) (sLe_s (sLe_n (sLe_n (sLe_n (sLe_s (sLe_n (sLe_n sLe_e)))))))
def f_X2_valueAt (v0 : Nat) (v1 : Int32) (v2 : Int32) (M0 : sMem) : Option Int32 :=
  if v1 < 0 then
    some v2
  else
    (aL 14 M0 v0).bind fun x1 =>
    if x1 ≤ v1 then
      some v2
    else
      (ldI 14 M0 v0 v1).bind fun x2 =>
      some x2
set_option maxRecDepth 100000 in
set_option maxHeartbeats 4000000 in
theorem m_X2_valueAt (G : sG) (l : Launch) (v0 : Nat) (v1 : Int32) (v2 : Int32) (M0 : sMem) : sCp G l 1 yX2_valueAt cX2_valueAt 3 (some .int) [.ref v0, .int v1, .int v2] M0 rvI (f_X2_valueAt v0 v1 v2 M0) := by
  refine sC_p (ls := [some (.ref v0), some (.int v1), some (.int v2)]) (by decide +kernel) rfl (Nat.le_of_ble_eq_true rfl) (fun r M' K hr => ?_)
  unfold f_X2_valueAt
  refine sX_iload_n (i := 1) (by decide +kernel) rfl ?_
  refine sX_iflt (o := 15) (t := 16) (by decide +kernel) (by decide) (fun _ => ?_) (fun _ => ?_)
  · refine sX_iload_n (i := 2) (by decide +kernel) rfl ?_
    exact sX_some (fun h _ => sW_iret (by decide +kernel) rfl (hr _ h).1.symm (hr _ h).2.symm)
  · refine sX_iload_n (i := 1) (by decide +kernel) rfl ?_
    refine sX_aload_n (i := 0) (by decide +kernel) rfl ?_
    refine sX_alen (by decide) (by decide) (by decide +kernel) (fun x1 => ?_)
    refine sX_icge (o := 9) (t := 16) (by decide +kernel) (by decide) (fun _ => ?_) (fun _ => ?_)
    · refine sX_iload_n (i := 2) (by decide +kernel) rfl ?_
      exact sX_some (fun h _ => sW_iret (by decide +kernel) rfl (hr _ h).1.symm (hr _ h).2.symm)
    · refine sX_aload_n (i := 0) (by decide +kernel) rfl ?_
      refine sX_iload_n (i := 1) (by decide +kernel) rfl ?_
      refine sX_iaload (by decide +kernel) (fun x2 => ?_)
      refine sX_goto (o := 4) (t := 17) (by decide +kernel) (by decide) ?_
      exact sX_some (fun h _ => sW_iret (by decide +kernel) rfl (hr _ h).1.symm (hr _ h).2.symm)
def f_X2_push (v0 : Nat) (v1 : Int32) (M0 : sMem) : Option sMem :=
  sRc 2 5 M0 v0 (
    (gI 2 5 4 M0 v0).bind fun x1 =>
    (gR 2 5 3 M0 v0).bind fun x2 =>
    (aL 14 M0 x2).bind fun x3 =>
    if x3 ≤ x1 then
      some M0
    else
      (gR 2 5 3 M0 v0).bind fun x4 =>
      (gI 2 5 4 M0 v0).bind fun x5 =>
      (stI M0 x4 x5 v1).bind fun M6 =>
      (gI 2 5 4 M6 v0).bind fun x7 =>
      (pI 2 5 4 M6 v0 ((x7 + (1 : Int32)))).bind fun M8 =>
      some M8)
set_option maxRecDepth 100000 in
set_option maxHeartbeats 4000000 in
theorem m_X2_push (G : sG) (l : Launch) (v0 : Nat) (v1 : Int32) (M0 : sMem) : sCv G l 1 yX2_push cX2_push 2 none [.ref v0, .int v1] M0 (f_X2_push v0 v1 M0) := by
  refine sC_v (ls := [some (.ref v0), some (.int v1)]) (by decide +kernel) rfl (Nat.le_of_ble_eq_true rfl) (fun r M' K hr => ?_)
  unfold f_X2_push
  refine sX_rc ?_
  refine sX_aload_n (i := 0) (by decide +kernel) rfl ?_
  refine sX_getI lf_X2_24 tk_2_4 (by decide +kernel) (fun x1 => ?_)
  refine sX_aload_n (i := 0) (by decide +kernel) rfl ?_
  refine sX_getR lf_X2_21 tk_2_3 (by decide +kernel) (fun x2 => ?_)
  refine sX_alen (by decide) (by decide) (by decide +kernel) (fun x3 => ?_)
  refine sX_icge (o := 23) (t := 32) (by decide +kernel) (by decide) (fun _ => ?_) (fun _ => ?_)
  · exact sX_some (fun h _ => sW_vret (by decide +kernel) rfl (hr _ h).1.symm (hr _ h).2.symm)
  · refine sX_aload_n (i := 0) (by decide +kernel) rfl ?_
    refine sX_getR lf_X2_21 tk_2_3 (by decide +kernel) (fun x4 => ?_)
    refine sX_aload_n (i := 0) (by decide +kernel) rfl ?_
    refine sX_getI lf_X2_24 tk_2_4 (by decide +kernel) (fun x5 => ?_)
    refine sX_iload_n (i := 1) (by decide +kernel) rfl ?_
    refine sX_iastore (by decide +kernel) (by decide) (fun M6 => ?_)
    refine sX_aload_n (i := 0) (by decide +kernel) rfl ?_
    refine sX_dup (by decide +kernel) rfl ?_
    refine sX_getI lf_X2_24 tk_2_4 (by decide +kernel) (fun x7 => ?_)
    refine sX_iconst (n := 1) (v := (1 : Int32)) (by decide +kernel) (by decide) ?_
    refine sX_iadd (by decide +kernel) ?_
    refine sX_putI lf_X2_24 tp_2_4 (by decide +kernel) (by decide) (fun M8 => ?_)
    exact sX_some (fun h _ => sW_vret (by decide +kernel) rfl (hr _ h).1.symm (hr _ h).2.symm)
def f_X2_pop (v0 : Nat) (M0 : sMem) : Option (Int32 × sMem) :=
  sRc 2 5 M0 v0 (
    (gI 2 5 4 M0 v0).bind fun x1 =>
    if 0 < x1 then
      (gI 2 5 4 M0 v0).bind fun x2 =>
      (pI 2 5 4 M0 v0 ((x2 - (1 : Int32)))).bind fun M3 =>
      (gR 2 5 3 M3 v0).bind fun x4 =>
      (gI 2 5 4 M3 v0).bind fun x5 =>
      (ldI 14 M3 x4 x5).bind fun x6 =>
      some ((x6, M3))
    else
      some (((0 : Int32), M0)))
set_option maxRecDepth 100000 in
set_option maxHeartbeats 4000000 in
theorem m_X2_pop (G : sG) (l : Launch) (v0 : Nat) (M0 : sMem) : sC G l 1 yX2_pop cX2_pop 1 (some .int) [.ref v0] M0 rvI (f_X2_pop v0 M0) := by
  refine sC_m (ls := [some (.ref v0)]) (by decide +kernel) rfl (Nat.le_of_ble_eq_true rfl) (fun r M' K hr => ?_)
  unfold f_X2_pop
  refine sX_rc ?_
  refine sX_aload_n (i := 0) (by decide +kernel) rfl ?_
  refine sX_getI lf_X2_24 tk_2_4 (by decide +kernel) (fun x1 => ?_)
  refine sX_ifgt (o := 5) (t := 9) (by decide +kernel) (by decide) (fun _ => ?_) (fun _ => ?_)
  · refine sX_aload_n (i := 0) (by decide +kernel) rfl ?_
    refine sX_dup (by decide +kernel) rfl ?_
    refine sX_getI lf_X2_24 tk_2_4 (by decide +kernel) (fun x2 => ?_)
    refine sX_iconst (n := 1) (v := (1 : Int32)) (by decide +kernel) (by decide) ?_
    refine sX_isub (by decide +kernel) ?_
    refine sX_putI lf_X2_24 tp_2_4 (by decide +kernel) (by decide) (fun M3 => ?_)
    refine sX_aload_n (i := 0) (by decide +kernel) rfl ?_
    refine sX_getR lf_X2_21 tk_2_3 (by decide +kernel) (fun x4 => ?_)
    refine sX_aload_n (i := 0) (by decide +kernel) rfl ?_
    refine sX_getI lf_X2_24 tk_2_4 (by decide +kernel) (fun x5 => ?_)
    refine sX_iaload (by decide +kernel) (fun x6 => ?_)
    exact sX_some (fun h _ => sW_iret (by decide +kernel) rfl (hr _ h).1.symm (hr _ h).2.symm)
  · refine sX_iconst (n := 0) (v := (0 : Int32)) (by decide +kernel) (by decide) ?_
    exact sX_some (fun h _ => sW_iret (by decide +kernel) rfl (hr _ h).1.symm (hr _ h).2.symm)
def f_X2_bounded (v0 : Int64) (M0 : sMem) : Option Int32 :=
  if v0 ≤ (1000000 : Int64) then
    if (-1000000 : Int64) ≤ v0 then
      some v0.toInt32
    else
      some ((-1000000 : Int32))
  else
    some ((1000000 : Int32))
set_option maxRecDepth 100000 in
set_option maxHeartbeats 4000000 in
theorem m_X2_bounded (G : sG) (l : Launch) (v0 : Int64) (M0 : sMem) : sCp G l 1 yX2_bounded cX2_bounded 2 (some .int) [.long v0] M0 rvI (f_X2_bounded v0 M0) := by
  refine sC_p (ls := [some (.long v0), none]) (by decide +kernel) rfl (Nat.le_of_ble_eq_true rfl) (fun r M' K hr => ?_)
  unfold f_X2_bounded
  refine sX_lload_n (i := 0) (by decide +kernel) rfl ?_
  refine sX_ldc2 (v := (1000000 : Int64)) (by decide +kernel) kl_X2_62 ?_
  refine sX_lcle (o := 8) (t := 13) (by decide +kernel) (by decide +kernel) (by decide) (fun _ => ?_) (fun _ => ?_)
  · refine sX_lload_n (i := 0) (by decide +kernel) rfl ?_
    refine sX_ldc2 (v := (-1000000 : Int64)) (by decide +kernel) kl_X2_65 ?_
    refine sX_lcge (o := 8) (t := 26) (by decide +kernel) (by decide +kernel) (by decide) (fun _ => ?_) (fun _ => ?_)
    · refine sX_lload_n (i := 0) (by decide +kernel) rfl ?_
      refine sX_l2i (by decide +kernel) ?_
      exact sX_some (fun h _ => sW_iret (by decide +kernel) rfl (hr _ h).1.symm (hr _ h).2.symm)
    · refine sX_ldc (v := (-1000000 : Int32)) (by decide +kernel) kc_X2_67 ?_
      refine sX_goto (o := 5) (t := 28) (by decide +kernel) (by decide) ?_
      exact sX_some (fun h _ => sW_iret (by decide +kernel) rfl (hr _ h).1.symm (hr _ h).2.symm)
  · refine sX_ldc (v := (1000000 : Int32)) (by decide +kernel) kc_X2_64 ?_
    refine sX_goto (o := 18) (t := 28) (by decide +kernel) (by decide) ?_
    exact sX_some (fun h _ => sW_iret (by decide +kernel) rfl (hr _ h).1.symm (hr _ h).2.symm)
def f_J9_floorDiv_7cf53 (v0 : Int32) (v1 : Int32) (M0 : sMem) : Option Int32 :=
  if v1 = 0 then none else
  if 0 ≤ (v0 ^^^ v1) then
    some ((v0 / v1))
  else
    if ((v0 / v1) * v1) = v0 then
      some ((v0 / v1))
    else
      some (((v0 / v1) - (1 : Int32)))
set_option maxRecDepth 100000 in
set_option maxHeartbeats 4000000 in
theorem m_J9_floorDiv_7cf53 (G : sG) (l : Launch) (v0 : Int32) (v1 : Int32) (M0 : sMem) : sCp G l 1 yJ9_floorDiv_7cf53 cJ9_floorDiv_7cf53 3 (some .int) [.int v0, .int v1] M0 rvI (f_J9_floorDiv_7cf53 v0 v1 M0) := by
  refine sC_p (ls := [some (.int v0), some (.int v1), none]) (by decide +kernel) rfl (Nat.le_of_ble_eq_true rfl) (fun r M' K hr => ?_)
  unfold f_J9_floorDiv_7cf53
  refine sX_iload_n (i := 0) (by decide +kernel) rfl ?_
  refine sX_iload_n (i := 1) (by decide +kernel) rfl ?_
  refine sX_if (fun _ => sX_none) (fun hz => ?_)
  refine sX_idiv (by decide +kernel) hz ?_
  refine sX_istore_n (i := 2) (ls2 := [some (.int v0), some (.int v1), some (.int (v0 / v1))]) (by decide +kernel) (by decide) rfl ?_
  refine sX_iload_n (i := 0) (by decide +kernel) rfl ?_
  refine sX_iload_n (i := 1) (by decide +kernel) rfl ?_
  refine sX_ixor (by decide +kernel) ?_
  refine sX_ifge (o := 14) (t := 21) (by decide +kernel) (by decide) (fun _ => ?_) (fun _ => ?_)
  · refine sX_iload_n (i := 2) (by decide +kernel) rfl ?_
    exact sX_some (fun h _ => sW_iret (by decide +kernel) rfl (hr _ h).1.symm (hr _ h).2.symm)
  · refine sX_iload_n (i := 2) (by decide +kernel) rfl ?_
    refine sX_iload_n (i := 1) (by decide +kernel) rfl ?_
    refine sX_imul (by decide +kernel) ?_
    refine sX_iload_n (i := 0) (by decide +kernel) rfl ?_
    refine sX_iceq (o := 7) (t := 21) (by decide +kernel) (by decide) (fun _ => ?_) (fun _ => ?_)
    · refine sX_iload_n (i := 2) (by decide +kernel) rfl ?_
      exact sX_some (fun h _ => sW_iret (by decide +kernel) rfl (hr _ h).1.symm (hr _ h).2.symm)
    · refine sX_iload_n (i := 2) (by decide +kernel) rfl ?_
      refine sX_iconst (n := 1) (v := (1 : Int32)) (by decide +kernel) (by decide) ?_
      refine sX_isub (by decide +kernel) ?_
      exact sX_some (fun h _ => sW_iret (by decide +kernel) rfl (hr _ h).1.symm (hr _ h).2.symm)
