def f_X12_on_B218 (v0 : Nat) (M : sMem) : Option (Int32 × sMem) :=
  (gR 12 127 59 M v0).bind fun x1 =>
  (stI M x1 ((27 : Int32)) ((0 : Int32))).bind fun M2 =>
  (pI 12 127 85 M2 v0 ((0 : Int32))).bind fun M3 =>
  some (((1 : Int32), M3))
def f_X12_on_B212 (v0 : Nat) (v3 : Int32) (v4 : Int32) (M : sMem) : Option ((Int32 × sMem) ⊕ ((sMem))) :=
  some (.inl ((((v4 + (1 : Int32))), M)))
def f_X12_on_K131 (v0 : Nat) (v3 : Int32) (v4 : Int32) (M : sMem) : Option ((Int32 × sMem) ⊕ ((sMem))) :=
  (f_X12_carMany v0 M).bind fun x4 =>
  if x4 ≤ v4 then
    some (.inr M)
  else
    (gR 12 127 59 M v0).bind fun x5 =>
    (gR 12 127 0 M v0).bind fun x6 =>
    (ldI 14 M x6 ((v3 + ((4 : Int32) * v4)))).bind fun x7 =>
    (stI M x5 (((12 : Int32) + ((3 : Int32) * v4))) x7).bind fun M8 =>
    (gR 12 127 59 M8 v0).bind fun x9 =>
    (gR 12 127 0 M8 v0).bind fun x10 =>
    (ldI 14 M8 x10 (((v3 + ((4 : Int32) * v4)) + (1 : Int32)))).bind fun x11 =>
    (stI M8 x9 (((13 : Int32) + ((3 : Int32) * v4))) x11).bind fun M12 =>
    (gR 12 127 59 M12 v0).bind fun x13 =>
    (f_X12_twoAt v0 (((v3 + ((4 : Int32) * v4)) + (2 : Int32))) M12).bind fun x14 =>
    (stI M12 x13 (((14 : Int32) + ((3 : Int32) * v4))) x14).bind fun M15 =>
    f_X12_on_B212 v0 v3 v4 M15
def f_X12_on_L131 (v0 : Nat) (v3 : Int32) (v4 : Int32) (M : sMem) : Option (Int32 × sMem) :=
  (sItr (fun a : (Int32 × sMem) => f_X12_on_K131 v0 v3 a.1 a.2) sFuel (v4, M)).bind (fun b => f_X12_on_B218 v0 b)
def f_X12_on_B128 (v0 : Nat) (v3 : Int32) (M : sMem) : Option (Int32 × sMem) :=
  f_X12_on_L131 v0 v3 ((0 : Int32)) M
def f_X12_on_K94 (v0 : Nat) (v2 : Int32) (v3 : Int32) (v4 : Int32) (M : sMem) : Option ((Int32 × sMem) ⊕ ((sMem))) :=
  (f_X12_eraMany v0 M).bind fun x16 =>
  if x16 ≤ v4 then
    some (.inr M)
  else
    (gR 12 127 59 M v0).bind fun x17 =>
    (gR 12 127 0 M v0).bind fun x18 =>
    (ldI 14 M x18 ((v2 + v4))).bind fun x19 =>
    (stI M x17 (((7 : Int32) + v4)) x19).bind fun M20 =>
    some (.inl ((((v4 + (1 : Int32))), M20)))
def f_X12_on_L94 (v0 : Nat) (v2 : Int32) (v3 : Int32) (v4 : Int32) (M : sMem) : Option (Int32 × sMem) :=
  (sItr (fun a : (Int32 × sMem) => f_X12_on_K94 v0 v2 v3 a.1 a.2) sFuel (v4, M)).bind (fun b => f_X12_on_B128 v0 v3 b)
def f_X12_on_B91 (v0 : Nat) (v2 : Int32) (v3 : Int32) (M : sMem) : Option (Int32 × sMem) :=
  f_X12_on_L94 v0 v2 v3 ((0 : Int32)) M
def f_X12_on_K58 (v0 : Nat) (v2 : Int32) (v3 : Int32) (v4 : Int32) (M : sMem) : Option ((Int32 × sMem) ⊕ ((sMem))) :=
  (f_X12_gateMany v0 M).bind fun x21 =>
  if x21 ≤ v4 then
    some (.inr M)
  else
    (gR 12 127 59 M v0).bind fun x22 =>
    (gR 12 127 0 M v0).bind fun x23 =>
    (ldI 14 M x23 (((2 : Int32) + v4))).bind fun x24 =>
    (stI M x22 (((1 : Int32) + v4)) x24).bind fun M25 =>
    some (.inl ((((v4 + (1 : Int32))), M25)))
def f_X12_on_L58 (v0 : Nat) (v2 : Int32) (v3 : Int32) (v4 : Int32) (M : sMem) : Option (Int32 × sMem) :=
  (sItr (fun a : (Int32 × sMem) => f_X12_on_K58 v0 v2 v3 a.1 a.2) sFuel (v4, M)).bind (fun b => f_X12_on_B91 v0 v2 v3 b)
def f_X12_on (v0 : Nat) (M0 : sMem) : Option (Int32 × sMem) :=
  sRc 12 127 M0 v0 (
    (gI 12 127 1 M0 v0).bind fun x26 =>
    (pI 12 127 1 M0 v0 ((0 : Int32))).bind fun M27 =>
    (f_X12_isImage v0 x26 M27).bind fun x28 =>
    if x28 = 0 then
      (gR 12 127 9 M27 v0).bind fun x29 =>
      (ldI 14 M27 x29 ((5 : Int32))).bind fun x30 =>
      (stI M27 x29 ((5 : Int32)) ((x30 + (1 : Int32)))).bind fun M31 =>
      some (((0 : Int32), M31))
    else
      (f_X12_gateMany v0 M27).bind fun x32 =>
      (f_X12_eraMany v0 M27).bind fun x33 =>
      (gR 12 127 59 M27 v0).bind fun x34 =>
      (f_X12_twoAt v0 ((0 : Int32)) M27).bind fun x35 =>
      (stI M27 x34 ((0 : Int32)) x35).bind fun M36 =>
      f_X12_on_L58 v0 (((2 : Int32) + x32)) ((((2 : Int32) + x32) + x33)) ((0 : Int32)) M36)
set_option maxRecDepth 100000 in
set_option maxHeartbeats 4000000 in
theorem m_X12_on (G : sG) (l : Launch) (v0 : Nat) (M0 : sMem) : sC G l 4 yX12_on cX12_on 5 (some .boolean) [.ref v0] M0 rvI (f_X12_on v0 M0) := by
  refine sC_m (ls := [some (.ref v0), none, none, none, none]) (by decide +kernel) rfl (Nat.le_of_ble_eq_true rfl) (fun r M' K hr => ?_)
  unfold f_X12_on
  have xB218 : ∀ (v0 : Nat) (M : sMem), sX G l 4 yX12_on cX12_on 5 (some .boolean) M0 r M' 218 [some (.ref v0), none, none, none, none] [] M (f_X12_on_B218 v0 M) K := by
    intro v0 M
    unfold f_X12_on_B218
    refine sX_aload_n (i := 0) (by decide +kernel) rfl ?_
    refine sX_getR lf_X12_151 tk_12_59 (by decide +kernel) (fun x1 => ?_)
    refine sX_bipush (n := 27) (v := (27 : Int32)) (by decide +kernel) (by decide) ?_
    refine sX_iconst (n := 0) (v := (0 : Int32)) (by decide +kernel) (by decide) ?_
    refine sX_iastore (by decide +kernel) (by decide) (fun M2 => ?_)
    refine sX_aload_n (i := 0) (by decide +kernel) rfl ?_
    refine sX_iconst (n := 0) (v := (0 : Int32)) (by decide +kernel) (by decide) ?_
    refine sX_putI lf_X12_454 tp_12_85 (by decide +kernel) (by decide) (fun M3 => ?_)
    refine sX_iconst (n := 1) (v := (1 : Int32)) (by decide +kernel) (by decide) ?_
    exact sX_some (fun h _ => sW_zret (by decide +kernel) rfl (by decide) (hr _ h).1.symm (hr _ h).2.symm)
  have xL131 : ∀ (v0 : Nat) (v3 : Int32) (v4 : Int32) (M : sMem), sX G l 4 yX12_on cX12_on 5 (some .boolean) M0 r M' 131 [some (.ref v0), none, none, some (.int v3), some (.int v4)] [] M (f_X12_on_L131 v0 v3 v4 M) K := by
    intro v0 v3 v4 M
    unfold f_X12_on_L131
    refine sX_bind ?_
    refine sX_loop (LS := fun a : (Int32 × sMem) => [some (.ref v0), none, none, some (.int v3), some (.int a.1)]) (MM := fun a => a.2) (fun K1 hb1 he1 => ?_) sFuel ((v4, M))
    have xB212 : ∀ (v4 : Int32) (M : sMem), sX G l 4 yX12_on cX12_on 5 (some .boolean) M0 r M' 212 [some (.ref v0), none, none, some (.int v3), some (.int v4)] [] M (f_X12_on_B212 v0 v3 v4 M) K1 := by
      intro v4 M
      unfold f_X12_on_B212
      refine sX_iinc (i := 4) (n := 1) (v := v4 + (1 : Int32)) (ls2 := [some (.ref v0), none, none, some (.int v3), some (.int (v4 + (1 : Int32)))]) (by decide +kernel) rfl rfl (by decide) rfl ?_
      refine sX_goto (o := -84) (t := 131) (by decide +kernel) (by decide) ?_
      exact sX_back (a := (((v4 + (1 : Int32))), M)) hb1 rfl (sLe_s (sLe_n (sLe_n (sLe_s (sLe_s sLe_e)))))
    have xK131 : ∀ (v4 : Int32) (M : sMem), sX G l 4 yX12_on cX12_on 5 (some .boolean) M0 r M' 131 [some (.ref v0), none, none, some (.int v3), some (.int v4)] [] M (f_X12_on_K131 v0 v3 v4 M) K1 := by
      intro v4 M
      unfold f_X12_on_K131
      refine sX_iload (i := 4) (by decide +kernel) rfl ?_
      refine sX_aload_n (i := 0) (by decide +kernel) rfl ?_
      refine sX_callVp (As := []) (by decide +kernel) lm_X12_469 mf_X12_carMany mi_X12_carMany mc_12 (m_X12_carMany G l v0 M) (fun _ h => sRc_some h) (by decide) rfl rfl (Nat.le_of_ble_eq_true rfl) (fun x4 => ?_)
      refine sX_icge (o := 81) (t := 218) (by decide +kernel) (by decide) (fun _ => ?_) (fun _ => ?_)
      · refine sX_exit he1 ?_
        exact sX.le (xB218 v0 M) (sLe_s (sLe_n (sLe_n (sLe_n (sLe_n sLe_e)))))
      · refine sX_aload_n (i := 0) (by decide +kernel) rfl ?_
        refine sX_getR lf_X12_151 tk_12_59 (by decide +kernel) (fun x5 => ?_)
        refine sX_bipush (n := 12) (v := (12 : Int32)) (by decide +kernel) (by decide) ?_
        refine sX_iconst (n := 3) (v := (3 : Int32)) (by decide +kernel) (by decide) ?_
        refine sX_iload (i := 4) (by decide +kernel) rfl ?_
        refine sX_imul (by decide +kernel) ?_
        refine sX_iadd (by decide +kernel) ?_
        refine sX_aload_n (i := 0) (by decide +kernel) rfl ?_
        refine sX_getR lf_X12_7 tk_12_0 (by decide +kernel) (fun x6 => ?_)
        refine sX_iload_n (i := 3) (by decide +kernel) rfl ?_
        refine sX_iconst (n := 4) (v := (4 : Int32)) (by decide +kernel) (by decide) ?_
        refine sX_iload (i := 4) (by decide +kernel) rfl ?_
        refine sX_imul (by decide +kernel) ?_
        refine sX_iadd (by decide +kernel) ?_
        refine sX_iaload (by decide +kernel) (fun x7 => ?_)
        refine sX_iastore (by decide +kernel) (by decide) (fun M8 => ?_)
        refine sX_aload_n (i := 0) (by decide +kernel) rfl ?_
        refine sX_getR lf_X12_151 tk_12_59 (by decide +kernel) (fun x9 => ?_)
        refine sX_bipush (n := 13) (v := (13 : Int32)) (by decide +kernel) (by decide) ?_
        refine sX_iconst (n := 3) (v := (3 : Int32)) (by decide +kernel) (by decide) ?_
        refine sX_iload (i := 4) (by decide +kernel) rfl ?_
        refine sX_imul (by decide +kernel) ?_
        refine sX_iadd (by decide +kernel) ?_
        refine sX_aload_n (i := 0) (by decide +kernel) rfl ?_
        refine sX_getR lf_X12_7 tk_12_0 (by decide +kernel) (fun x10 => ?_)
        refine sX_iload_n (i := 3) (by decide +kernel) rfl ?_
        refine sX_iconst (n := 4) (v := (4 : Int32)) (by decide +kernel) (by decide) ?_
        refine sX_iload (i := 4) (by decide +kernel) rfl ?_
        refine sX_imul (by decide +kernel) ?_
        refine sX_iadd (by decide +kernel) ?_
        refine sX_iconst (n := 1) (v := (1 : Int32)) (by decide +kernel) (by decide) ?_
        refine sX_iadd (by decide +kernel) ?_
        refine sX_iaload (by decide +kernel) (fun x11 => ?_)
        refine sX_iastore (by decide +kernel) (by decide) (fun M12 => ?_)
        refine sX_aload_n (i := 0) (by decide +kernel) rfl ?_
        refine sX_getR lf_X12_151 tk_12_59 (by decide +kernel) (fun x13 => ?_)
        refine sX_bipush (n := 14) (v := (14 : Int32)) (by decide +kernel) (by decide) ?_
        refine sX_iconst (n := 3) (v := (3 : Int32)) (by decide +kernel) (by decide) ?_
        refine sX_iload (i := 4) (by decide +kernel) rfl ?_
        refine sX_imul (by decide +kernel) ?_
        refine sX_iadd (by decide +kernel) ?_
        refine sX_aload_n (i := 0) (by decide +kernel) rfl ?_
        refine sX_iload_n (i := 3) (by decide +kernel) rfl ?_
        refine sX_iconst (n := 4) (v := (4 : Int32)) (by decide +kernel) (by decide) ?_
        refine sX_iload (i := 4) (by decide +kernel) rfl ?_
        refine sX_imul (by decide +kernel) ?_
        refine sX_iadd (by decide +kernel) ?_
        refine sX_iconst (n := 2) (v := (2 : Int32)) (by decide +kernel) (by decide) ?_
        refine sX_iadd (by decide +kernel) ?_
        refine sX_callVp (As := [.int ((v3 + ((4 : Int32) * v4)) + (2 : Int32))]) (by decide +kernel) lm_X12_779 mf_X12_twoAt mi_X12_twoAt mc_12 (m_X12_twoAt G l v0 (((v3 + ((4 : Int32) * v4)) + (2 : Int32))) M12) (fun _ h => sRc_some h) (by decide) rfl rfl (Nat.le_of_ble_eq_true rfl) (fun x14 => ?_)
        refine sX_iastore (by decide +kernel) (by decide) (fun M15 => ?_)
        exact sX.le (xB212 v4 M15) (sLe_s (sLe_n (sLe_n (sLe_s (sLe_s sLe_e)))))
    exact fun a => xK131 a.1 a.2
  have xB128 : ∀ (v0 : Nat) (v3 : Int32) (M : sMem), sX G l 4 yX12_on cX12_on 5 (some .boolean) M0 r M' 128 [some (.ref v0), none, none, some (.int v3), none] [] M (f_X12_on_B128 v0 v3 M) K := by
    intro v0 v3 M
    unfold f_X12_on_B128
    refine sX_iconst (n := 0) (v := (0 : Int32)) (by decide +kernel) (by decide) ?_
    refine sX_istore (i := 4) (ls2 := [some (.ref v0), none, none, some (.int v3), some (.int (0 : Int32))]) (by decide +kernel) (by decide) rfl ?_
    exact sX.le (xL131 v0 v3 ((0 : Int32)) M) (sLe_s (sLe_n (sLe_n (sLe_s (sLe_s sLe_e)))))
  have xL94 : ∀ (v0 : Nat) (v2 : Int32) (v3 : Int32) (v4 : Int32) (M : sMem), sX G l 4 yX12_on cX12_on 5 (some .boolean) M0 r M' 94 [some (.ref v0), none, some (.int v2), some (.int v3), some (.int v4)] [] M (f_X12_on_L94 v0 v2 v3 v4 M) K := by
    intro v0 v2 v3 v4 M
    unfold f_X12_on_L94
    refine sX_bind ?_
    refine sX_loop (LS := fun a : (Int32 × sMem) => [some (.ref v0), none, some (.int v2), some (.int v3), some (.int a.1)]) (MM := fun a => a.2) (fun K1 hb1 he1 => ?_) sFuel ((v4, M))
    have xK94 : ∀ (v4 : Int32) (M : sMem), sX G l 4 yX12_on cX12_on 5 (some .boolean) M0 r M' 94 [some (.ref v0), none, some (.int v2), some (.int v3), some (.int v4)] [] M (f_X12_on_K94 v0 v2 v3 v4 M) K1 := by
      intro v4 M
      unfold f_X12_on_K94
      refine sX_iload (i := 4) (by decide +kernel) rfl ?_
      refine sX_aload_n (i := 0) (by decide +kernel) rfl ?_
      refine sX_callVp (As := []) (by decide +kernel) lm_X12_466 mf_X12_eraMany mi_X12_eraMany mc_12 (m_X12_eraMany G l v0 M) (fun _ h => sRc_some h) (by decide) rfl rfl (Nat.le_of_ble_eq_true rfl) (fun x16 => ?_)
      refine sX_icge (o := 28) (t := 128) (by decide +kernel) (by decide) (fun _ => ?_) (fun _ => ?_)
      · refine sX_exit he1 ?_
        exact sX.le (xB128 v0 v3 M) (sLe_s (sLe_n (sLe_n (sLe_s (sLe_n sLe_e)))))
      · refine sX_aload_n (i := 0) (by decide +kernel) rfl ?_
        refine sX_getR lf_X12_151 tk_12_59 (by decide +kernel) (fun x17 => ?_)
        refine sX_bipush (n := 7) (v := (7 : Int32)) (by decide +kernel) (by decide) ?_
        refine sX_iload (i := 4) (by decide +kernel) rfl ?_
        refine sX_iadd (by decide +kernel) ?_
        refine sX_aload_n (i := 0) (by decide +kernel) rfl ?_
        refine sX_getR lf_X12_7 tk_12_0 (by decide +kernel) (fun x18 => ?_)
        refine sX_iload_n (i := 2) (by decide +kernel) rfl ?_
        refine sX_iload (i := 4) (by decide +kernel) rfl ?_
        refine sX_iadd (by decide +kernel) ?_
        refine sX_iaload (by decide +kernel) (fun x19 => ?_)
        refine sX_iastore (by decide +kernel) (by decide) (fun M20 => ?_)
        refine sX_iinc (i := 4) (n := 1) (v := v4 + (1 : Int32)) (ls2 := [some (.ref v0), none, some (.int v2), some (.int v3), some (.int (v4 + (1 : Int32)))]) (by decide +kernel) rfl rfl (by decide) rfl ?_
        refine sX_goto (o := -31) (t := 94) (by decide +kernel) (by decide) ?_
        exact sX_back (a := (((v4 + (1 : Int32))), M20)) hb1 rfl (sLe_s (sLe_n (sLe_s (sLe_s (sLe_s sLe_e)))))
    exact fun a => xK94 a.1 a.2
  have xB91 : ∀ (v0 : Nat) (v2 : Int32) (v3 : Int32) (M : sMem), sX G l 4 yX12_on cX12_on 5 (some .boolean) M0 r M' 91 [some (.ref v0), none, some (.int v2), some (.int v3), none] [] M (f_X12_on_B91 v0 v2 v3 M) K := by
    intro v0 v2 v3 M
    unfold f_X12_on_B91
    refine sX_iconst (n := 0) (v := (0 : Int32)) (by decide +kernel) (by decide) ?_
    refine sX_istore (i := 4) (ls2 := [some (.ref v0), none, some (.int v2), some (.int v3), some (.int (0 : Int32))]) (by decide +kernel) (by decide) rfl ?_
    exact sX.le (xL94 v0 v2 v3 ((0 : Int32)) M) (sLe_s (sLe_n (sLe_s (sLe_s (sLe_s sLe_e)))))
  have xL58 : ∀ (v0 : Nat) (v2 : Int32) (v3 : Int32) (v4 : Int32) (M : sMem), sX G l 4 yX12_on cX12_on 5 (some .boolean) M0 r M' 58 [some (.ref v0), none, some (.int v2), some (.int v3), some (.int v4)] [] M (f_X12_on_L58 v0 v2 v3 v4 M) K := by
    intro v0 v2 v3 v4 M
    unfold f_X12_on_L58
    refine sX_bind ?_
    refine sX_loop (LS := fun a : (Int32 × sMem) => [some (.ref v0), none, some (.int v2), some (.int v3), some (.int a.1)]) (MM := fun a => a.2) (fun K1 hb1 he1 => ?_) sFuel ((v4, M))
    have xK58 : ∀ (v4 : Int32) (M : sMem), sX G l 4 yX12_on cX12_on 5 (some .boolean) M0 r M' 58 [some (.ref v0), none, some (.int v2), some (.int v3), some (.int v4)] [] M (f_X12_on_K58 v0 v2 v3 v4 M) K1 := by
      intro v4 M
      unfold f_X12_on_K58
      refine sX_iload (i := 4) (by decide +kernel) rfl ?_
      refine sX_aload_n (i := 0) (by decide +kernel) rfl ?_
      refine sX_callVp (As := []) (by decide +kernel) lm_X12_460 mf_X12_gateMany mi_X12_gateMany mc_12 (m_X12_gateMany G l v0 M) (fun _ h => sRc_some h) (by decide) rfl rfl (Nat.le_of_ble_eq_true rfl) (fun x21 => ?_)
      refine sX_icge (o := 27) (t := 91) (by decide +kernel) (by decide) (fun _ => ?_) (fun _ => ?_)
      · refine sX_exit he1 ?_
        exact sX.le (xB91 v0 v2 v3 M) (sLe_s (sLe_n (sLe_s (sLe_s (sLe_n sLe_e)))))
      · refine sX_aload_n (i := 0) (by decide +kernel) rfl ?_
        refine sX_getR lf_X12_151 tk_12_59 (by decide +kernel) (fun x22 => ?_)
        refine sX_iconst (n := 1) (v := (1 : Int32)) (by decide +kernel) (by decide) ?_
        refine sX_iload (i := 4) (by decide +kernel) rfl ?_
        refine sX_iadd (by decide +kernel) ?_
        refine sX_aload_n (i := 0) (by decide +kernel) rfl ?_
        refine sX_getR lf_X12_7 tk_12_0 (by decide +kernel) (fun x23 => ?_)
        refine sX_iconst (n := 2) (v := (2 : Int32)) (by decide +kernel) (by decide) ?_
        refine sX_iload (i := 4) (by decide +kernel) rfl ?_
        refine sX_iadd (by decide +kernel) ?_
        refine sX_iaload (by decide +kernel) (fun x24 => ?_)
        refine sX_iastore (by decide +kernel) (by decide) (fun M25 => ?_)
        refine sX_iinc (i := 4) (n := 1) (v := v4 + (1 : Int32)) (ls2 := [some (.ref v0), none, some (.int v2), some (.int v3), some (.int (v4 + (1 : Int32)))]) (by decide +kernel) rfl rfl (by decide) rfl ?_
        refine sX_goto (o := -30) (t := 58) (by decide +kernel) (by decide) ?_
        exact sX_back (a := (((v4 + (1 : Int32))), M25)) hb1 rfl (sLe_s (sLe_n (sLe_s (sLe_s (sLe_s sLe_e)))))
    exact fun a => xK58 a.1 a.2
  refine sX_rc ?_
  refine sX_aload_n (i := 0) (by decide +kernel) rfl ?_
  refine sX_getI lf_X12_297 tk_12_1 (by decide +kernel) (fun x26 => ?_)
  refine sX_istore_n (i := 1) (ls2 := [some (.ref v0), some (.int x26), none, none, none]) (by decide +kernel) (by decide) rfl ?_
  refine sX_aload_n (i := 0) (by decide +kernel) rfl ?_
  refine sX_iconst (n := 0) (v := (0 : Int32)) (by decide +kernel) (by decide) ?_
  refine sX_putI lf_X12_297 tp_12_1 (by decide +kernel) (by decide) (fun M27 => ?_)
  refine sX_aload_n (i := 0) (by decide +kernel) rfl ?_
  refine sX_iload_n (i := 1) (by decide +kernel) rfl ?_
  refine sX_callVp (As := [.int x26]) (by decide +kernel) lm_X12_782 mf_X12_isImage mi_X12_isImage mc_12 (m_X12_isImage G l v0 x26 M27) (fun _ h => sRc_some h) (by decide) rfl rfl (Nat.le_of_ble_eq_true rfl) (fun x28 => ?_)
  refine sX_ifne (o := 15) (t := 30) (by decide +kernel) (by decide) (fun _ => ?_) (fun _ => ?_)
  · refine sX_aload_n (i := 0) (by decide +kernel) rfl ?_
    refine sX_getR lf_X12_17 tk_12_9 (by decide +kernel) (fun x29 => ?_)
    refine sX_iconst (n := 5) (v := (5 : Int32)) (by decide +kernel) (by decide) ?_
    refine sX_dup2 (by decide +kernel) rfl rfl ?_
    refine sX_iaload (by decide +kernel) (fun x30 => ?_)
    refine sX_iconst (n := 1) (v := (1 : Int32)) (by decide +kernel) (by decide) ?_
    refine sX_iadd (by decide +kernel) ?_
    refine sX_iastore (by decide +kernel) (by decide) (fun M31 => ?_)
    refine sX_iconst (n := 0) (v := (0 : Int32)) (by decide +kernel) (by decide) ?_
    exact sX_some (fun h _ => sW_zret (by decide +kernel) rfl (by decide) (hr _ h).1.symm (hr _ h).2.symm)
  · refine sX_iconst (n := 2) (v := (2 : Int32)) (by decide +kernel) (by decide) ?_
    refine sX_aload_n (i := 0) (by decide +kernel) rfl ?_
    refine sX_callVp (As := []) (by decide +kernel) lm_X12_460 mf_X12_gateMany mi_X12_gateMany mc_12 (m_X12_gateMany G l v0 M27) (fun _ h => sRc_some h) (by decide) rfl rfl (Nat.le_of_ble_eq_true rfl) (fun x32 => ?_)
    refine sX_iadd (by decide +kernel) ?_
    refine sX_istore_n (i := 2) (ls2 := [some (.ref v0), some (.int x26), some (.int ((2 : Int32) + x32)), none, none]) (by decide +kernel) (by decide) rfl ?_
    refine sX_iload_n (i := 2) (by decide +kernel) rfl ?_
    refine sX_aload_n (i := 0) (by decide +kernel) rfl ?_
    refine sX_callVp (As := []) (by decide +kernel) lm_X12_466 mf_X12_eraMany mi_X12_eraMany mc_12 (m_X12_eraMany G l v0 M27) (fun _ h => sRc_some h) (by decide) rfl rfl (Nat.le_of_ble_eq_true rfl) (fun x33 => ?_)
    refine sX_iadd (by decide +kernel) ?_
    refine sX_istore_n (i := 3) (ls2 := [some (.ref v0), some (.int x26), some (.int ((2 : Int32) + x32)), some (.int (((2 : Int32) + x32) + x33)), none]) (by decide +kernel) (by decide) rfl ?_
    refine sX_aload_n (i := 0) (by decide +kernel) rfl ?_
    refine sX_getR lf_X12_151 tk_12_59 (by decide +kernel) (fun x34 => ?_)
    refine sX_iconst (n := 0) (v := (0 : Int32)) (by decide +kernel) (by decide) ?_
    refine sX_aload_n (i := 0) (by decide +kernel) rfl ?_
    refine sX_iconst (n := 0) (v := (0 : Int32)) (by decide +kernel) (by decide) ?_
    refine sX_callVp (As := [.int (0 : Int32)]) (by decide +kernel) lm_X12_779 mf_X12_twoAt mi_X12_twoAt mc_12 (m_X12_twoAt G l v0 ((0 : Int32)) M27) (fun _ h => sRc_some h) (by decide) rfl rfl (Nat.le_of_ble_eq_true rfl) (fun x35 => ?_)
    refine sX_iastore (by decide +kernel) (by decide) (fun M36 => ?_)
    refine sX_iconst (n := 0) (v := (0 : Int32)) (by decide +kernel) (by decide) ?_
    refine sX_istore (i := 4) (ls2 := [some (.ref v0), some (.int x26), some (.int ((2 : Int32) + x32)), some (.int (((2 : Int32) + x32) + x33)), some (.int (0 : Int32))]) (by decide +kernel) (by decide) rfl ?_
    exact sX.le (xL58 v0 (((2 : Int32) + x32)) ((((2 : Int32) + x32) + x33)) ((0 : Int32)) M36) (sLe_s (sLe_n (sLe_s (sLe_s (sLe_s sLe_e)))))
def f_X12_status (v0 : Nat) (v1 : Int32) (M0 : sMem) : Option Int32 :=
  sRc 12 127 M0 v0 (
    (f_X12_isIn v1.toInt64 ((0 : Int64)) ((5 : Int64)) M0).bind fun x1 =>
    if x1 = 0 then
      some ((-1 : Int32))
    else
      (gR 12 127 9 M0 v0).bind fun x2 =>
      (ldI 14 M0 x2 v1).bind fun x3 =>
      some x3)
set_option maxRecDepth 100000 in
set_option maxHeartbeats 4000000 in
theorem m_X12_status (G : sG) (l : Launch) (v0 : Nat) (v1 : Int32) (M0 : sMem) : sCp G l 2 yX12_status cX12_status 2 (some .int) [.ref v0, .int v1] M0 rvI (f_X12_status v0 v1 M0) := by
  refine sC_p (ls := [some (.ref v0), some (.int v1)]) (by decide +kernel) rfl (Nat.le_of_ble_eq_true rfl) (fun r M' K hr => ?_)
  unfold f_X12_status
  refine sX_rc ?_
  refine sX_iload_n (i := 1) (by decide +kernel) rfl ?_
  refine sX_i2l (by decide +kernel) ?_
  refine sX_lconst (n := 0) (v := (0 : Int64)) (by decide +kernel) (by decide) ?_
  refine sX_ldc2 (v := (5 : Int64)) (by decide +kernel) kl_X12_361 ?_
  refine sX_callSp (As := [.long v1.toInt64, .long (0 : Int64), .long (5 : Int64)]) (by decide +kernel) lm_X12_343 mf_X12_isIn ms_X12_isIn (m_X12_isIn G l v1.toInt64 ((0 : Int64)) ((5 : Int64)) M0) (by decide) rfl rfl (Nat.le_of_ble_eq_true rfl) (fun x1 => ?_)
  refine sX_ifeq (o := 12) (t := 21) (by decide +kernel) (by decide) (fun _ => ?_) (fun _ => ?_)
  · refine sX_iconst (n := -1) (v := (-1 : Int32)) (by decide +kernel) (by decide) ?_
    exact sX_some (fun h _ => sW_iret (by decide +kernel) rfl (hr _ h).1.symm (hr _ h).2.symm)
  · refine sX_aload_n (i := 0) (by decide +kernel) rfl ?_
    refine sX_getR lf_X12_17 tk_12_9 (by decide +kernel) (fun x2 => ?_)
    refine sX_iload_n (i := 1) (by decide +kernel) rfl ?_
    refine sX_iaload (by decide +kernel) (fun x3 => ?_)
    refine sX_goto (o := 4) (t := 22) (by decide +kernel) (by decide) ?_
    exact sX_some (fun h _ => sW_iret (by decide +kernel) rfl (hr _ h).1.symm (hr _ h).2.symm)
