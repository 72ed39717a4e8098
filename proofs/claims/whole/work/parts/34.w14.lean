def f_X12_qGoesOnTest_B162 (v0 : Nat) (M : sMem) : Option (Int32 × sMem) :=
  (gR 12 127 117 M v0).bind fun x1 =>
  (gI 12 127 118 M v0).bind fun x2 =>
  (stI M x1 x2 ((11 : Int32))).bind fun M3 =>
  (gI 12 127 118 M3 v0).bind fun x4 =>
  (pI 12 127 118 M3 v0 ((x4 + (1 : Int32)))).bind fun M5 =>
  some (((1 : Int32), M5))
def f_X12_qGoesOnTest_B155 (v0 : Nat) (M : sMem) : Option ((sMem) ⊕ ((sMem))) :=
  (f_X12_qDrops v0 M).bind fun M6 =>
  some (.inl M6)
def f_X12_qGoesOnTest_K137 (v0 : Nat) (M : sMem) : Option ((sMem) ⊕ ((sMem))) :=
  (f_X12_qIsOn v0 ((10 : Int32)) M).bind fun x7 =>
  if x7 = 0 then
    (f_X12_qIsOn v0 ((11 : Int32)) M).bind fun x8 =>
    if x8 = 0 then
      some (.inr M)
    else
      f_X12_qGoesOnTest_B155 v0 M
  else
    f_X12_qGoesOnTest_B155 v0 M
def f_X12_qGoesOnTest_L137 (v0 : Nat) (M : sMem) : Option (Int32 × sMem) :=
  (sItr (fun a : (sMem) => f_X12_qGoesOnTest_K137 v0 a) sFuel M).bind (fun b => f_X12_qGoesOnTest_B162 v0 b)
def f_X12_qGoesOnTest_B103 (v0 : Nat) (M : sMem) : Option (Int32 × sMem) :=
  (gR 12 127 117 M v0).bind fun x9 =>
  (gI 12 127 118 M v0).bind fun x10 =>
  (stI M x9 x10 ((10 : Int32))).bind fun M11 =>
  (gI 12 127 118 M11 v0).bind fun x12 =>
  (pI 12 127 118 M11 v0 ((x12 + (1 : Int32)))).bind fun M13 =>
  some (((1 : Int32), M13))
def f_X12_qGoesOnTest_K87 (v0 : Nat) (M : sMem) : Option ((sMem) ⊕ ((sMem))) :=
  (f_X12_qIsOn v0 ((10 : Int32)) M).bind fun x14 =>
  if x14 = 0 then
    some (.inr M)
  else
    (f_X12_qDrops v0 M).bind fun M15 =>
    some (.inl M15)
def f_X12_qGoesOnTest_L87 (v0 : Nat) (M : sMem) : Option (Int32 × sMem) :=
  (sItr (fun a : (sMem) => f_X12_qGoesOnTest_K87 v0 a) sFuel M).bind (fun b => f_X12_qGoesOnTest_B103 v0 b)
def f_X12_qGoesOnTest_B76 (v0 : Nat) (M : sMem) : Option (Int32 × sMem) :=
  (gR 12 127 95 M v0).bind fun x16 =>
  (f_X12_takes v0 x16 M).bind fun (x17, M18) =>
  if x17 = 0 then
    (gR 12 127 96 M18 v0).bind fun x19 =>
    (f_X12_takes v0 x19 M18).bind fun (x20, M21) =>
    if x20 = 0 then
      (gI 12 127 5 M21 v0).bind fun x22 =>
      if x22 = 0 then
        (f_X12_qHasSquare v0 M21).bind fun x23 =>
        if x23 = 0 then
          some (((0 : Int32), M21))
        else
          (gI 12 127 2 M21 v0).bind fun x24 =>
          (f_X12_fail v0 ((1 : Int32)) x24 M21).bind fun M25 =>
          some (((0 : Int32), M25))
      else
        some (((0 : Int32), M21))
    else
      f_X12_qGoesOnTest_L137 v0 M21
  else
    f_X12_qGoesOnTest_L87 v0 M18
def f_X12_qGoesOnTest_B49 (v0 : Nat) (M : sMem) : Option ((sMem) ⊕ ((sMem))) :=
  (gI 12 127 118 M v0).bind fun x26 =>
  (pI 12 127 118 M v0 ((x26 - (1 : Int32)))).bind fun M27 =>
  (gI 12 127 119 M27 v0).bind fun x28 =>
  (pI 12 127 119 M27 v0 ((x28 - (1 : Int32)))).bind fun M29 =>
  (f_X12_qDropsNots v0 M29).bind fun M30 =>
  some (.inl M30)
def f_X12_qGoesOnTest_K33 (v0 : Nat) (M : sMem) : Option ((sMem) ⊕ ((sMem))) :=
  (f_X12_qIsOn v0 ((25 : Int32)) M).bind fun x31 =>
  if x31 = 0 then
    (f_X12_qDrops v0 M).bind fun M32 =>
    some (.inl M32)
  else
    some (.inr M)
def f_X12_qGoesOnTest_L33 (v0 : Nat) (M : sMem) : Option ((sMem) ⊕ ((sMem))) :=
  (sItr (fun a : (sMem) => f_X12_qGoesOnTest_K33 v0 a) sFuel M).bind (fun b => f_X12_qGoesOnTest_B49 v0 b)
def f_X12_qGoesOnTest_K0 (v0 : Nat) (M : sMem) : Option ((sMem) ⊕ ((sMem))) :=
  (gI 12 127 5 M v0).bind fun x33 =>
  if x33 = 0 then
    (f_X12_look v0 M).bind fun (x34, M35) =>
    if x34 = (93 : Int32) then
      (f_X12_qHasSquare v0 M35).bind fun x36 =>
      if x36 = 0 then
        some (.inr M35)
      else
        (gI 12 127 2 M35 v0).bind fun x37 =>
        (pI 12 127 2 M35 v0 ((x37 + (1 : Int32)))).bind fun M38 =>
        f_X12_qGoesOnTest_L33 v0 M38
    else
      some (.inr M35)
  else
    some (.inr M)
def f_X12_qGoesOnTest_L0 (v0 : Nat) (M : sMem) : Option (Int32 × sMem) :=
  (sItr (fun a : (sMem) => f_X12_qGoesOnTest_K0 v0 a) sFuel M).bind (fun b => f_X12_qGoesOnTest_B76 v0 b)
def f_X12_qGoesOnTest (v0 : Nat) (M0 : sMem) : Option (Int32 × sMem) :=
  sRc 12 127 M0 v0 (
    f_X12_qGoesOnTest_L0 v0 M0)
set_option maxRecDepth 100000 in
set_option maxHeartbeats 4000000 in
theorem m_X12_qGoesOnTest (G : sG) (l : Launch) (v0 : Nat) (M0 : sMem) : sC G l 4 yX12_qGoesOnTest cX12_qGoesOnTest 1 (some .boolean) [.ref v0] M0 rvI (f_X12_qGoesOnTest v0 M0) := by
  refine sC_m (ls := [some (.ref v0)]) (by decide +kernel) rfl (Nat.le_of_ble_eq_true rfl) (fun r M' K hr => ?_)
  unfold f_X12_qGoesOnTest
  have xB162 : ∀ (v0 : Nat) (M : sMem), sX G l 4 yX12_qGoesOnTest cX12_qGoesOnTest 1 (some .boolean) M0 r M' 162 [some (.ref v0)] [] M (f_X12_qGoesOnTest_B162 v0 M) K := by
    intro v0 M
    unfold f_X12_qGoesOnTest_B162
    refine sX_aload_n (i := 0) (by decide +kernel) rfl ?_
    refine sX_getR lf_X12_288 tk_12_117 (by decide +kernel) (fun x1 => ?_)
    refine sX_aload_n (i := 0) (by decide +kernel) rfl ?_
    refine sX_getI lf_X12_398 tk_12_118 (by decide +kernel) (fun x2 => ?_)
    refine sX_bipush (n := 11) (v := (11 : Int32)) (by decide +kernel) (by decide) ?_
    refine sX_iastore (by decide +kernel) (by decide) (fun M3 => ?_)
    refine sX_aload_n (i := 0) (by decide +kernel) rfl ?_
    refine sX_dup (by decide +kernel) rfl ?_
    refine sX_getI lf_X12_398 tk_12_118 (by decide +kernel) (fun x4 => ?_)
    refine sX_iconst (n := 1) (v := (1 : Int32)) (by decide +kernel) (by decide) ?_
    refine sX_iadd (by decide +kernel) ?_
    refine sX_putI lf_X12_398 tp_12_118 (by decide +kernel) (by decide) (fun M5 => ?_)
    refine sX_iconst (n := 1) (v := (1 : Int32)) (by decide +kernel) (by decide) ?_
    exact sX_some (fun h _ => sW_zret (by decide +kernel) rfl (by decide) (hr _ h).1.symm (hr _ h).2.symm)
  have xL137 : ∀ (v0 : Nat) (M : sMem), sX G l 4 yX12_qGoesOnTest cX12_qGoesOnTest 1 (some .boolean) M0 r M' 137 [some (.ref v0)] [] M (f_X12_qGoesOnTest_L137 v0 M) K := by
    intro v0 M
    unfold f_X12_qGoesOnTest_L137
    refine sX_bind ?_
    refine sX_loop (LS := fun a : (sMem) => [some (.ref v0)]) (MM := fun a => a) (fun K1 hb1 he1 => ?_) sFuel M
    have xB155 : ∀ (M : sMem), sX G l 4 yX12_qGoesOnTest cX12_qGoesOnTest 1 (some .boolean) M0 r M' 155 [some (.ref v0)] [] M (f_X12_qGoesOnTest_B155 v0 M) K1 := by
      intro M
      unfold f_X12_qGoesOnTest_B155
      refine sX_aload_n (i := 0) (by decide +kernel) rfl ?_
      refine sX_callVv (As := []) (by decide +kernel) lm_X12_681 mf_X12_qDrops mi_X12_qDrops mc_12 (m_X12_qDrops G l v0 M) (fun _ h => sRc_some h) (by decide) rfl rfl (Nat.le_of_ble_eq_true rfl) (fun M6 => ?_)
      refine sX_goto (o := -22) (t := 137) (by decide +kernel) (by decide) ?_
      exact sX_back (a := M6) hb1 rfl (sLe_s sLe_e)
    have xK137 : ∀  (M : sMem), sX G l 4 yX12_qGoesOnTest cX12_qGoesOnTest 1 (some .boolean) M0 r M' 137 [some (.ref v0)] [] M (f_X12_qGoesOnTest_K137 v0 M) K1 := by
      intro M
      unfold f_X12_qGoesOnTest_K137
      refine sX_aload_n (i := 0) (by decide +kernel) rfl ?_
      refine sX_bipush (n := 10) (v := (10 : Int32)) (by decide +kernel) (by decide) ?_
      refine sX_callVp (As := [.int (10 : Int32)]) (by decide +kernel) lm_X12_708 mf_X12_qIsOn mi_X12_qIsOn mc_12 (m_X12_qIsOn G l v0 ((10 : Int32)) M) (fun _ h => sRc_some h) (by decide) rfl rfl (Nat.le_of_ble_eq_true rfl) (fun x7 => ?_)
      refine sX_ifne (o := 12) (t := 155) (by decide +kernel) (by decide) (fun _ => ?_) (fun _ => ?_)
      · refine sX_aload_n (i := 0) (by decide +kernel) rfl ?_
        refine sX_bipush (n := 11) (v := (11 : Int32)) (by decide +kernel) (by decide) ?_
        refine sX_callVp (As := [.int (11 : Int32)]) (by decide +kernel) lm_X12_708 mf_X12_qIsOn mi_X12_qIsOn mc_12 (m_X12_qIsOn G l v0 ((11 : Int32)) M) (fun _ h => sRc_some h) (by decide) rfl rfl (Nat.le_of_ble_eq_true rfl) (fun x8 => ?_)
        refine sX_ifeq (o := 10) (t := 162) (by decide +kernel) (by decide) (fun _ => ?_) (fun _ => ?_)
        · refine sX_exit he1 ?_
          exact sX.le (xB162 v0 M) (sLe_s sLe_e)
        · exact sX.le (xB155 M) (sLe_s sLe_e)
      · exact sX.le (xB155 M) (sLe_s sLe_e)
    exact fun a => xK137 a
  have xB103 : ∀ (v0 : Nat) (M : sMem), sX G l 4 yX12_qGoesOnTest cX12_qGoesOnTest 1 (some .boolean) M0 r M' 103 [some (.ref v0)] [] M (f_X12_qGoesOnTest_B103 v0 M) K := by
    intro v0 M
    unfold f_X12_qGoesOnTest_B103
    refine sX_aload_n (i := 0) (by decide +kernel) rfl ?_
    refine sX_getR lf_X12_288 tk_12_117 (by decide +kernel) (fun x9 => ?_)
    refine sX_aload_n (i := 0) (by decide +kernel) rfl ?_
    refine sX_getI lf_X12_398 tk_12_118 (by decide +kernel) (fun x10 => ?_)
    refine sX_bipush (n := 10) (v := (10 : Int32)) (by decide +kernel) (by decide) ?_
    refine sX_iastore (by decide +kernel) (by decide) (fun M11 => ?_)
    refine sX_aload_n (i := 0) (by decide +kernel) rfl ?_
    refine sX_dup (by decide +kernel) rfl ?_
    refine sX_getI lf_X12_398 tk_12_118 (by decide +kernel) (fun x12 => ?_)
    refine sX_iconst (n := 1) (v := (1 : Int32)) (by decide +kernel) (by decide) ?_
    refine sX_iadd (by decide +kernel) ?_
    refine sX_putI lf_X12_398 tp_12_118 (by decide +kernel) (by decide) (fun M13 => ?_)
    refine sX_iconst (n := 1) (v := (1 : Int32)) (by decide +kernel) (by decide) ?_
    exact sX_some (fun h _ => sW_zret (by decide +kernel) rfl (by decide) (hr _ h).1.symm (hr _ h).2.symm)
  have xL87 : ∀ (v0 : Nat) (M : sMem), sX G l 4 yX12_qGoesOnTest cX12_qGoesOnTest 1 (some .boolean) M0 r M' 87 [some (.ref v0)] [] M (f_X12_qGoesOnTest_L87 v0 M) K := by
    intro v0 M
    unfold f_X12_qGoesOnTest_L87
    refine sX_bind ?_
    refine sX_loop (LS := fun a : (sMem) => [some (.ref v0)]) (MM := fun a => a) (fun K1 hb1 he1 => ?_) sFuel M
    have xK87 : ∀  (M : sMem), sX G l 4 yX12_qGoesOnTest cX12_qGoesOnTest 1 (some .boolean) M0 r M' 87 [some (.ref v0)] [] M (f_X12_qGoesOnTest_K87 v0 M) K1 := by
      intro M
      unfold f_X12_qGoesOnTest_K87
      refine sX_aload_n (i := 0) (by decide +kernel) rfl ?_
      refine sX_bipush (n := 10) (v := (10 : Int32)) (by decide +kernel) (by decide) ?_
      refine sX_callVp (As := [.int (10 : Int32)]) (by decide +kernel) lm_X12_708 mf_X12_qIsOn mi_X12_qIsOn mc_12 (m_X12_qIsOn G l v0 ((10 : Int32)) M) (fun _ h => sRc_some h) (by decide) rfl rfl (Nat.le_of_ble_eq_true rfl) (fun x14 => ?_)
      refine sX_ifeq (o := 10) (t := 103) (by decide +kernel) (by decide) (fun _ => ?_) (fun _ => ?_)
      · refine sX_exit he1 ?_
        exact sX.le (xB103 v0 M) (sLe_s sLe_e)
      · refine sX_aload_n (i := 0) (by decide +kernel) rfl ?_
        refine sX_callVv (As := []) (by decide +kernel) lm_X12_681 mf_X12_qDrops mi_X12_qDrops mc_12 (m_X12_qDrops G l v0 M) (fun _ h => sRc_some h) (by decide) rfl rfl (Nat.le_of_ble_eq_true rfl) (fun M15 => ?_)
        refine sX_goto (o := -13) (t := 87) (by decide +kernel) (by decide) ?_
        exact sX_back (a := M15) hb1 rfl (sLe_s sLe_e)
    exact fun a => xK87 a
  have xB76 : ∀ (v0 : Nat) (M : sMem), sX G l 4 yX12_qGoesOnTest cX12_qGoesOnTest 1 (some .boolean) M0 r M' 76 [some (.ref v0)] [] M (f_X12_qGoesOnTest_B76 v0 M) K := by
    intro v0 M
    unfold f_X12_qGoesOnTest_B76
    refine sX_aload_n (i := 0) (by decide +kernel) rfl ?_
    refine sX_aload_n (i := 0) (by decide +kernel) rfl ?_
    refine sX_getR lf_X12_225 tk_12_95 (by decide +kernel) (fun x16 => ?_)
    refine sX_callV (As := [.ref x16]) (by decide +kernel) lm_X12_327 mf_X12_takes mi_X12_takes mc_12 (m_X12_takes G l v0 x16 M) (fun _ h => sRc_some h) (by decide) rfl rfl (Nat.le_of_ble_eq_true rfl) (fun x17 M18 _ => ?_)
    refine sX_ifeq (o := 42) (t := 126) (by decide +kernel) (by decide) (fun _ => ?_) (fun _ => ?_)
    · refine sX_aload_n (i := 0) (by decide +kernel) rfl ?_
      refine sX_aload_n (i := 0) (by decide +kernel) rfl ?_
      refine sX_getR lf_X12_228 tk_12_96 (by decide +kernel) (fun x19 => ?_)
      refine sX_callV (As := [.ref x19]) (by decide +kernel) lm_X12_327 mf_X12_takes mi_X12_takes mc_12 (m_X12_takes G l v0 x19 M18) (fun _ h => sRc_some h) (by decide) rfl rfl (Nat.le_of_ble_eq_true rfl) (fun x20 M21 _ => ?_)
      refine sX_ifeq (o := 51) (t := 185) (by decide +kernel) (by decide) (fun _ => ?_) (fun _ => ?_)
      · refine sX_aload_n (i := 0) (by decide +kernel) rfl ?_
        refine sX_getI lf_X12_300 tk_12_5 (by decide +kernel) (fun x22 => ?_)
        refine sX_ifne (o := 19) (t := 208) (by decide +kernel) (by decide) (fun _ => ?_) (fun _ => ?_)
        · refine sX_aload_n (i := 0) (by decide +kernel) rfl ?_
          refine sX_callVp (As := []) (by decide +kernel) lm_X12_726 mf_X12_qHasSquare mi_X12_qHasSquare mc_12 (m_X12_qHasSquare G l v0 M21) (fun _ h => sRc_some h) (by decide) rfl rfl (Nat.le_of_ble_eq_true rfl) (fun x23 => ?_)
          refine sX_ifeq (o := 12) (t := 208) (by decide +kernel) (by decide) (fun _ => ?_) (fun _ => ?_)
          · refine sX_iconst (n := 0) (v := (0 : Int32)) (by decide +kernel) (by decide) ?_
            exact sX_some (fun h _ => sW_zret (by decide +kernel) rfl (by decide) (hr _ h).1.symm (hr _ h).2.symm)
          · refine sX_aload_n (i := 0) (by decide +kernel) rfl ?_
            refine sX_iconst (n := 1) (v := (1 : Int32)) (by decide +kernel) (by decide) ?_
            refine sX_aload_n (i := 0) (by decide +kernel) rfl ?_
            refine sX_getI lf_X12_306 tk_12_2 (by decide +kernel) (fun x24 => ?_)
            refine sX_callVv (As := [.int (1 : Int32), .int x24]) (by decide +kernel) lm_X12_330 mf_X12_fail mi_X12_fail mc_12 (m_X12_fail G l v0 ((1 : Int32)) x24 M21) (fun _ h => sRc_some h) (by decide) rfl rfl (Nat.le_of_ble_eq_true rfl) (fun M25 => ?_)
            refine sX_iconst (n := 0) (v := (0 : Int32)) (by decide +kernel) (by decide) ?_
            exact sX_some (fun h _ => sW_zret (by decide +kernel) rfl (by decide) (hr _ h).1.symm (hr _ h).2.symm)
        · refine sX_iconst (n := 0) (v := (0 : Int32)) (by decide +kernel) (by decide) ?_
          exact sX_some (fun h _ => sW_zret (by decide +kernel) rfl (by decide) (hr _ h).1.symm (hr _ h).2.symm)
      · exact sX.le (xL137 v0 M21) (sLe_s sLe_e)
    · exact sX.le (xL87 v0 M18) (sLe_s sLe_e)
  have xL0 : ∀ (v0 : Nat) (M : sMem), sX G l 4 yX12_qGoesOnTest cX12_qGoesOnTest 1 (some .boolean) M0 r M' 0 [some (.ref v0)] [] M (f_X12_qGoesOnTest_L0 v0 M) K := by
    intro v0 M
    unfold f_X12_qGoesOnTest_L0
    refine sX_bind ?_
    refine sX_loop (LS := fun a : (sMem) => [some (.ref v0)]) (MM := fun a => a) (fun K1 hb1 he1 => ?_) sFuel M
    have xB49 : ∀ (M : sMem), sX G l 4 yX12_qGoesOnTest cX12_qGoesOnTest 1 (some .boolean) M0 r M' 49 [some (.ref v0)] [] M (f_X12_qGoesOnTest_B49 v0 M) K1 := by
      intro M
      unfold f_X12_qGoesOnTest_B49
      refine sX_aload_n (i := 0) (by decide +kernel) rfl ?_
      refine sX_dup (by decide +kernel) rfl ?_
      refine sX_getI lf_X12_398 tk_12_118 (by decide +kernel) (fun x26 => ?_)
      refine sX_iconst (n := 1) (v := (1 : Int32)) (by decide +kernel) (by decide) ?_
      refine sX_isub (by decide +kernel) ?_
      refine sX_putI lf_X12_398 tp_12_118 (by decide +kernel) (by decide) (fun M27 => ?_)
      refine sX_aload_n (i := 0) (by decide +kernel) rfl ?_
      refine sX_dup (by decide +kernel) rfl ?_
      refine sX_getI lf_X12_401 tk_12_119 (by decide +kernel) (fun x28 => ?_)
      refine sX_iconst (n := 1) (v := (1 : Int32)) (by decide +kernel) (by decide) ?_
      refine sX_isub (by decide +kernel) ?_
      refine sX_putI lf_X12_401 tp_12_119 (by decide +kernel) (by decide) (fun M29 => ?_)
      refine sX_aload_n (i := 0) (by decide +kernel) rfl ?_
      refine sX_callVv (As := []) (by decide +kernel) lm_X12_720 mf_X12_qDropsNots mi_X12_qDropsNots mc_12 (m_X12_qDropsNots G l v0 M29) (fun _ h => sRc_some h) (by decide) rfl rfl (Nat.le_of_ble_eq_true rfl) (fun M30 => ?_)
      refine sX_goto (o := -73) (t := 0) (by decide +kernel) (by decide) ?_
      exact sX_back (a := M30) hb1 rfl (sLe_s sLe_e)
    have xL33 : ∀ (M : sMem), sX G l 4 yX12_qGoesOnTest cX12_qGoesOnTest 1 (some .boolean) M0 r M' 33 [some (.ref v0)] [] M (f_X12_qGoesOnTest_L33 v0 M) K1 := by
      intro M
      unfold f_X12_qGoesOnTest_L33
      refine sX_bind ?_
      refine sX_loop (LS := fun a : (sMem) => [some (.ref v0)]) (MM := fun a => a) (fun K2 hb2 he2 => ?_) sFuel M
      have xK33 : ∀  (M : sMem), sX G l 4 yX12_qGoesOnTest cX12_qGoesOnTest 1 (some .boolean) M0 r M' 33 [some (.ref v0)] [] M (f_X12_qGoesOnTest_K33 v0 M) K2 := by
        intro M
        unfold f_X12_qGoesOnTest_K33
        refine sX_aload_n (i := 0) (by decide +kernel) rfl ?_
        refine sX_bipush (n := 25) (v := (25 : Int32)) (by decide +kernel) (by decide) ?_
        refine sX_callVp (As := [.int (25 : Int32)]) (by decide +kernel) lm_X12_708 mf_X12_qIsOn mi_X12_qIsOn mc_12 (m_X12_qIsOn G l v0 ((25 : Int32)) M) (fun _ h => sRc_some h) (by decide) rfl rfl (Nat.le_of_ble_eq_true rfl) (fun x31 => ?_)
        refine sX_ifne (o := 10) (t := 49) (by decide +kernel) (by decide) (fun _ => ?_) (fun _ => ?_)
        · refine sX_aload_n (i := 0) (by decide +kernel) rfl ?_
          refine sX_callVv (As := []) (by decide +kernel) lm_X12_681 mf_X12_qDrops mi_X12_qDrops mc_12 (m_X12_qDrops G l v0 M) (fun _ h => sRc_some h) (by decide) rfl rfl (Nat.le_of_ble_eq_true rfl) (fun M32 => ?_)
          refine sX_goto (o := -13) (t := 33) (by decide +kernel) (by decide) ?_
          exact sX_back (a := M32) hb2 rfl (sLe_s sLe_e)
        · refine sX_exit he2 ?_
          exact sX.le (xB49 M) (sLe_s sLe_e)
      exact fun a => xK33 a
    have xK0 : ∀  (M : sMem), sX G l 4 yX12_qGoesOnTest cX12_qGoesOnTest 1 (some .boolean) M0 r M' 0 [some (.ref v0)] [] M (f_X12_qGoesOnTest_K0 v0 M) K1 := by
      intro M
      unfold f_X12_qGoesOnTest_K0
      refine sX_aload_n (i := 0) (by decide +kernel) rfl ?_
      refine sX_getI lf_X12_300 tk_12_5 (by decide +kernel) (fun x33 => ?_)
      refine sX_ifne (o := 72) (t := 76) (by decide +kernel) (by decide) (fun _ => ?_) (fun _ => ?_)
      · refine sX_aload_n (i := 0) (by decide +kernel) rfl ?_
        refine sX_callV (As := []) (by decide +kernel) lm_X12_312 mf_X12_look mi_X12_look mc_12 (m_X12_look G l v0 M) (fun _ h => sRc_some h) (by decide) rfl rfl (Nat.le_of_ble_eq_true rfl) (fun x34 M35 _ => ?_)
        refine sX_bipush (n := 93) (v := (93 : Int32)) (by decide +kernel) (by decide) ?_
        refine sX_icne (o := 63) (t := 76) (by decide +kernel) (by decide) (fun _ => ?_) (fun _ => ?_)
        · refine sX_aload_n (i := 0) (by decide +kernel) rfl ?_
          refine sX_callVp (As := []) (by decide +kernel) lm_X12_726 mf_X12_qHasSquare mi_X12_qHasSquare mc_12 (m_X12_qHasSquare G l v0 M35) (fun _ h => sRc_some h) (by decide) rfl rfl (Nat.le_of_ble_eq_true rfl) (fun x36 => ?_)
          refine sX_ifeq (o := 56) (t := 76) (by decide +kernel) (by decide) (fun _ => ?_) (fun _ => ?_)
          · refine sX_exit he1 ?_
            exact sX.le (xB76 v0 M35) (sLe_s sLe_e)
          · refine sX_aload_n (i := 0) (by decide +kernel) rfl ?_
            refine sX_dup (by decide +kernel) rfl ?_
            refine sX_getI lf_X12_306 tk_12_2 (by decide +kernel) (fun x37 => ?_)
            refine sX_iconst (n := 1) (v := (1 : Int32)) (by decide +kernel) (by decide) ?_
            refine sX_iadd (by decide +kernel) ?_
            refine sX_putI lf_X12_306 tp_12_2 (by decide +kernel) (by decide) (fun M38 => ?_)
            exact sX.le (xL33 M38) (sLe_s sLe_e)
        · refine sX_exit he1 ?_
          exact sX.le (xB76 v0 M35) (sLe_s sLe_e)
      · refine sX_exit he1 ?_
        exact sX.le (xB76 v0 M) (sLe_s sLe_e)
    exact fun a => xK0 a
  refine sX_rc ?_
  exact sX.le (xL0 v0 M0) (sLe_s sLe_e)
def f_X12_qTest_K110 (v0 : Nat) (M : sMem) : Option ((sMem) ⊕ ((sMem))) :=
  (gI 12 127 5 M v0).bind fun x1 =>
  if x1 = 0 then
    (gI 12 127 118 M v0).bind fun x2 =>
    if x2 ≤ 0 then
      some (.inr M)
    else
      (f_X12_qDrops v0 M).bind fun M3 =>
      some (.inl M3)
  else
    some (.inr M)
def f_X12_qTest_L110 (v0 : Nat) (M : sMem) : Option sMem :=
  (sItr (fun a : (sMem) => f_X12_qTest_K110 v0 a) sFuel M).bind (fun b => some b)
def f_X12_qTest_B106 (v0 : Nat) (s0 : Int32) (M : sMem) : Option ((Int32 × sMem) ⊕ ((sMem))) :=
  some (.inl ((s0, M)))
def f_X12_qTest_B105 (v0 : Nat) (M : sMem) : Option ((Int32 × sMem) ⊕ ((sMem))) :=
  f_X12_qTest_B106 v0 ((0 : Int32)) M
def f_X12_qTest_B101 (v0 : Nat) (M : sMem) : Option ((Int32 × sMem) ⊕ ((sMem))) :=
  f_X12_qTest_B106 v0 ((1 : Int32)) M
def f_X12_qTest_K2 (v0 : Nat) (v1 : Int32) (M : sMem) : Option ((Int32 × sMem) ⊕ ((sMem))) :=
  if v1 = 0 then
    some (.inr M)
  else
    (gI 12 127 5 M v0).bind fun x4 =>
    if x4 = 0 then
      (f_X12_look v0 M).bind fun (x5, M6) =>
      if x5 = (91 : Int32) then
        (gI 12 127 2 M6 v0).bind fun x7 =>
        (f_X12_qOpens v0 ((25 : Int32)) x7 M6).bind fun M8 =>
        (gI 12 127 2 M8 v0).bind fun x9 =>
        (pI 12 127 2 M8 v0 ((x9 + (1 : Int32)))).bind fun M10 =>
        some (.inl ((v1, M10)))
      else
        (gR 12 127 94 M6 v0).bind fun x11 =>
        (f_X12_isHere v0 x11 M6).bind fun (x12, M13) =>
        if x12 = 0 then
          (f_X12_qFact v0 M13).bind fun M14 =>
          (f_X12_qDropsNots v0 M14).bind fun M15 =>
          (gI 12 127 5 M15 v0).bind fun x16 =>
          if x16 = 0 then
            (f_X12_qGoesOnTest v0 M15).bind fun (x17, M18) =>
            if x17 = 0 then
              f_X12_qTest_B105 v0 M18
            else
              f_X12_qTest_B101 v0 M18
          else
            f_X12_qTest_B105 v0 M15
        else
          (gI 12 127 2 M13 v0).bind fun x19 =>
          (f_X12_qOpens v0 ((12 : Int32)) x19 M13).bind fun M20 =>
          (gR 12 127 94 M20 v0).bind fun x21 =>
          (f_X12_asks v0 x21 M20).bind fun M22 =>
          some (.inl ((v1, M22)))
    else
      some (.inr M)
def f_X12_qTest_L2 (v0 : Nat) (v1 : Int32) (M : sMem) : Option sMem :=
  (sItr (fun a : (Int32 × sMem) => f_X12_qTest_K2 v0 a.1 a.2) sFuel (v1, M)).bind (fun b => f_X12_qTest_L110 v0 b)
def f_X12_qTest (v0 : Nat) (M0 : sMem) : Option sMem :=
  sRc 12 127 M0 v0 (
    f_X12_qTest_L2 v0 ((1 : Int32)) M0)
set_option maxRecDepth 100000 in
set_option maxHeartbeats 4000000 in
theorem m_X12_qTest (G : sG) (l : Launch) (v0 : Nat) (M0 : sMem) : sCv G l 9 yX12_qTest cX12_qTest 3 none [.ref v0] M0 (f_X12_qTest v0 M0) := by
  refine sC_v (ls := [some (.ref v0), none, none]) (by decide +kernel) rfl (Nat.le_of_ble_eq_true rfl) (fun r M' K hr => ?_)
  unfold f_X12_qTest
  have xL110 : ∀ (v0 : Nat) (M : sMem), sX G l 9 yX12_qTest cX12_qTest 3 none M0 r M' 110 [some (.ref v0), none, none] [] M (f_X12_qTest_L110 v0 M) K := by
    intro v0 M
    unfold f_X12_qTest_L110
    refine sX_bind ?_
    refine sX_loop (LS := fun a : (sMem) => [some (.ref v0), none, none]) (MM := fun a => a) (fun K1 hb1 he1 => ?_) sFuel M
    have xK110 : ∀  (M : sMem), sX G l 9 yX12_qTest cX12_qTest 3 none M0 r M' 110 [some (.ref v0), none, none] [] M (f_X12_qTest_K110 v0 M) K1 := by
      intro M
      unfold f_X12_qTest_K110
      refine sX_aload_n (i := 0) (by decide +kernel) rfl ?_
      refine sX_getI lf_X12_300 tk_12_5 (by decide +kernel) (fun x1 => ?_)
      refine sX_ifne (o := 17) (t := 131) (by decide +kernel) (by decide) (fun _ => ?_) (fun _ => ?_)
      · refine sX_aload_n (i := 0) (by decide +kernel) rfl ?_
        refine sX_getI lf_X12_398 tk_12_118 (by decide +kernel) (fun x2 => ?_)
        refine sX_ifle (o := 10) (t := 131) (by decide +kernel) (by decide) (fun _ => ?_) (fun _ => ?_)
        · refine sX_exit he1 ?_
          exact sX_some (fun h _ => sW_vret (by decide +kernel) rfl (hr _ h).1.symm (hr _ h).2.symm)
        · refine sX_aload_n (i := 0) (by decide +kernel) rfl ?_
          refine sX_callVv (As := []) (by decide +kernel) lm_X12_681 mf_X12_qDrops mi_X12_qDrops mc_12 (m_X12_qDrops G l v0 M) (fun _ h => sRc_some h) (by decide) rfl rfl (Nat.le_of_ble_eq_true rfl) (fun M3 => ?_)
          refine sX_goto (o := -18) (t := 110) (by decide +kernel) (by decide) ?_
          exact sX_back (a := M3) hb1 rfl (sLe_s (sLe_n (sLe_n sLe_e)))
      · refine sX_exit he1 ?_
        exact sX_some (fun h _ => sW_vret (by decide +kernel) rfl (hr _ h).1.symm (hr _ h).2.symm)
    exact fun a => xK110 a
  have xL2 : ∀ (v0 : Nat) (v1 : Int32) (M : sMem), sX G l 9 yX12_qTest cX12_qTest 3 none M0 r M' 2 [some (.ref v0), some (.int v1), none] [] M (f_X12_qTest_L2 v0 v1 M) K := by
    intro v0 v1 M
    unfold f_X12_qTest_L2
    refine sX_bind ?_
    refine sX_loop (LS := fun a : (Int32 × sMem) => [some (.ref v0), some (.int a.1), none]) (MM := fun a => a.2) (fun K1 hb1 he1 => ?_) sFuel ((v1, M))
    have xB106 : ∀ (s0 : Int32) (M : sMem), sX G l 9 yX12_qTest cX12_qTest 3 none M0 r M' 106 [some (.ref v0), none, none] [.int s0] M (f_X12_qTest_B106 v0 s0 M) K1 := by
      intro s0 M
      unfold f_X12_qTest_B106
      refine sX_istore_n (i := 1) (ls2 := [some (.ref v0), some (.int s0), none]) (by decide +kernel) (by decide) rfl ?_
      refine sX_goto (o := -105) (t := 2) (by decide +kernel) (by decide) ?_
      exact sX_back (a := (s0, M)) hb1 rfl (sLe_s (sLe_s (sLe_n sLe_e)))
    have xB105 : ∀ (M : sMem), sX G l 9 yX12_qTest cX12_qTest 3 none M0 r M' 105 [some (.ref v0), none, none] [] M (f_X12_qTest_B105 v0 M) K1 := by
      intro M
      unfold f_X12_qTest_B105
      refine sX_iconst (n := 0) (v := (0 : Int32)) (by decide +kernel) (by decide) ?_
      exact sX.le (xB106 ((0 : Int32)) M) (sLe_s (sLe_n (sLe_n sLe_e)))
    have xB101 : ∀ (M : sMem), sX G l 9 yX12_qTest cX12_qTest 3 none M0 r M' 101 [some (.ref v0), none, none] [] M (f_X12_qTest_B101 v0 M) K1 := by
      intro M
      unfold f_X12_qTest_B101
      refine sX_iconst (n := 1) (v := (1 : Int32)) (by decide +kernel) (by decide) ?_
      refine sX_goto (o := 4) (t := 106) (by decide +kernel) (by decide) ?_
      exact sX.le (xB106 ((1 : Int32)) M) (sLe_s (sLe_n (sLe_n sLe_e)))
    have xK2 : ∀ (v1 : Int32) (M : sMem), sX G l 9 yX12_qTest cX12_qTest 3 none M0 r M' 2 [some (.ref v0), some (.int v1), none] [] M (f_X12_qTest_K2 v0 v1 M) K1 := by
      intro v1 M
      unfold f_X12_qTest_K2
      refine sX_iload_n (i := 1) (by decide +kernel) rfl ?_
      refine sX_ifeq (o := 107) (t := 110) (by decide +kernel) (by decide) (fun _ => ?_) (fun _ => ?_)
      · refine sX_exit he1 ?_
        exact sX.le (xL110 v0 M) (sLe_s (sLe_n (sLe_n sLe_e)))
      · refine sX_aload_n (i := 0) (by decide +kernel) rfl ?_
        refine sX_getI lf_X12_300 tk_12_5 (by decide +kernel) (fun x4 => ?_)
        refine sX_ifne (o := 100) (t := 110) (by decide +kernel) (by decide) (fun _ => ?_) (fun _ => ?_)
        · refine sX_aload_n (i := 0) (by decide +kernel) rfl ?_
          refine sX_callV (As := []) (by decide +kernel) lm_X12_312 mf_X12_look mi_X12_look mc_12 (m_X12_look G l v0 M) (fun _ h => sRc_some h) (by decide) rfl rfl (Nat.le_of_ble_eq_true rfl) (fun x5 M6 _ => ?_)
          refine sX_istore_n (i := 2) (ls2 := [some (.ref v0), some (.int v1), some (.int x5)]) (by decide +kernel) (by decide) rfl ?_
          refine sX_iload_n (i := 2) (by decide +kernel) rfl ?_
          refine sX_bipush (n := 91) (v := (91 : Int32)) (by decide +kernel) (by decide) ?_
          refine sX_icne (o := 26) (t := 47) (by decide +kernel) (by decide) (fun _ => ?_) (fun _ => ?_)
          · refine sX_aload_n (i := 0) (by decide +kernel) rfl ?_
            refine sX_bipush (n := 25) (v := (25 : Int32)) (by decide +kernel) (by decide) ?_
            refine sX_aload_n (i := 0) (by decide +kernel) rfl ?_
            refine sX_getI lf_X12_306 tk_12_2 (by decide +kernel) (fun x7 => ?_)
            refine sX_callVv (As := [.int (25 : Int32), .int x7]) (by decide +kernel) lm_X12_693 mf_X12_qOpens mi_X12_qOpens mc_12 (m_X12_qOpens G l v0 ((25 : Int32)) x7 M6) (fun _ h => sRc_some h) (by decide) rfl rfl (Nat.le_of_ble_eq_true rfl) (fun M8 => ?_)
            refine sX_aload_n (i := 0) (by decide +kernel) rfl ?_
            refine sX_dup (by decide +kernel) rfl ?_
            refine sX_getI lf_X12_306 tk_12_2 (by decide +kernel) (fun x9 => ?_)
            refine sX_iconst (n := 1) (v := (1 : Int32)) (by decide +kernel) (by decide) ?_
            refine sX_iadd (by decide +kernel) ?_
            refine sX_putI lf_X12_306 tp_12_2 (by decide +kernel) (by decide) (fun M10 => ?_)
            refine sX_goto (o := -42) (t := 2) (by decide +kernel) (by decide) ?_
            exact sX_back (a := (v1, M10)) hb1 rfl (sLe_s (sLe_s (sLe_n sLe_e)))
          · refine sX_aload_n (i := 0) (by decide +kernel) rfl ?_
            refine sX_aload_n (i := 0) (by decide +kernel) rfl ?_
            refine sX_getR lf_X12_222 tk_12_94 (by decide +kernel) (fun x11 => ?_)
            refine sX_callV (As := [.ref x11]) (by decide +kernel) lm_X12_323 mf_X12_isHere mi_X12_isHere mc_12 (m_X12_isHere G l v0 x11 M6) (fun _ h => sRc_some h) (by decide) rfl rfl (Nat.le_of_ble_eq_true rfl) (fun x12 M13 _ => ?_)
            refine sX_ifeq (o := 24) (t := 79) (by decide +kernel) (by decide) (fun _ => ?_) (fun _ => ?_)
            · refine sX_aload_n (i := 0) (by decide +kernel) rfl ?_
              refine sX_callVv (As := []) (by decide +kernel) lm_X12_717 mf_X12_qFact mi_X12_qFact mc_12 (m_X12_qFact G l v0 M13) (fun _ h => sRc_some h) (by decide) rfl rfl (Nat.le_of_ble_eq_true rfl) (fun M14 => ?_)
              refine sX_aload_n (i := 0) (by decide +kernel) rfl ?_
              refine sX_callVv (As := []) (by decide +kernel) lm_X12_720 mf_X12_qDropsNots mi_X12_qDropsNots mc_12 (m_X12_qDropsNots G l v0 M14) (fun _ h => sRc_some h) (by decide) rfl rfl (Nat.le_of_ble_eq_true rfl) (fun M15 => ?_)
              refine sX_aload_n (i := 0) (by decide +kernel) rfl ?_
              refine sX_getI lf_X12_300 tk_12_5 (by decide +kernel) (fun x16 => ?_)
              refine sX_ifne (o := 14) (t := 105) (by decide +kernel) (by decide) (fun _ => ?_) (fun _ => ?_)
              · refine sX_aload_n (i := 0) (by decide +kernel) rfl ?_
                refine sX_callV (As := []) (by decide +kernel) lm_X12_723 mf_X12_qGoesOnTest mi_X12_qGoesOnTest mc_12 (m_X12_qGoesOnTest G l v0 M15) (fun _ h => sRc_some h) (by decide) rfl rfl (Nat.le_of_ble_eq_true rfl) (fun x17 M18 _ => ?_)
                refine sX_ifeq (o := 7) (t := 105) (by decide +kernel) (by decide) (fun _ => ?_) (fun _ => ?_)
                · exact sX.le (xB105 M18) (sLe_s (sLe_n (sLe_n sLe_e)))
                · exact sX.le (xB101 M18) (sLe_s (sLe_n (sLe_n sLe_e)))
              · exact sX.le (xB105 M15) (sLe_s (sLe_n (sLe_n sLe_e)))
            · refine sX_aload_n (i := 0) (by decide +kernel) rfl ?_
              refine sX_bipush (n := 12) (v := (12 : Int32)) (by decide +kernel) (by decide) ?_
              refine sX_aload_n (i := 0) (by decide +kernel) rfl ?_
              refine sX_getI lf_X12_306 tk_12_2 (by decide +kernel) (fun x19 => ?_)
              refine sX_callVv (As := [.int (12 : Int32), .int x19]) (by decide +kernel) lm_X12_693 mf_X12_qOpens mi_X12_qOpens mc_12 (m_X12_qOpens G l v0 ((12 : Int32)) x19 M13) (fun _ h => sRc_some h) (by decide) rfl rfl (Nat.le_of_ble_eq_true rfl) (fun M20 => ?_)
              refine sX_aload_n (i := 0) (by decide +kernel) rfl ?_
              refine sX_aload_n (i := 0) (by decide +kernel) rfl ?_
              refine sX_getR lf_X12_222 tk_12_94 (by decide +kernel) (fun x21 => ?_)
              refine sX_callVv (As := [.ref x21]) (by decide +kernel) lm_X12_373 mf_X12_asks mi_X12_asks mc_12 (m_X12_asks G l v0 x21 M20) (fun _ h => sRc_some h) (by decide) rfl rfl (Nat.le_of_ble_eq_true rfl) (fun M22 => ?_)
              refine sX_goto (o := -74) (t := 2) (by decide +kernel) (by decide) ?_
              exact sX_back (a := (v1, M22)) hb1 rfl (sLe_s (sLe_s (sLe_n sLe_e)))
        · refine sX_exit he1 ?_
          exact sX.le (xL110 v0 M) (sLe_s (sLe_n (sLe_n sLe_e)))
    exact fun a => xK2 a.1 a.2
  refine sX_rc ?_
  refine sX_iconst (n := 1) (v := (1 : Int32)) (by decide +kernel) (by decide) ?_
  refine sX_istore_n (i := 1) (ls2 := [some (.ref v0), some (.int (1 : Int32)), none]) (by decide +kernel) (by decide) rfl ?_
  exact sX.le (xL2 v0 ((1 : Int32)) M0) (sLe_s (sLe_s (sLe_n sLe_e)))
def f_X12_codesTold_B130 (v0 : Nat) (v1 : Int32) (M : sMem) : Option sMem :=
  (gR 12 127 53 M v0).bind fun x1 =>
  (gI 12 127 55 M v0).bind fun x2 =>
  (stI M x1 v1 x2).bind fun M3 =>
  some M3
def f_X12_codesTold_K91 (v0 : Nat) (v1 : Int32) (v3 : Int32) (M : sMem) : Option ((Int32 × sMem) ⊕ ((sMem))) :=
  (gI 12 127 116 M v0).bind fun x4 =>
  if x4 ≤ v3 then
    some (.inr M)
  else
    (gR 12 127 54 M v0).bind fun x5 =>
    (gI 12 127 55 M v0).bind fun x6 =>
    (gR 12 127 115 M v0).bind fun x7 =>
    (ldI 14 M x7 v3).bind fun x8 =>
    (stI M x5 x6 x8).bind fun M9 =>
    (gI 12 127 55 M9 v0).bind fun x10 =>
    (pI 12 127 55 M9 v0 ((x10 + (1 : Int32)))).bind fun M11 =>
    some (.inl ((((v3 + (1 : Int32))), M11)))
def f_X12_codesTold_L91 (v0 : Nat) (v1 : Int32) (v3 : Int32) (M : sMem) : Option sMem :=
  (sItr (fun a : (Int32 × sMem) => f_X12_codesTold_K91 v0 v1 a.1 a.2) sFuel (v3, M)).bind (fun b => f_X12_codesTold_B130 v0 v1 b)
def f_X12_codesTold_B71 (v0 : Nat) (v1 : Int32) (M : sMem) : Option sMem :=
  (gI 12 127 5 M v0).bind fun x12 =>
  if x12 = 0 then
    (gR 12 127 52 M v0).bind fun x13 =>
    (gI 12 127 55 M v0).bind fun x14 =>
    (stI M x13 v1 x14).bind fun M15 =>
    f_X12_codesTold_L91 v0 v1 ((0 : Int32)) M15
  else
    some M
def f_X12_codesTold_B23 (v0 : Nat) (v1 : Int32) (M : sMem) : Option sMem :=
  (gI 12 127 5 M v0).bind fun x16 =>
  if x16 = 0 then
    (pI 12 127 58 M v0 v1).bind fun M17 =>
    (pI 12 127 116 M17 v0 ((0 : Int32))).bind fun M18 =>
    (pI 12 127 118 M18 v0 ((0 : Int32))).bind fun M19 =>
    (pI 12 127 119 M19 v0 ((0 : Int32))).bind fun M20 =>
    (pI 12 127 120 M20 v0 ((0 : Int32))).bind fun M21 =>
    if v1 = 0 then
      (f_X12_qTest v0 M21).bind fun M22 =>
      f_X12_codesTold_B71 v0 v1 M22
    else
      (f_X12_qSums v0 M21).bind fun M23 =>
      f_X12_codesTold_B71 v0 v1 M23
  else
    some M
def f_X12_codesTold (v0 : Nat) (v1 : Int32) (v2 : Int32) (M0 : sMem) : Option sMem :=
  sRc 12 127 M0 v0 (
    (gI 12 127 5 M0 v0).bind fun x24 =>
    if x24 = 0 then
      (gR 12 127 52 M0 v0).bind fun x25 =>
      (ldI 14 M0 x25 v1).bind fun x26 =>
      if x26 = (-1 : Int32) then
        f_X12_codesTold_B23 v0 v1 M0
      else
        (f_X12_fail v0 ((5 : Int32)) v2 M0).bind fun M27 =>
        f_X12_codesTold_B23 v0 v1 M27
    else
      f_X12_codesTold_B23 v0 v1 M0)
set_option maxRecDepth 100000 in
set_option maxHeartbeats 4000000 in
theorem m_X12_codesTold (G : sG) (l : Launch) (v0 : Nat) (v1 : Int32) (v2 : Int32) (M0 : sMem) : sCv G l 10 yX12_codesTold cX12_codesTold 4 none [.ref v0, .int v1, .int v2] M0 (f_X12_codesTold v0 v1 v2 M0) := by
  refine sC_v (ls := [some (.ref v0), some (.int v1), some (.int v2), none]) (by decide +kernel) rfl (Nat.le_of_ble_eq_true rfl) (fun r M' K hr => ?_)
  unfold f_X12_codesTold
  have xB130 : ∀ (v0 : Nat) (v1 : Int32) (M : sMem), sX G l 10 yX12_codesTold cX12_codesTold 4 none M0 r M' 130 [some (.ref v0), some (.int v1), none, none] [] M (f_X12_codesTold_B130 v0 v1 M) K := by
    intro v0 v1 M
    unfold f_X12_codesTold_B130
    refine sX_aload_n (i := 0) (by decide +kernel) rfl ?_
    refine sX_getR lf_X12_145 tk_12_53 (by decide +kernel) (fun x1 => ?_)
    refine sX_iload_n (i := 1) (by decide +kernel) rfl ?_
    refine sX_aload_n (i := 0) (by decide +kernel) rfl ?_
    refine sX_getI lf_X12_413 tk_12_55 (by decide +kernel) (fun x2 => ?_)
    refine sX_iastore (by decide +kernel) (by decide) (fun M3 => ?_)
    exact sX_some (fun h _ => sW_vret (by decide +kernel) rfl (hr _ h).1.symm (hr _ h).2.symm)
  have xL91 : ∀ (v0 : Nat) (v1 : Int32) (v3 : Int32) (M : sMem), sX G l 10 yX12_codesTold cX12_codesTold 4 none M0 r M' 91 [some (.ref v0), some (.int v1), none, some (.int v3)] [] M (f_X12_codesTold_L91 v0 v1 v3 M) K := by
    intro v0 v1 v3 M
    unfold f_X12_codesTold_L91
    refine sX_bind ?_
    refine sX_loop (LS := fun a : (Int32 × sMem) => [some (.ref v0), some (.int v1), none, some (.int a.1)]) (MM := fun a => a.2) (fun K1 hb1 he1 => ?_) sFuel ((v3, M))
    have xK91 : ∀ (v3 : Int32) (M : sMem), sX G l 10 yX12_codesTold cX12_codesTold 4 none M0 r M' 91 [some (.ref v0), some (.int v1), none, some (.int v3)] [] M (f_X12_codesTold_K91 v0 v1 v3 M) K1 := by
      intro v3 M
      unfold f_X12_codesTold_K91
      refine sX_iload_n (i := 3) (by decide +kernel) rfl ?_
      refine sX_aload_n (i := 0) (by decide +kernel) rfl ?_
      refine sX_getI lf_X12_395 tk_12_116 (by decide +kernel) (fun x4 => ?_)
      refine sX_icge (o := 34) (t := 130) (by decide +kernel) (by decide) (fun _ => ?_) (fun _ => ?_)
      · refine sX_exit he1 ?_
        exact sX.le (xB130 v0 v1 M) (sLe_s (sLe_s (sLe_n (sLe_n sLe_e))))
      · refine sX_aload_n (i := 0) (by decide +kernel) rfl ?_
        refine sX_getR lf_X12_148 tk_12_54 (by decide +kernel) (fun x5 => ?_)
        refine sX_aload_n (i := 0) (by decide +kernel) rfl ?_
        refine sX_getI lf_X12_413 tk_12_55 (by decide +kernel) (fun x6 => ?_)
        refine sX_aload_n (i := 0) (by decide +kernel) rfl ?_
        refine sX_getR lf_X12_285 tk_12_115 (by decide +kernel) (fun x7 => ?_)
        refine sX_iload_n (i := 3) (by decide +kernel) rfl ?_
        refine sX_iaload (by decide +kernel) (fun x8 => ?_)
        refine sX_iastore (by decide +kernel) (by decide) (fun M9 => ?_)
        refine sX_aload_n (i := 0) (by decide +kernel) rfl ?_
        refine sX_dup (by decide +kernel) rfl ?_
        refine sX_getI lf_X12_413 tk_12_55 (by decide +kernel) (fun x10 => ?_)
        refine sX_iconst (n := 1) (v := (1 : Int32)) (by decide +kernel) (by decide) ?_
        refine sX_iadd (by decide +kernel) ?_
        refine sX_putI lf_X12_413 tp_12_55 (by decide +kernel) (by decide) (fun M11 => ?_)
        refine sX_iinc (i := 3) (n := 1) (v := v3 + (1 : Int32)) (ls2 := [some (.ref v0), some (.int v1), none, some (.int (v3 + (1 : Int32)))]) (by decide +kernel) rfl rfl (by decide) rfl ?_
        refine sX_goto (o := -36) (t := 91) (by decide +kernel) (by decide) ?_
        exact sX_back (a := (((v3 + (1 : Int32))), M11)) hb1 rfl (sLe_s (sLe_s (sLe_n (sLe_s sLe_e))))
    exact fun a => xK91 a.1 a.2
  have xB71 : ∀ (v0 : Nat) (v1 : Int32) (M : sMem), sX G l 10 yX12_codesTold cX12_codesTold 4 none M0 r M' 71 [some (.ref v0), some (.int v1), none, none] [] M (f_X12_codesTold_B71 v0 v1 M) K := by
    intro v0 v1 M
    unfold f_X12_codesTold_B71
    refine sX_aload_n (i := 0) (by decide +kernel) rfl ?_
    refine sX_getI lf_X12_300 tk_12_5 (by decide +kernel) (fun x12 => ?_)
    refine sX_ifeq (o := 4) (t := 79) (by decide +kernel) (by decide) (fun _ => ?_) (fun _ => ?_)
    · refine sX_aload_n (i := 0) (by decide +kernel) rfl ?_
      refine sX_getR lf_X12_142 tk_12_52 (by decide +kernel) (fun x13 => ?_)
      refine sX_iload_n (i := 1) (by decide +kernel) rfl ?_
      refine sX_aload_n (i := 0) (by decide +kernel) rfl ?_
      refine sX_getI lf_X12_413 tk_12_55 (by decide +kernel) (fun x14 => ?_)
      refine sX_iastore (by decide +kernel) (by decide) (fun M15 => ?_)
      refine sX_iconst (n := 0) (v := (0 : Int32)) (by decide +kernel) (by decide) ?_
      refine sX_istore_n (i := 3) (ls2 := [some (.ref v0), some (.int v1), none, some (.int (0 : Int32))]) (by decide +kernel) (by decide) rfl ?_
      exact sX.le (xL91 v0 v1 ((0 : Int32)) M15) (sLe_s (sLe_s (sLe_n (sLe_s sLe_e))))
    · exact sX_some (fun h _ => sW_vret (by decide +kernel) rfl (hr _ h).1.symm (hr _ h).2.symm)
  have xB23 : ∀ (v0 : Nat) (v1 : Int32) (M : sMem), sX G l 10 yX12_codesTold cX12_codesTold 4 none M0 r M' 23 [some (.ref v0), some (.int v1), none, none] [] M (f_X12_codesTold_B23 v0 v1 M) K := by
    intro v0 v1 M
    unfold f_X12_codesTold_B23
    refine sX_aload_n (i := 0) (by decide +kernel) rfl ?_
    refine sX_getI lf_X12_300 tk_12_5 (by decide +kernel) (fun x16 => ?_)
    refine sX_ifeq (o := 4) (t := 31) (by decide +kernel) (by decide) (fun _ => ?_) (fun _ => ?_)
    · refine sX_aload_n (i := 0) (by decide +kernel) rfl ?_
      refine sX_iload_n (i := 1) (by decide +kernel) rfl ?_
      refine sX_putI lf_X12_358 tp_12_58 (by decide +kernel) (by decide) (fun M17 => ?_)
      refine sX_aload_n (i := 0) (by decide +kernel) rfl ?_
      refine sX_iconst (n := 0) (v := (0 : Int32)) (by decide +kernel) (by decide) ?_
      refine sX_putI lf_X12_395 tp_12_116 (by decide +kernel) (by decide) (fun M18 => ?_)
      refine sX_aload_n (i := 0) (by decide +kernel) rfl ?_
      refine sX_iconst (n := 0) (v := (0 : Int32)) (by decide +kernel) (by decide) ?_
      refine sX_putI lf_X12_398 tp_12_118 (by decide +kernel) (by decide) (fun M19 => ?_)
      refine sX_aload_n (i := 0) (by decide +kernel) rfl ?_
      refine sX_iconst (n := 0) (v := (0 : Int32)) (by decide +kernel) (by decide) ?_
      refine sX_putI lf_X12_401 tp_12_119 (by decide +kernel) (by decide) (fun M20 => ?_)
      refine sX_aload_n (i := 0) (by decide +kernel) rfl ?_
      refine sX_iconst (n := 0) (v := (0 : Int32)) (by decide +kernel) (by decide) ?_
      refine sX_putI lf_X12_404 tp_12_120 (by decide +kernel) (by decide) (fun M21 => ?_)
      refine sX_iload_n (i := 1) (by decide +kernel) rfl ?_
      refine sX_ifne (o := 10) (t := 67) (by decide +kernel) (by decide) (fun _ => ?_) (fun _ => ?_)
      · refine sX_aload_n (i := 0) (by decide +kernel) rfl ?_
        refine sX_callVv (As := []) (by decide +kernel) lm_X12_407 mf_X12_qTest mi_X12_qTest mc_12 (m_X12_qTest G l v0 M21) (fun _ h => sRc_some h) (by decide) rfl rfl (Nat.le_of_ble_eq_true rfl) (fun M22 => ?_)
        refine sX_goto (o := 7) (t := 71) (by decide +kernel) (by decide) ?_
        exact sX.le (xB71 v0 v1 M22) (sLe_s (sLe_s (sLe_n (sLe_n sLe_e))))
      · refine sX_aload_n (i := 0) (by decide +kernel) rfl ?_
        refine sX_callVv (As := []) (by decide +kernel) lm_X12_410 mf_X12_qSums mi_X12_qSums mc_12 (m_X12_qSums G l v0 M21) (fun _ h => sRc_some h) (by decide) rfl rfl (Nat.le_of_ble_eq_true rfl) (fun M23 => ?_)
        exact sX.le (xB71 v0 v1 M23) (sLe_s (sLe_s (sLe_n (sLe_n sLe_e))))
    · exact sX_some (fun h _ => sW_vret (by decide +kernel) rfl (hr _ h).1.symm (hr _ h).2.symm)
  refine sX_rc ?_
  refine sX_aload_n (i := 0) (by decide +kernel) rfl ?_
  refine sX_getI lf_X12_300 tk_12_5 (by decide +kernel) (fun x24 => ?_)
  refine sX_ifne (o := 19) (t := 23) (by decide +kernel) (by decide) (fun _ => ?_) (fun _ => ?_)
  · refine sX_aload_n (i := 0) (by decide +kernel) rfl ?_
    refine sX_getR lf_X12_142 tk_12_52 (by decide +kernel) (fun x25 => ?_)
    refine sX_iload_n (i := 1) (by decide +kernel) rfl ?_
    refine sX_iaload (by decide +kernel) (fun x26 => ?_)
    refine sX_iconst (n := -1) (v := (-1 : Int32)) (by decide +kernel) (by decide) ?_
    refine sX_iceq (o := 9) (t := 23) (by decide +kernel) (by decide) (fun _ => ?_) (fun _ => ?_)
    · exact sX.le (xB23 v0 v1 M0) (sLe_s (sLe_s (sLe_n (sLe_n sLe_e))))
    · refine sX_aload_n (i := 0) (by decide +kernel) rfl ?_
      refine sX_iconst (n := 5) (v := (5 : Int32)) (by decide +kernel) (by decide) ?_
      refine sX_iload_n (i := 2) (by decide +kernel) rfl ?_
      refine sX_callVv (As := [.int (5 : Int32), .int v2]) (by decide +kernel) lm_X12_330 mf_X12_fail mi_X12_fail mc_12 (m_X12_fail G l v0 ((5 : Int32)) v2 M0) (fun _ h => sRc_some h) (by decide) rfl rfl (Nat.le_of_ble_eq_true rfl) (fun M27 => ?_)
      exact sX.le (xB23 v0 v1 M27) (sLe_s (sLe_s (sLe_n (sLe_n sLe_e))))
  · exact sX.le (xB23 v0 v1 M0) (sLe_s (sLe_s (sLe_n (sLe_n sLe_e))))
def f_X12_statementTold_B218 (v0 : Nat) (M : sMem) : Option sMem :=
  (f_X12_asksSign v0 ((59 : Int32)) M).bind fun M1 =>
  (gI 12 127 56 M1 v0).bind fun x2 =>
  (pI 12 127 56 M1 v0 ((x2 + (1 : Int32)))).bind fun M3 =>
  some M3
def f_X12_statementTold_B188 (v0 : Nat) (v1 : Int32) (M : sMem) : Option sMem :=
  (f_X12_codesTold v0 ((2 : Int32)) v1 M).bind fun M4 =>
  f_X12_statementTold_B218 v0 M4
def f_X12_statementTold_B90 (v0 : Nat) (v1 : Int32) (M : sMem) : Option sMem :=
  (f_X12_roadTold v0 ((1 : Int32)) v1 M).bind fun M5 =>
  f_X12_statementTold_B218 v0 M5
def f_X12_statementTold (v0 : Nat) (M0 : sMem) : Option sMem :=
  sRc 12 127 M0 v0 (
    (gI 12 127 2 M0 v0).bind fun x6 =>
    (gI 12 127 56 M0 v0).bind fun x7 =>
    if x7 = (80 : Int32) then
      (f_X12_fail v0 ((5 : Int32)) x6 M0).bind fun M8 =>
      some M8
    else
      (gR 12 127 12 M0 v0).bind fun x9 =>
      (f_X12_takes v0 x9 M0).bind fun (x10, M11) =>
      if x10 = 0 then
        (gR 12 127 14 M11 v0).bind fun x12 =>
        (f_X12_takes v0 x12 M11).bind fun (x13, M14) =>
        if x13 = 0 then
          (gR 12 127 15 M14 v0).bind fun x15 =>
          (f_X12_takes v0 x15 M14).bind fun (x16, M17) =>
          if x16 = 0 then
            (gR 12 127 18 M17 v0).bind fun x18 =>
            (f_X12_takes v0 x18 M17).bind fun (x19, M20) =>
            if x19 = 0 then
              (gR 12 127 20 M20 v0).bind fun x21 =>
              (f_X12_takes v0 x21 M20).bind fun (x22, M23) =>
              if x22 = 0 then
                (gR 12 127 24 M23 v0).bind fun x24 =>
                (f_X12_takes v0 x24 M23).bind fun (x25, M26) =>
                if x25 = 0 then
                  (gR 12 127 25 M26 v0).bind fun x27 =>
                  (f_X12_takes v0 x27 M26).bind fun (x28, M29) =>
                  if x28 = 0 then
                    (gR 12 127 26 M29 v0).bind fun x30 =>
                    (f_X12_takes v0 x30 M29).bind fun (x31, M32) =>
                    if x31 = 0 then
                      (gR 12 127 27 M32 v0).bind fun x33 =>
                      (f_X12_takes v0 x33 M32).bind fun (x34, M35) =>
                      if x34 = 0 then
                        (gR 12 127 28 M35 v0).bind fun x36 =>
                        (f_X12_asks v0 x36 M35).bind fun M37 =>
                        (gR 12 127 45 M37 v0).bind fun x38 =>
                        (f_X12_number v0 ((0 : Int32)) ((100 : Int32)) M37).bind fun (x39, M40) =>
                        (stI M40 x38 ((1 : Int32)) x39).bind fun M41 =>
                        f_X12_statementTold_B218 v0 M41
                      else
                        f_X12_statementTold_B188 v0 x6 M35
                    else
                      (f_X12_codesTold v0 ((1 : Int32)) x6 M32).bind fun M42 =>
                      f_X12_statementTold_B218 v0 M42
                  else
                    (f_X12_codesTold v0 ((0 : Int32)) x6 M29).bind fun M43 =>
                    f_X12_statementTold_B218 v0 M43
                else
                  (f_X12_carTold v0 x6 M26).bind fun M44 =>
                  f_X12_statementTold_B218 v0 M44
              else
                (f_X12_eraTold v0 x6 M23).bind fun M45 =>
                f_X12_statementTold_B218 v0 M45
            else
              f_X12_statementTold_B90 v0 x6 M20
          else
            (f_X12_roadTold v0 ((0 : Int32)) x6 M17).bind fun M46 =>
            f_X12_statementTold_B218 v0 M46
        else
          (f_X12_placeTold v0 x6 M14).bind fun M47 =>
          f_X12_statementTold_B218 v0 M47
      else
        (f_X12_gateTold v0 x6 M11).bind fun M48 =>
        f_X12_statementTold_B218 v0 M48)
set_option maxRecDepth 100000 in
set_option maxHeartbeats 4000000 in
theorem m_X12_statementTold (G : sG) (l : Launch) (v0 : Nat) (M0 : sMem) : sCv G l 11 yX12_statementTold cX12_statementTold 2 none [.ref v0] M0 (f_X12_statementTold v0 M0) := by
  refine sC_v (ls := [some (.ref v0), none]) (by decide +kernel) rfl (Nat.le_of_ble_eq_true rfl) (fun r M' K hr => ?_)
  unfold f_X12_statementTold
  have xB218 : ∀ (v0 : Nat) (M : sMem), sX G l 11 yX12_statementTold cX12_statementTold 2 none M0 r M' 218 [some (.ref v0), none] [] M (f_X12_statementTold_B218 v0 M) K := by
    intro v0 M
    unfold f_X12_statementTold_B218
    refine sX_aload_n (i := 0) (by decide +kernel) rfl ?_
    refine sX_bipush (n := 59) (v := (59 : Int32)) (by decide +kernel) (by decide) ?_
    refine sX_callVv (As := [.int (59 : Int32)]) (by decide +kernel) lm_X12_381 mf_X12_asksSign mi_X12_asksSign mc_12 (m_X12_asksSign G l v0 ((59 : Int32)) M) (fun _ h => sRc_some h) (by decide) rfl rfl (Nat.le_of_ble_eq_true rfl) (fun M1 => ?_)
    refine sX_aload_n (i := 0) (by decide +kernel) rfl ?_
    refine sX_dup (by decide +kernel) rfl ?_
    refine sX_getI lf_X12_416 tk_12_56 (by decide +kernel) (fun x2 => ?_)
    refine sX_iconst (n := 1) (v := (1 : Int32)) (by decide +kernel) (by decide) ?_
    refine sX_iadd (by decide +kernel) ?_
    refine sX_putI lf_X12_416 tp_12_56 (by decide +kernel) (by decide) (fun M3 => ?_)
    exact sX_some (fun h _ => sW_vret (by decide +kernel) rfl (hr _ h).1.symm (hr _ h).2.symm)
  have xB188 : ∀ (v0 : Nat) (v1 : Int32) (M : sMem), sX G l 11 yX12_statementTold cX12_statementTold 2 none M0 r M' 188 [some (.ref v0), some (.int v1)] [] M (f_X12_statementTold_B188 v0 v1 M) K := by
    intro v0 v1 M
    unfold f_X12_statementTold_B188
    refine sX_aload_n (i := 0) (by decide +kernel) rfl ?_
    refine sX_iconst (n := 2) (v := (2 : Int32)) (by decide +kernel) (by decide) ?_
    refine sX_iload_n (i := 1) (by decide +kernel) rfl ?_
    refine sX_callVv (As := [.int (2 : Int32), .int v1]) (by decide +kernel) lm_X12_435 mf_X12_codesTold mi_X12_codesTold mc_12 (m_X12_codesTold G l v0 ((2 : Int32)) v1 M) (fun _ h => sRc_some h) (by decide) rfl rfl (Nat.le_of_ble_eq_true rfl) (fun M4 => ?_)
    refine sX_goto (o := 24) (t := 218) (by decide +kernel) (by decide) ?_
    exact sX.le (xB218 v0 M4) (sLe_s (sLe_n sLe_e))
  have xB90 : ∀ (v0 : Nat) (v1 : Int32) (M : sMem), sX G l 11 yX12_statementTold cX12_statementTold 2 none M0 r M' 90 [some (.ref v0), some (.int v1)] [] M (f_X12_statementTold_B90 v0 v1 M) K := by
    intro v0 v1 M
    unfold f_X12_statementTold_B90
    refine sX_aload_n (i := 0) (by decide +kernel) rfl ?_
    refine sX_iconst (n := 1) (v := (1 : Int32)) (by decide +kernel) (by decide) ?_
    refine sX_iload_n (i := 1) (by decide +kernel) rfl ?_
    refine sX_callVv (As := [.int (1 : Int32), .int v1]) (by decide +kernel) lm_X12_425 mf_X12_roadTold mi_X12_roadTold mc_12 (m_X12_roadTold G l v0 ((1 : Int32)) v1 M) (fun _ h => sRc_some h) (by decide) rfl rfl (Nat.le_of_ble_eq_true rfl) (fun M5 => ?_)
    refine sX_goto (o := 122) (t := 218) (by decide +kernel) (by decide) ?_
    exact sX.le (xB218 v0 M5) (sLe_s (sLe_n sLe_e))
  refine sX_rc ?_
  refine sX_aload_n (i := 0) (by decide +kernel) rfl ?_
  refine sX_getI lf_X12_306 tk_12_2 (by decide +kernel) (fun x6 => ?_)
  refine sX_istore_n (i := 1) (ls2 := [some (.ref v0), some (.int x6)]) (by decide +kernel) (by decide) rfl ?_
  refine sX_aload_n (i := 0) (by decide +kernel) rfl ?_
  refine sX_getI lf_X12_416 tk_12_56 (by decide +kernel) (fun x7 => ?_)
  refine sX_bipush (n := 80) (v := (80 : Int32)) (by decide +kernel) (by decide) ?_
  refine sX_icne (o := 10) (t := 21) (by decide +kernel) (by decide) (fun _ => ?_) (fun _ => ?_)
  · refine sX_aload_n (i := 0) (by decide +kernel) rfl ?_
    refine sX_iconst (n := 5) (v := (5 : Int32)) (by decide +kernel) (by decide) ?_
    refine sX_iload_n (i := 1) (by decide +kernel) rfl ?_
    refine sX_callVv (As := [.int (5 : Int32), .int x6]) (by decide +kernel) lm_X12_330 mf_X12_fail mi_X12_fail mc_12 (m_X12_fail G l v0 ((5 : Int32)) x6 M0) (fun _ h => sRc_some h) (by decide) rfl rfl (Nat.le_of_ble_eq_true rfl) (fun M8 => ?_)
    exact sX_some (fun h _ => sW_vret (by decide +kernel) rfl (hr _ h).1.symm (hr _ h).2.symm)
  · refine sX_aload_n (i := 0) (by decide +kernel) rfl ?_
    refine sX_aload_n (i := 0) (by decide +kernel) rfl ?_
    refine sX_getR lf_X12_24 tk_12_12 (by decide +kernel) (fun x9 => ?_)
    refine sX_callV (As := [.ref x9]) (by decide +kernel) lm_X12_327 mf_X12_takes mi_X12_takes mc_12 (m_X12_takes G l v0 x9 M0) (fun _ h => sRc_some h) (by decide) rfl rfl (Nat.le_of_ble_eq_true rfl) (fun x10 M11 _ => ?_)
    refine sX_ifeq (o := 11) (t := 40) (by decide +kernel) (by decide) (fun _ => ?_) (fun _ => ?_)
    · refine sX_aload_n (i := 0) (by decide +kernel) rfl ?_
      refine sX_aload_n (i := 0) (by decide +kernel) rfl ?_
      refine sX_getR lf_X12_30 tk_12_14 (by decide +kernel) (fun x12 => ?_)
      refine sX_callV (As := [.ref x12]) (by decide +kernel) lm_X12_327 mf_X12_takes mi_X12_takes mc_12 (m_X12_takes G l v0 x12 M11) (fun _ h => sRc_some h) (by decide) rfl rfl (Nat.le_of_ble_eq_true rfl) (fun x13 M14 _ => ?_)
      refine sX_ifeq (o := 11) (t := 59) (by decide +kernel) (by decide) (fun _ => ?_) (fun _ => ?_)
      · refine sX_aload_n (i := 0) (by decide +kernel) rfl ?_
        refine sX_aload_n (i := 0) (by decide +kernel) rfl ?_
        refine sX_getR lf_X12_33 tk_12_15 (by decide +kernel) (fun x15 => ?_)
        refine sX_callV (As := [.ref x15]) (by decide +kernel) lm_X12_327 mf_X12_takes mi_X12_takes mc_12 (m_X12_takes G l v0 x15 M14) (fun _ h => sRc_some h) (by decide) rfl rfl (Nat.le_of_ble_eq_true rfl) (fun x16 M17 _ => ?_)
        refine sX_ifeq (o := 12) (t := 79) (by decide +kernel) (by decide) (fun _ => ?_) (fun _ => ?_)
        · refine sX_aload_n (i := 0) (by decide +kernel) rfl ?_
          refine sX_aload_n (i := 0) (by decide +kernel) rfl ?_
          refine sX_getR lf_X12_42 tk_12_18 (by decide +kernel) (fun x18 => ?_)
          refine sX_callV (As := [.ref x18]) (by decide +kernel) lm_X12_327 mf_X12_takes mi_X12_takes mc_12 (m_X12_takes G l v0 x18 M17) (fun _ h => sRc_some h) (by decide) rfl rfl (Nat.le_of_ble_eq_true rfl) (fun x19 M20 _ => ?_)
          refine sX_ifeq (o := 12) (t := 99) (by decide +kernel) (by decide) (fun _ => ?_) (fun _ => ?_)
          · refine sX_aload_n (i := 0) (by decide +kernel) rfl ?_
            refine sX_aload_n (i := 0) (by decide +kernel) rfl ?_
            refine sX_getR lf_X12_48 tk_12_20 (by decide +kernel) (fun x21 => ?_)
            refine sX_callV (As := [.ref x21]) (by decide +kernel) lm_X12_327 mf_X12_takes mi_X12_takes mc_12 (m_X12_takes G l v0 x21 M20) (fun _ h => sRc_some h) (by decide) rfl rfl (Nat.le_of_ble_eq_true rfl) (fun x22 M23 _ => ?_)
            refine sX_ifeq (o := 11) (t := 118) (by decide +kernel) (by decide) (fun _ => ?_) (fun _ => ?_)
            · refine sX_aload_n (i := 0) (by decide +kernel) rfl ?_
              refine sX_aload_n (i := 0) (by decide +kernel) rfl ?_
              refine sX_getR lf_X12_60 tk_12_24 (by decide +kernel) (fun x24 => ?_)
              refine sX_callV (As := [.ref x24]) (by decide +kernel) lm_X12_327 mf_X12_takes mi_X12_takes mc_12 (m_X12_takes G l v0 x24 M23) (fun _ h => sRc_some h) (by decide) rfl rfl (Nat.le_of_ble_eq_true rfl) (fun x25 M26 _ => ?_)
              refine sX_ifeq (o := 11) (t := 137) (by decide +kernel) (by decide) (fun _ => ?_) (fun _ => ?_)
              · refine sX_aload_n (i := 0) (by decide +kernel) rfl ?_
                refine sX_aload_n (i := 0) (by decide +kernel) rfl ?_
                refine sX_getR lf_X12_63 tk_12_25 (by decide +kernel) (fun x27 => ?_)
                refine sX_callV (As := [.ref x27]) (by decide +kernel) lm_X12_327 mf_X12_takes mi_X12_takes mc_12 (m_X12_takes G l v0 x27 M26) (fun _ h => sRc_some h) (by decide) rfl rfl (Nat.le_of_ble_eq_true rfl) (fun x28 M29 _ => ?_)
                refine sX_ifeq (o := 12) (t := 157) (by decide +kernel) (by decide) (fun _ => ?_) (fun _ => ?_)
                · refine sX_aload_n (i := 0) (by decide +kernel) rfl ?_
                  refine sX_aload_n (i := 0) (by decide +kernel) rfl ?_
                  refine sX_getR lf_X12_66 tk_12_26 (by decide +kernel) (fun x30 => ?_)
                  refine sX_callV (As := [.ref x30]) (by decide +kernel) lm_X12_327 mf_X12_takes mi_X12_takes mc_12 (m_X12_takes G l v0 x30 M29) (fun _ h => sRc_some h) (by decide) rfl rfl (Nat.le_of_ble_eq_true rfl) (fun x31 M32 _ => ?_)
                  refine sX_ifeq (o := 12) (t := 177) (by decide +kernel) (by decide) (fun _ => ?_) (fun _ => ?_)
                  · refine sX_aload_n (i := 0) (by decide +kernel) rfl ?_
                    refine sX_aload_n (i := 0) (by decide +kernel) rfl ?_
                    refine sX_getR lf_X12_69 tk_12_27 (by decide +kernel) (fun x33 => ?_)
                    refine sX_callV (As := [.ref x33]) (by decide +kernel) lm_X12_327 mf_X12_takes mi_X12_takes mc_12 (m_X12_takes G l v0 x33 M32) (fun _ h => sRc_some h) (by decide) rfl rfl (Nat.le_of_ble_eq_true rfl) (fun x34 M35 _ => ?_)
                    refine sX_ifeq (o := 12) (t := 197) (by decide +kernel) (by decide) (fun _ => ?_) (fun _ => ?_)
                    · refine sX_aload_n (i := 0) (by decide +kernel) rfl ?_
                      refine sX_aload_n (i := 0) (by decide +kernel) rfl ?_
                      refine sX_getR lf_X12_72 tk_12_28 (by decide +kernel) (fun x36 => ?_)
                      refine sX_callVv (As := [.ref x36]) (by decide +kernel) lm_X12_373 mf_X12_asks mi_X12_asks mc_12 (m_X12_asks G l v0 x36 M35) (fun _ h => sRc_some h) (by decide) rfl rfl (Nat.le_of_ble_eq_true rfl) (fun M37 => ?_)
                      refine sX_aload_n (i := 0) (by decide +kernel) rfl ?_
                      refine sX_getR lf_X12_120 tk_12_45 (by decide +kernel) (fun x38 => ?_)
                      refine sX_iconst (n := 1) (v := (1 : Int32)) (by decide +kernel) (by decide) ?_
                      refine sX_aload_n (i := 0) (by decide +kernel) rfl ?_
                      refine sX_iconst (n := 0) (v := (0 : Int32)) (by decide +kernel) (by decide) ?_
                      refine sX_bipush (n := 100) (v := (100 : Int32)) (by decide +kernel) (by decide) ?_
                      refine sX_callV (As := [.int (0 : Int32), .int (100 : Int32)]) (by decide +kernel) lm_X12_377 mf_X12_number mi_X12_number mc_12 (m_X12_number G l v0 ((0 : Int32)) ((100 : Int32)) M37) (fun _ h => sRc_some h) (by decide) rfl rfl (Nat.le_of_ble_eq_true rfl) (fun x39 M40 _ => ?_)
                      refine sX_iastore (by decide +kernel) (by decide) (fun M41 => ?_)
                      exact sX.le (xB218 v0 M41) (sLe_s (sLe_n sLe_e))
                    · exact sX.le (xB188 v0 x6 M35) (sLe_s (sLe_s sLe_e))
                  · refine sX_aload_n (i := 0) (by decide +kernel) rfl ?_
                    refine sX_iconst (n := 1) (v := (1 : Int32)) (by decide +kernel) (by decide) ?_
                    refine sX_iload_n (i := 1) (by decide +kernel) rfl ?_
                    refine sX_callVv (As := [.int (1 : Int32), .int x6]) (by decide +kernel) lm_X12_435 mf_X12_codesTold mi_X12_codesTold mc_12 (m_X12_codesTold G l v0 ((1 : Int32)) x6 M32) (fun _ h => sRc_some h) (by decide) rfl rfl (Nat.le_of_ble_eq_true rfl) (fun M42 => ?_)
                    refine sX_goto (o := 44) (t := 218) (by decide +kernel) (by decide) ?_
                    exact sX.le (xB218 v0 M42) (sLe_s (sLe_n sLe_e))
                · refine sX_aload_n (i := 0) (by decide +kernel) rfl ?_
                  refine sX_iconst (n := 0) (v := (0 : Int32)) (by decide +kernel) (by decide) ?_
                  refine sX_iload_n (i := 1) (by decide +kernel) rfl ?_
                  refine sX_callVv (As := [.int (0 : Int32), .int x6]) (by decide +kernel) lm_X12_435 mf_X12_codesTold mi_X12_codesTold mc_12 (m_X12_codesTold G l v0 ((0 : Int32)) x6 M29) (fun _ h => sRc_some h) (by decide) rfl rfl (Nat.le_of_ble_eq_true rfl) (fun M43 => ?_)
                  refine sX_goto (o := 64) (t := 218) (by decide +kernel) (by decide) ?_
                  exact sX.le (xB218 v0 M43) (sLe_s (sLe_n sLe_e))
              · refine sX_aload_n (i := 0) (by decide +kernel) rfl ?_
                refine sX_iload_n (i := 1) (by decide +kernel) rfl ?_
                refine sX_callVv (As := [.int x6]) (by decide +kernel) lm_X12_432 mf_X12_carTold mi_X12_carTold mc_12 (m_X12_carTold G l v0 x6 M26) (fun _ h => sRc_some h) (by decide) rfl rfl (Nat.le_of_ble_eq_true rfl) (fun M44 => ?_)
                refine sX_goto (o := 84) (t := 218) (by decide +kernel) (by decide) ?_
                exact sX.le (xB218 v0 M44) (sLe_s (sLe_n sLe_e))
            · refine sX_aload_n (i := 0) (by decide +kernel) rfl ?_
              refine sX_iload_n (i := 1) (by decide +kernel) rfl ?_
              refine sX_callVv (As := [.int x6]) (by decide +kernel) lm_X12_429 mf_X12_eraTold mi_X12_eraTold mc_12 (m_X12_eraTold G l v0 x6 M23) (fun _ h => sRc_some h) (by decide) rfl rfl (Nat.le_of_ble_eq_true rfl) (fun M45 => ?_)
              refine sX_goto (o := 103) (t := 218) (by decide +kernel) (by decide) ?_
              exact sX.le (xB218 v0 M45) (sLe_s (sLe_n sLe_e))
          · exact sX.le (xB90 v0 x6 M20) (sLe_s (sLe_s sLe_e))
        · refine sX_aload_n (i := 0) (by decide +kernel) rfl ?_
          refine sX_iconst (n := 0) (v := (0 : Int32)) (by decide +kernel) (by decide) ?_
          refine sX_iload_n (i := 1) (by decide +kernel) rfl ?_
          refine sX_callVv (As := [.int (0 : Int32), .int x6]) (by decide +kernel) lm_X12_425 mf_X12_roadTold mi_X12_roadTold mc_12 (m_X12_roadTold G l v0 ((0 : Int32)) x6 M17) (fun _ h => sRc_some h) (by decide) rfl rfl (Nat.le_of_ble_eq_true rfl) (fun M46 => ?_)
          refine sX_goto (o := 142) (t := 218) (by decide +kernel) (by decide) ?_
          exact sX.le (xB218 v0 M46) (sLe_s (sLe_n sLe_e))
      · refine sX_aload_n (i := 0) (by decide +kernel) rfl ?_
        refine sX_iload_n (i := 1) (by decide +kernel) rfl ?_
        refine sX_callVv (As := [.int x6]) (by decide +kernel) lm_X12_422 mf_X12_placeTold mi_X12_placeTold mc_12 (m_X12_placeTold G l v0 x6 M14) (fun _ h => sRc_some h) (by decide) rfl rfl (Nat.le_of_ble_eq_true rfl) (fun M47 => ?_)
        refine sX_goto (o := 162) (t := 218) (by decide +kernel) (by decide) ?_
        exact sX.le (xB218 v0 M47) (sLe_s (sLe_n sLe_e))
    · refine sX_aload_n (i := 0) (by decide +kernel) rfl ?_
      refine sX_iload_n (i := 1) (by decide +kernel) rfl ?_
      refine sX_callVv (As := [.int x6]) (by decide +kernel) lm_X12_419 mf_X12_gateTold mi_X12_gateTold mc_12 (m_X12_gateTold G l v0 x6 M11) (fun _ h => sRc_some h) (by decide) rfl rfl (Nat.le_of_ble_eq_true rfl) (fun M48 => ?_)
      refine sX_goto (o := 181) (t := 218) (by decide +kernel) (by decide) ?_
      exact sX.le (xB218 v0 M48) (sLe_s (sLe_n sLe_e))
def f_X12_stands_B343 (v0 : Nat) (M : sMem) : Option sMem :=
  (pI 12 127 85 M v0 ((0 : Int32))).bind fun M1 =>
  (pI 12 127 80 M1 v0 ((0 : Int32))).bind fun M2 =>
  some M2
def f_X12_stands_K287 (v0 : Nat) (v1 : Int32) (M : sMem) : Option ((Int32 × sMem) ⊕ ((sMem))) :=
  (gR 12 127 46 M v0).bind fun x3 =>
  (ldI 14 M x3 ((3 : Int32))).bind fun x4 =>
  if x4 ≤ v1 then
    some (.inr M)
  else
    (gR 12 127 59 M v0).bind fun x5 =>
    (gR 12 127 51 M v0).bind fun x6 =>
    (ldI 14 M x6 (((3 : Int32) * v1))).bind fun x7 =>
    (stI M x5 (((12 : Int32) + ((3 : Int32) * v1))) x7).bind fun M8 =>
    (gR 12 127 59 M8 v0).bind fun x9 =>
    (gR 12 127 51 M8 v0).bind fun x10 =>
    (ldI 14 M8 x10 ((((3 : Int32) * v1) + (1 : Int32)))).bind fun x11 =>
    (stI M8 x9 (((13 : Int32) + ((3 : Int32) * v1))) x11).bind fun M12 =>
    some (.inl ((((v1 + (1 : Int32))), M12)))
def f_X12_stands_L287 (v0 : Nat) (v1 : Int32) (M : sMem) : Option sMem :=
  (sItr (fun a : (Int32 × sMem) => f_X12_stands_K287 v0 a.1 a.2) sFuel (v1, M)).bind (fun b => f_X12_stands_B343 v0 b)
def f_X12_stands_B285 (v0 : Nat) (M : sMem) : Option sMem :=
  f_X12_stands_L287 v0 ((0 : Int32)) M
def f_X12_stands_K265 (v0 : Nat) (v1 : Int32) (M : sMem) : Option ((Int32 × sMem) ⊕ ((sMem))) :=
  if (148 : Int32) ≤ v1 then
    some (.inr M)
  else
    (gR 12 127 59 M v0).bind fun x13 =>
    (stI M x13 v1 ((0 : Int32))).bind fun M14 =>
    some (.inl ((((v1 + (1 : Int32))), M14)))
def f_X12_stands_L265 (v0 : Nat) (v1 : Int32) (M : sMem) : Option sMem :=
  (sItr (fun a : (Int32 × sMem) => f_X12_stands_K265 v0 a.1 a.2) sFuel (v1, M)).bind (fun b => f_X12_stands_B285 v0 b)
def f_X12_stands_B263 (v0 : Nat) (M : sMem) : Option sMem :=
  f_X12_stands_L265 v0 ((0 : Int32)) M
def f_X12_stands_K233 (v0 : Nat) (v1 : Int32) (M : sMem) : Option ((Int32 × sMem) ⊕ ((sMem))) :=
  (gI 12 127 55 M v0).bind fun x15 =>
  if x15 ≤ v1 then
    some (.inr M)
  else
    (gR 12 127 54 M v0).bind fun x16 =>
    (gR 12 127 54 M v0).bind fun x17 =>
    (ldI 14 M x17 v1).bind fun x18 =>
    (stI M x16 (((1600 : Int32) + v1)) x18).bind fun M19 =>
    some (.inl ((((v1 + (1 : Int32))), M19)))
def f_X12_stands_L233 (v0 : Nat) (v1 : Int32) (M : sMem) : Option sMem :=
  (sItr (fun a : (Int32 × sMem) => f_X12_stands_K233 v0 a.1 a.2) sFuel (v1, M)).bind (fun b => f_X12_stands_B263 v0 b)
def f_X12_stands_B231 (v0 : Nat) (M : sMem) : Option sMem :=
  f_X12_stands_L233 v0 ((0 : Int32)) M
def f_X12_stands_K189 (v0 : Nat) (v1 : Int32) (M : sMem) : Option ((Int32 × sMem) ⊕ ((sMem))) :=
  if (15 : Int32) ≤ v1 then
    some (.inr M)
  else
    (gR 12 127 50 M v0).bind fun x20 =>
    (gR 12 127 50 M v0).bind fun x21 =>
    (ldI 14 M x21 v1).bind fun x22 =>
    (stI M x20 (((15 : Int32) + v1)) x22).bind fun M23 =>
    (gR 12 127 51 M23 v0).bind fun x24 =>
    (gR 12 127 51 M23 v0).bind fun x25 =>
    (ldI 14 M23 x25 v1).bind fun x26 =>
    (stI M23 x24 (((15 : Int32) + v1)) x26).bind fun M27 =>
    some (.inl ((((v1 + (1 : Int32))), M27)))
def f_X12_stands_L189 (v0 : Nat) (v1 : Int32) (M : sMem) : Option sMem :=
  (sItr (fun a : (Int32 × sMem) => f_X12_stands_K189 v0 a.1 a.2) sFuel (v1, M)).bind (fun b => f_X12_stands_B231 v0 b)
def f_X12_stands_B187 (v0 : Nat) (M : sMem) : Option sMem :=
  f_X12_stands_L189 v0 ((0 : Int32)) M
def f_X12_stands_K160 (v0 : Nat) (v1 : Int32) (M : sMem) : Option ((Int32 × sMem) ⊕ ((sMem))) :=
  if (48 : Int32) ≤ v1 then
    some (.inr M)
  else
    (gR 12 127 49 M v0).bind fun x28 =>
    (gR 12 127 49 M v0).bind fun x29 =>
    (ldI 14 M x29 v1).bind fun x30 =>
    (stI M x28 (((48 : Int32) + v1)) x30).bind fun M31 =>
    some (.inl ((((v1 + (1 : Int32))), M31)))
def f_X12_stands_L160 (v0 : Nat) (v1 : Int32) (M : sMem) : Option sMem :=
  (sItr (fun a : (Int32 × sMem) => f_X12_stands_K160 v0 a.1 a.2) sFuel (v1, M)).bind (fun b => f_X12_stands_B187 v0 b)
def f_X12_stands_B158 (v0 : Nat) (M : sMem) : Option sMem :=
  f_X12_stands_L160 v0 ((0 : Int32)) M
def f_X12_stands_K131 (v0 : Nat) (v1 : Int32) (M : sMem) : Option ((Int32 × sMem) ⊕ ((sMem))) :=
  if (6 : Int32) ≤ v1 then
    some (.inr M)
  else
    (gR 12 127 48 M v0).bind fun x32 =>
    (gR 12 127 48 M v0).bind fun x33 =>
    (ldI 14 M x33 v1).bind fun x34 =>
    (stI M x32 (((6 : Int32) + v1)) x34).bind fun M35 =>
    some (.inl ((((v1 + (1 : Int32))), M35)))
def f_X12_stands_L131 (v0 : Nat) (v1 : Int32) (M : sMem) : Option sMem :=
  (sItr (fun a : (Int32 × sMem) => f_X12_stands_K131 v0 a.1 a.2) sFuel (v1, M)).bind (fun b => f_X12_stands_B158 v0 b)
def f_X12_stands_B129 (v0 : Nat) (M : sMem) : Option sMem :=
  f_X12_stands_L131 v0 ((0 : Int32)) M
def f_X12_stands_K102 (v0 : Nat) (v1 : Int32) (M : sMem) : Option ((Int32 × sMem) ⊕ ((sMem))) :=
  if (32 : Int32) ≤ v1 then
    some (.inr M)
  else
    (gR 12 127 47 M v0).bind fun x36 =>
    (gR 12 127 47 M v0).bind fun x37 =>
    (ldJ M x37 v1).bind fun x38 =>
    (stJ M x36 (((32 : Int32) + v1)) x38).bind fun M39 =>
    some (.inl ((((v1 + (1 : Int32))), M39)))
def f_X12_stands_L102 (v0 : Nat) (v1 : Int32) (M : sMem) : Option sMem :=
  (sItr (fun a : (Int32 × sMem) => f_X12_stands_K102 v0 a.1 a.2) sFuel (v1, M)).bind (fun b => f_X12_stands_B129 v0 b)
def f_X12_stands_B100 (v0 : Nat) (M : sMem) : Option sMem :=
  f_X12_stands_L102 v0 ((0 : Int32)) M
def f_X12_stands_K61 (v0 : Nat) (v1 : Int32) (M : sMem) : Option ((Int32 × sMem) ⊕ ((sMem))) :=
  if (3 : Int32) ≤ v1 then
    some (.inr M)
  else
    (gR 12 127 52 M v0).bind fun x40 =>
    (gR 12 127 52 M v0).bind fun x41 =>
    (ldI 14 M x41 v1).bind fun x42 =>
    (stI M x40 (((3 : Int32) + v1)) x42).bind fun M43 =>
    (gR 12 127 53 M43 v0).bind fun x44 =>
    (gR 12 127 53 M43 v0).bind fun x45 =>
    (ldI 14 M43 x45 v1).bind fun x46 =>
    (stI M43 x44 (((3 : Int32) + v1)) x46).bind fun M47 =>
    some (.inl ((((v1 + (1 : Int32))), M47)))
def f_X12_stands_L61 (v0 : Nat) (v1 : Int32) (M : sMem) : Option sMem :=
  (sItr (fun a : (Int32 × sMem) => f_X12_stands_K61 v0 a.1 a.2) sFuel (v1, M)).bind (fun b => f_X12_stands_B100 v0 b)
def f_X12_stands_B59 (v0 : Nat) (M : sMem) : Option sMem :=
  f_X12_stands_L61 v0 ((0 : Int32)) M
def f_X12_stands_K34 (v0 : Nat) (v1 : Int32) (M : sMem) : Option ((Int32 × sMem) ⊕ ((sMem))) :=
  if (5 : Int32) ≤ v1 then
    some (.inr M)
  else
    (gR 12 127 46 M v0).bind fun x48 =>
    (gR 12 127 46 M v0).bind fun x49 =>
    (ldI 14 M x49 v1).bind fun x50 =>
    (stI M x48 (((5 : Int32) + v1)) x50).bind fun M51 =>
    some (.inl ((((v1 + (1 : Int32))), M51)))
def f_X12_stands_L34 (v0 : Nat) (v1 : Int32) (M : sMem) : Option sMem :=
  (sItr (fun a : (Int32 × sMem) => f_X12_stands_K34 v0 a.1 a.2) sFuel (v1, M)).bind (fun b => f_X12_stands_B59 v0 b)
def f_X12_stands_B32 (v0 : Nat) (M : sMem) : Option sMem :=
  f_X12_stands_L34 v0 ((0 : Int32)) M
def f_X12_stands_K7 (v0 : Nat) (v1 : Int32) (M : sMem) : Option ((Int32 × sMem) ⊕ ((sMem))) :=
  if (2 : Int32) ≤ v1 then
    some (.inr M)
  else
    (gR 12 127 45 M v0).bind fun x52 =>
    (gR 12 127 45 M v0).bind fun x53 =>
    (ldI 14 M x53 v1).bind fun x54 =>
    (stI M x52 (((2 : Int32) + v1)) x54).bind fun M55 =>
    some (.inl ((((v1 + (1 : Int32))), M55)))
def f_X12_stands_L7 (v0 : Nat) (v1 : Int32) (M : sMem) : Option sMem :=
  (sItr (fun a : (Int32 × sMem) => f_X12_stands_K7 v0 a.1 a.2) sFuel (v1, M)).bind (fun b => f_X12_stands_B32 v0 b)
def f_X12_stands (v0 : Nat) (M0 : sMem) : Option sMem :=
  sRc 12 127 M0 v0 (
    (pZ 12 127 57 M0 v0 ((1 : Int32))).bind fun M56 =>
    f_X12_stands_L7 v0 ((0 : Int32)) M56)
set_option maxRecDepth 100000 in
set_option maxHeartbeats 4000000 in
theorem m_X12_stands (G : sG) (l : Launch) (v0 : Nat) (M0 : sMem) : sCv G l 1 yX12_stands cX12_stands 2 none [.ref v0] M0 (f_X12_stands v0 M0) := by
  refine sC_v (ls := [some (.ref v0), none]) (by decide +kernel) rfl (Nat.le_of_ble_eq_true rfl) (fun r M' K hr => ?_)
  unfold f_X12_stands
  have xB343 : ∀ (v0 : Nat) (M : sMem), sX G l 1 yX12_stands cX12_stands 2 none M0 r M' 343 [some (.ref v0), none] [] M (f_X12_stands_B343 v0 M) K := by
    intro v0 M
    unfold f_X12_stands_B343
    refine sX_aload_n (i := 0) (by decide +kernel) rfl ?_
    refine sX_iconst (n := 0) (v := (0 : Int32)) (by decide +kernel) (by decide) ?_
    refine sX_putI lf_X12_454 tp_12_85 (by decide +kernel) (by decide) (fun M1 => ?_)
    refine sX_aload_n (i := 0) (by decide +kernel) rfl ?_
    refine sX_iconst (n := 0) (v := (0 : Int32)) (by decide +kernel) (by decide) ?_
    refine sX_putI lf_X12_457 tp_12_80 (by decide +kernel) (by decide) (fun M2 => ?_)
    exact sX_some (fun h _ => sW_vret (by decide +kernel) rfl (hr _ h).1.symm (hr _ h).2.symm)
  have xL287 : ∀ (v0 : Nat) (v1 : Int32) (M : sMem), sX G l 1 yX12_stands cX12_stands 2 none M0 r M' 287 [some (.ref v0), some (.int v1)] [] M (f_X12_stands_L287 v0 v1 M) K := by
    intro v0 v1 M
    unfold f_X12_stands_L287
    refine sX_bind ?_
    refine sX_loop (LS := fun a : (Int32 × sMem) => [some (.ref v0), some (.int a.1)]) (MM := fun a => a.2) (fun K1 hb1 he1 => ?_) sFuel ((v1, M))
    have xK287 : ∀ (v1 : Int32) (M : sMem), sX G l 1 yX12_stands cX12_stands 2 none M0 r M' 287 [some (.ref v0), some (.int v1)] [] M (f_X12_stands_K287 v0 v1 M) K1 := by
      intro v1 M
      unfold f_X12_stands_K287
      refine sX_iload_n (i := 1) (by decide +kernel) rfl ?_
      refine sX_aload_n (i := 0) (by decide +kernel) rfl ?_
      refine sX_getR lf_X12_123 tk_12_46 (by decide +kernel) (fun x3 => ?_)
      refine sX_iconst (n := 3) (v := (3 : Int32)) (by decide +kernel) (by decide) ?_
      refine sX_iaload (by decide +kernel) (fun x4 => ?_)
      refine sX_icge (o := 49) (t := 343) (by decide +kernel) (by decide) (fun _ => ?_) (fun _ => ?_)
      · refine sX_exit he1 ?_
        exact sX.le (xB343 v0 M) (sLe_s (sLe_n sLe_e))
      · refine sX_aload_n (i := 0) (by decide +kernel) rfl ?_
        refine sX_getR lf_X12_151 tk_12_59 (by decide +kernel) (fun x5 => ?_)
        refine sX_bipush (n := 12) (v := (12 : Int32)) (by decide +kernel) (by decide) ?_
        refine sX_iconst (n := 3) (v := (3 : Int32)) (by decide +kernel) (by decide) ?_
        refine sX_iload_n (i := 1) (by decide +kernel) rfl ?_
        refine sX_imul (by decide +kernel) ?_
        refine sX_iadd (by decide +kernel) ?_
        refine sX_aload_n (i := 0) (by decide +kernel) rfl ?_
        refine sX_getR lf_X12_139 tk_12_51 (by decide +kernel) (fun x6 => ?_)
        refine sX_iconst (n := 3) (v := (3 : Int32)) (by decide +kernel) (by decide) ?_
        refine sX_iload_n (i := 1) (by decide +kernel) rfl ?_
        refine sX_imul (by decide +kernel) ?_
        refine sX_iaload (by decide +kernel) (fun x7 => ?_)
        refine sX_iastore (by decide +kernel) (by decide) (fun M8 => ?_)
        refine sX_aload_n (i := 0) (by decide +kernel) rfl ?_
        refine sX_getR lf_X12_151 tk_12_59 (by decide +kernel) (fun x9 => ?_)
        refine sX_bipush (n := 13) (v := (13 : Int32)) (by decide +kernel) (by decide) ?_
        refine sX_iconst (n := 3) (v := (3 : Int32)) (by decide +kernel) (by decide) ?_
        refine sX_iload_n (i := 1) (by decide +kernel) rfl ?_
        refine sX_imul (by decide +kernel) ?_
        refine sX_iadd (by decide +kernel) ?_
        refine sX_aload_n (i := 0) (by decide +kernel) rfl ?_
        refine sX_getR lf_X12_139 tk_12_51 (by decide +kernel) (fun x10 => ?_)
        refine sX_iconst (n := 3) (v := (3 : Int32)) (by decide +kernel) (by decide) ?_
        refine sX_iload_n (i := 1) (by decide +kernel) rfl ?_
        refine sX_imul (by decide +kernel) ?_
        refine sX_iconst (n := 1) (v := (1 : Int32)) (by decide +kernel) (by decide) ?_
        refine sX_iadd (by decide +kernel) ?_
        refine sX_iaload (by decide +kernel) (fun x11 => ?_)
        refine sX_iastore (by decide +kernel) (by decide) (fun M12 => ?_)
        refine sX_iinc (i := 1) (n := 1) (v := v1 + (1 : Int32)) (ls2 := [some (.ref v0), some (.int (v1 + (1 : Int32)))]) (by decide +kernel) rfl rfl (by decide) rfl ?_
        refine sX_goto (o := -53) (t := 287) (by decide +kernel) (by decide) ?_
        exact sX_back (a := (((v1 + (1 : Int32))), M12)) hb1 rfl (sLe_s (sLe_s sLe_e))
    exact fun a => xK287 a.1 a.2
  have xB285 : ∀ (v0 : Nat) (M : sMem), sX G l 1 yX12_stands cX12_stands 2 none M0 r M' 285 [some (.ref v0), none] [] M (f_X12_stands_B285 v0 M) K := by
    intro v0 M
    unfold f_X12_stands_B285
    refine sX_iconst (n := 0) (v := (0 : Int32)) (by decide +kernel) (by decide) ?_
    refine sX_istore_n (i := 1) (ls2 := [some (.ref v0), some (.int (0 : Int32))]) (by decide +kernel) (by decide) rfl ?_
    exact sX.le (xL287 v0 ((0 : Int32)) M) (sLe_s (sLe_s sLe_e))
  have xL265 : ∀ (v0 : Nat) (v1 : Int32) (M : sMem), sX G l 1 yX12_stands cX12_stands 2 none M0 r M' 265 [some (.ref v0), some (.int v1)] [] M (f_X12_stands_L265 v0 v1 M) K := by
    intro v0 v1 M
    unfold f_X12_stands_L265
    refine sX_bind ?_
    refine sX_loop (LS := fun a : (Int32 × sMem) => [some (.ref v0), some (.int a.1)]) (MM := fun a => a.2) (fun K1 hb1 he1 => ?_) sFuel ((v1, M))
    have xK265 : ∀ (v1 : Int32) (M : sMem), sX G l 1 yX12_stands cX12_stands 2 none M0 r M' 265 [some (.ref v0), some (.int v1)] [] M (f_X12_stands_K265 v0 v1 M) K1 := by
      intro v1 M
      unfold f_X12_stands_K265
      refine sX_iload_n (i := 1) (by decide +kernel) rfl ?_
      refine sX_sipush (n := 148) (v := (148 : Int32)) (by decide +kernel) (by decide) ?_
      refine sX_icge (o := 16) (t := 285) (by decide +kernel) (by decide) (fun _ => ?_) (fun _ => ?_)
      · refine sX_exit he1 ?_
        exact sX.le (xB285 v0 M) (sLe_s (sLe_n sLe_e))
      · refine sX_aload_n (i := 0) (by decide +kernel) rfl ?_
        refine sX_getR lf_X12_151 tk_12_59 (by decide +kernel) (fun x13 => ?_)
        refine sX_iload_n (i := 1) (by decide +kernel) rfl ?_
        refine sX_iconst (n := 0) (v := (0 : Int32)) (by decide +kernel) (by decide) ?_
        refine sX_iastore (by decide +kernel) (by decide) (fun M14 => ?_)
        refine sX_iinc (i := 1) (n := 1) (v := v1 + (1 : Int32)) (ls2 := [some (.ref v0), some (.int (v1 + (1 : Int32)))]) (by decide +kernel) rfl rfl (by decide) rfl ?_
        refine sX_goto (o := -17) (t := 265) (by decide +kernel) (by decide) ?_
        exact sX_back (a := (((v1 + (1 : Int32))), M14)) hb1 rfl (sLe_s (sLe_s sLe_e))
    exact fun a => xK265 a.1 a.2
  have xB263 : ∀ (v0 : Nat) (M : sMem), sX G l 1 yX12_stands cX12_stands 2 none M0 r M' 263 [some (.ref v0), none] [] M (f_X12_stands_B263 v0 M) K := by
    intro v0 M
    unfold f_X12_stands_B263
    refine sX_iconst (n := 0) (v := (0 : Int32)) (by decide +kernel) (by decide) ?_
    refine sX_istore_n (i := 1) (ls2 := [some (.ref v0), some (.int (0 : Int32))]) (by decide +kernel) (by decide) rfl ?_
    exact sX.le (xL265 v0 ((0 : Int32)) M) (sLe_s (sLe_s sLe_e))
  have xL233 : ∀ (v0 : Nat) (v1 : Int32) (M : sMem), sX G l 1 yX12_stands cX12_stands 2 none M0 r M' 233 [some (.ref v0), some (.int v1)] [] M (f_X12_stands_L233 v0 v1 M) K := by
    intro v0 v1 M
    unfold f_X12_stands_L233
    refine sX_bind ?_
    refine sX_loop (LS := fun a : (Int32 × sMem) => [some (.ref v0), some (.int a.1)]) (MM := fun a => a.2) (fun K1 hb1 he1 => ?_) sFuel ((v1, M))
    have xK233 : ∀ (v1 : Int32) (M : sMem), sX G l 1 yX12_stands cX12_stands 2 none M0 r M' 233 [some (.ref v0), some (.int v1)] [] M (f_X12_stands_K233 v0 v1 M) K1 := by
      intro v1 M
      unfold f_X12_stands_K233
      refine sX_iload_n (i := 1) (by decide +kernel) rfl ?_
      refine sX_aload_n (i := 0) (by decide +kernel) rfl ?_
      refine sX_getI lf_X12_413 tk_12_55 (by decide +kernel) (fun x15 => ?_)
      refine sX_icge (o := 25) (t := 263) (by decide +kernel) (by decide) (fun _ => ?_) (fun _ => ?_)
      · refine sX_exit he1 ?_
        exact sX.le (xB263 v0 M) (sLe_s (sLe_n sLe_e))
      · refine sX_aload_n (i := 0) (by decide +kernel) rfl ?_
        refine sX_getR lf_X12_148 tk_12_54 (by decide +kernel) (fun x16 => ?_)
        refine sX_sipush (n := 1600) (v := (1600 : Int32)) (by decide +kernel) (by decide) ?_
        refine sX_iload_n (i := 1) (by decide +kernel) rfl ?_
        refine sX_iadd (by decide +kernel) ?_
        refine sX_aload_n (i := 0) (by decide +kernel) rfl ?_
        refine sX_getR lf_X12_148 tk_12_54 (by decide +kernel) (fun x17 => ?_)
        refine sX_iload_n (i := 1) (by decide +kernel) rfl ?_
        refine sX_iaload (by decide +kernel) (fun x18 => ?_)
        refine sX_iastore (by decide +kernel) (by decide) (fun M19 => ?_)
        refine sX_iinc (i := 1) (n := 1) (v := v1 + (1 : Int32)) (ls2 := [some (.ref v0), some (.int (v1 + (1 : Int32)))]) (by decide +kernel) rfl rfl (by decide) rfl ?_
        refine sX_goto (o := -27) (t := 233) (by decide +kernel) (by decide) ?_
        exact sX_back (a := (((v1 + (1 : Int32))), M19)) hb1 rfl (sLe_s (sLe_s sLe_e))
    exact fun a => xK233 a.1 a.2
  have xB231 : ∀ (v0 : Nat) (M : sMem), sX G l 1 yX12_stands cX12_stands 2 none M0 r M' 231 [some (.ref v0), none] [] M (f_X12_stands_B231 v0 M) K := by
    intro v0 M
    unfold f_X12_stands_B231
    refine sX_iconst (n := 0) (v := (0 : Int32)) (by decide +kernel) (by decide) ?_
    refine sX_istore_n (i := 1) (ls2 := [some (.ref v0), some (.int (0 : Int32))]) (by decide +kernel) (by decide) rfl ?_
    exact sX.le (xL233 v0 ((0 : Int32)) M) (sLe_s (sLe_s sLe_e))
  have xL189 : ∀ (v0 : Nat) (v1 : Int32) (M : sMem), sX G l 1 yX12_stands cX12_stands 2 none M0 r M' 189 [some (.ref v0), some (.int v1)] [] M (f_X12_stands_L189 v0 v1 M) K := by
    intro v0 v1 M
    unfold f_X12_stands_L189
    refine sX_bind ?_
    refine sX_loop (LS := fun a : (Int32 × sMem) => [some (.ref v0), some (.int a.1)]) (MM := fun a => a.2) (fun K1 hb1 he1 => ?_) sFuel ((v1, M))
    have xK189 : ∀ (v1 : Int32) (M : sMem), sX G l 1 yX12_stands cX12_stands 2 none M0 r M' 189 [some (.ref v0), some (.int v1)] [] M (f_X12_stands_K189 v0 v1 M) K1 := by
      intro v1 M
      unfold f_X12_stands_K189
      refine sX_iload_n (i := 1) (by decide +kernel) rfl ?_
      refine sX_bipush (n := 15) (v := (15 : Int32)) (by decide +kernel) (by decide) ?_
      refine sX_icge (o := 39) (t := 231) (by decide +kernel) (by decide) (fun _ => ?_) (fun _ => ?_)
      · refine sX_exit he1 ?_
        exact sX.le (xB231 v0 M) (sLe_s (sLe_n sLe_e))
      · refine sX_aload_n (i := 0) (by decide +kernel) rfl ?_
        refine sX_getR lf_X12_136 tk_12_50 (by decide +kernel) (fun x20 => ?_)
        refine sX_bipush (n := 15) (v := (15 : Int32)) (by decide +kernel) (by decide) ?_
        refine sX_iload_n (i := 1) (by decide +kernel) rfl ?_
        refine sX_iadd (by decide +kernel) ?_
        refine sX_aload_n (i := 0) (by decide +kernel) rfl ?_
        refine sX_getR lf_X12_136 tk_12_50 (by decide +kernel) (fun x21 => ?_)
        refine sX_iload_n (i := 1) (by decide +kernel) rfl ?_
        refine sX_iaload (by decide +kernel) (fun x22 => ?_)
        refine sX_iastore (by decide +kernel) (by decide) (fun M23 => ?_)
        refine sX_aload_n (i := 0) (by decide +kernel) rfl ?_
        refine sX_getR lf_X12_139 tk_12_51 (by decide +kernel) (fun x24 => ?_)
        refine sX_bipush (n := 15) (v := (15 : Int32)) (by decide +kernel) (by decide) ?_
        refine sX_iload_n (i := 1) (by decide +kernel) rfl ?_
        refine sX_iadd (by decide +kernel) ?_
        refine sX_aload_n (i := 0) (by decide +kernel) rfl ?_
        refine sX_getR lf_X12_139 tk_12_51 (by decide +kernel) (fun x25 => ?_)
        refine sX_iload_n (i := 1) (by decide +kernel) rfl ?_
        refine sX_iaload (by decide +kernel) (fun x26 => ?_)
        refine sX_iastore (by decide +kernel) (by decide) (fun M27 => ?_)
        refine sX_iinc (i := 1) (n := 1) (v := v1 + (1 : Int32)) (ls2 := [some (.ref v0), some (.int (v1 + (1 : Int32)))]) (by decide +kernel) rfl rfl (by decide) rfl ?_
        refine sX_goto (o := -39) (t := 189) (by decide +kernel) (by decide) ?_
        exact sX_back (a := (((v1 + (1 : Int32))), M27)) hb1 rfl (sLe_s (sLe_s sLe_e))
    exact fun a => xK189 a.1 a.2
  have xB187 : ∀ (v0 : Nat) (M : sMem), sX G l 1 yX12_stands cX12_stands 2 none M0 r M' 187 [some (.ref v0), none] [] M (f_X12_stands_B187 v0 M) K := by
    intro v0 M
    unfold f_X12_stands_B187
    refine sX_iconst (n := 0) (v := (0 : Int32)) (by decide +kernel) (by decide) ?_
    refine sX_istore_n (i := 1) (ls2 := [some (.ref v0), some (.int (0 : Int32))]) (by decide +kernel) (by decide) rfl ?_
    exact sX.le (xL189 v0 ((0 : Int32)) M) (sLe_s (sLe_s sLe_e))
  have xL160 : ∀ (v0 : Nat) (v1 : Int32) (M : sMem), sX G l 1 yX12_stands cX12_stands 2 none M0 r M' 160 [some (.ref v0), some (.int v1)] [] M (f_X12_stands_L160 v0 v1 M) K := by
    intro v0 v1 M
    unfold f_X12_stands_L160
    refine sX_bind ?_
    refine sX_loop (LS := fun a : (Int32 × sMem) => [some (.ref v0), some (.int a.1)]) (MM := fun a => a.2) (fun K1 hb1 he1 => ?_) sFuel ((v1, M))
    have xK160 : ∀ (v1 : Int32) (M : sMem), sX G l 1 yX12_stands cX12_stands 2 none M0 r M' 160 [some (.ref v0), some (.int v1)] [] M (f_X12_stands_K160 v0 v1 M) K1 := by
      intro v1 M
      unfold f_X12_stands_K160
      refine sX_iload_n (i := 1) (by decide +kernel) rfl ?_
      refine sX_bipush (n := 48) (v := (48 : Int32)) (by decide +kernel) (by decide) ?_
      refine sX_icge (o := 24) (t := 187) (by decide +kernel) (by decide) (fun _ => ?_) (fun _ => ?_)
      · refine sX_exit he1 ?_
        exact sX.le (xB187 v0 M) (sLe_s (sLe_n sLe_e))
      · refine sX_aload_n (i := 0) (by decide +kernel) rfl ?_
        refine sX_getR lf_X12_133 tk_12_49 (by decide +kernel) (fun x28 => ?_)
        refine sX_bipush (n := 48) (v := (48 : Int32)) (by decide +kernel) (by decide) ?_
        refine sX_iload_n (i := 1) (by decide +kernel) rfl ?_
        refine sX_iadd (by decide +kernel) ?_
        refine sX_aload_n (i := 0) (by decide +kernel) rfl ?_
        refine sX_getR lf_X12_133 tk_12_49 (by decide +kernel) (fun x29 => ?_)
        refine sX_iload_n (i := 1) (by decide +kernel) rfl ?_
        refine sX_iaload (by decide +kernel) (fun x30 => ?_)
        refine sX_iastore (by decide +kernel) (by decide) (fun M31 => ?_)
        refine sX_iinc (i := 1) (n := 1) (v := v1 + (1 : Int32)) (ls2 := [some (.ref v0), some (.int (v1 + (1 : Int32)))]) (by decide +kernel) rfl rfl (by decide) rfl ?_
        refine sX_goto (o := -24) (t := 160) (by decide +kernel) (by decide) ?_
        exact sX_back (a := (((v1 + (1 : Int32))), M31)) hb1 rfl (sLe_s (sLe_s sLe_e))
    exact fun a => xK160 a.1 a.2
  have xB158 : ∀ (v0 : Nat) (M : sMem), sX G l 1 yX12_stands cX12_stands 2 none M0 r M' 158 [some (.ref v0), none] [] M (f_X12_stands_B158 v0 M) K := by
    intro v0 M
    unfold f_X12_stands_B158
    refine sX_iconst (n := 0) (v := (0 : Int32)) (by decide +kernel) (by decide) ?_
    refine sX_istore_n (i := 1) (ls2 := [some (.ref v0), some (.int (0 : Int32))]) (by decide +kernel) (by decide) rfl ?_
    exact sX.le (xL160 v0 ((0 : Int32)) M) (sLe_s (sLe_s sLe_e))
  have xL131 : ∀ (v0 : Nat) (v1 : Int32) (M : sMem), sX G l 1 yX12_stands cX12_stands 2 none M0 r M' 131 [some (.ref v0), some (.int v1)] [] M (f_X12_stands_L131 v0 v1 M) K := by
    intro v0 v1 M
    unfold f_X12_stands_L131
    refine sX_bind ?_
    refine sX_loop (LS := fun a : (Int32 × sMem) => [some (.ref v0), some (.int a.1)]) (MM := fun a => a.2) (fun K1 hb1 he1 => ?_) sFuel ((v1, M))
    have xK131 : ∀ (v1 : Int32) (M : sMem), sX G l 1 yX12_stands cX12_stands 2 none M0 r M' 131 [some (.ref v0), some (.int v1)] [] M (f_X12_stands_K131 v0 v1 M) K1 := by
      intro v1 M
      unfold f_X12_stands_K131
      refine sX_iload_n (i := 1) (by decide +kernel) rfl ?_
      refine sX_bipush (n := 6) (v := (6 : Int32)) (by decide +kernel) (by decide) ?_
      refine sX_icge (o := 24) (t := 158) (by decide +kernel) (by decide) (fun _ => ?_) (fun _ => ?_)
      · refine sX_exit he1 ?_
        exact sX.le (xB158 v0 M) (sLe_s (sLe_n sLe_e))
      · refine sX_aload_n (i := 0) (by decide +kernel) rfl ?_
        refine sX_getR lf_X12_130 tk_12_48 (by decide +kernel) (fun x32 => ?_)
        refine sX_bipush (n := 6) (v := (6 : Int32)) (by decide +kernel) (by decide) ?_
        refine sX_iload_n (i := 1) (by decide +kernel) rfl ?_
        refine sX_iadd (by decide +kernel) ?_
        refine sX_aload_n (i := 0) (by decide +kernel) rfl ?_
        refine sX_getR lf_X12_130 tk_12_48 (by decide +kernel) (fun x33 => ?_)
        refine sX_iload_n (i := 1) (by decide +kernel) rfl ?_
        refine sX_iaload (by decide +kernel) (fun x34 => ?_)
        refine sX_iastore (by decide +kernel) (by decide) (fun M35 => ?_)
        refine sX_iinc (i := 1) (n := 1) (v := v1 + (1 : Int32)) (ls2 := [some (.ref v0), some (.int (v1 + (1 : Int32)))]) (by decide +kernel) rfl rfl (by decide) rfl ?_
        refine sX_goto (o := -24) (t := 131) (by decide +kernel) (by decide) ?_
        exact sX_back (a := (((v1 + (1 : Int32))), M35)) hb1 rfl (sLe_s (sLe_s sLe_e))
    exact fun a => xK131 a.1 a.2
  have xB129 : ∀ (v0 : Nat) (M : sMem), sX G l 1 yX12_stands cX12_stands 2 none M0 r M' 129 [some (.ref v0), none] [] M (f_X12_stands_B129 v0 M) K := by
    intro v0 M
    unfold f_X12_stands_B129
    refine sX_iconst (n := 0) (v := (0 : Int32)) (by decide +kernel) (by decide) ?_
    refine sX_istore_n (i := 1) (ls2 := [some (.ref v0), some (.int (0 : Int32))]) (by decide +kernel) (by decide) rfl ?_
    exact sX.le (xL131 v0 ((0 : Int32)) M) (sLe_s (sLe_s sLe_e))
  have xL102 : ∀ (v0 : Nat) (v1 : Int32) (M : sMem), sX G l 1 yX12_stands cX12_stands 2 none M0 r M' 102 [some (.ref v0), some (.int v1)] [] M (f_X12_stands_L102 v0 v1 M) K := by
    intro v0 v1 M
    unfold f_X12_stands_L102
    refine sX_bind ?_
    refine sX_loop (LS := fun a : (Int32 × sMem) => [some (.ref v0), some (.int a.1)]) (MM := fun a => a.2) (fun K1 hb1 he1 => ?_) sFuel ((v1, M))
    have xK102 : ∀ (v1 : Int32) (M : sMem), sX G l 1 yX12_stands cX12_stands 2 none M0 r M' 102 [some (.ref v0), some (.int v1)] [] M (f_X12_stands_K102 v0 v1 M) K1 := by
      intro v1 M
      unfold f_X12_stands_K102
      refine sX_iload_n (i := 1) (by decide +kernel) rfl ?_
      refine sX_bipush (n := 32) (v := (32 : Int32)) (by decide +kernel) (by decide) ?_
      refine sX_icge (o := 24) (t := 129) (by decide +kernel) (by decide) (fun _ => ?_) (fun _ => ?_)
      · refine sX_exit he1 ?_
        exact sX.le (xB129 v0 M) (sLe_s (sLe_n sLe_e))
      · refine sX_aload_n (i := 0) (by decide +kernel) rfl ?_
        refine sX_getR lf_X12_126 tk_12_47 (by decide +kernel) (fun x36 => ?_)
        refine sX_bipush (n := 32) (v := (32 : Int32)) (by decide +kernel) (by decide) ?_
        refine sX_iload_n (i := 1) (by decide +kernel) rfl ?_
        refine sX_iadd (by decide +kernel) ?_
        refine sX_aload_n (i := 0) (by decide +kernel) rfl ?_
        refine sX_getR lf_X12_126 tk_12_47 (by decide +kernel) (fun x37 => ?_)
        refine sX_iload_n (i := 1) (by decide +kernel) rfl ?_
        refine sX_laload (by decide +kernel) (fun x38 => ?_)
        refine sX_lastore (by decide +kernel) (by decide) (fun M39 => ?_)
        refine sX_iinc (i := 1) (n := 1) (v := v1 + (1 : Int32)) (ls2 := [some (.ref v0), some (.int (v1 + (1 : Int32)))]) (by decide +kernel) rfl rfl (by decide) rfl ?_
        refine sX_goto (o := -24) (t := 102) (by decide +kernel) (by decide) ?_
        exact sX_back (a := (((v1 + (1 : Int32))), M39)) hb1 rfl (sLe_s (sLe_s sLe_e))
    exact fun a => xK102 a.1 a.2
  have xB100 : ∀ (v0 : Nat) (M : sMem), sX G l 1 yX12_stands cX12_stands 2 none M0 r M' 100 [some (.ref v0), none] [] M (f_X12_stands_B100 v0 M) K := by
    intro v0 M
    unfold f_X12_stands_B100
    refine sX_iconst (n := 0) (v := (0 : Int32)) (by decide +kernel) (by decide) ?_
    refine sX_istore_n (i := 1) (ls2 := [some (.ref v0), some (.int (0 : Int32))]) (by decide +kernel) (by decide) rfl ?_
    exact sX.le (xL102 v0 ((0 : Int32)) M) (sLe_s (sLe_s sLe_e))
  have xL61 : ∀ (v0 : Nat) (v1 : Int32) (M : sMem), sX G l 1 yX12_stands cX12_stands 2 none M0 r M' 61 [some (.ref v0), some (.int v1)] [] M (f_X12_stands_L61 v0 v1 M) K := by
    intro v0 v1 M
    unfold f_X12_stands_L61
    refine sX_bind ?_
    refine sX_loop (LS := fun a : (Int32 × sMem) => [some (.ref v0), some (.int a.1)]) (MM := fun a => a.2) (fun K1 hb1 he1 => ?_) sFuel ((v1, M))
    have xK61 : ∀ (v1 : Int32) (M : sMem), sX G l 1 yX12_stands cX12_stands 2 none M0 r M' 61 [some (.ref v0), some (.int v1)] [] M (f_X12_stands_K61 v0 v1 M) K1 := by
      intro v1 M
      unfold f_X12_stands_K61
      refine sX_iload_n (i := 1) (by decide +kernel) rfl ?_
      refine sX_iconst (n := 3) (v := (3 : Int32)) (by decide +kernel) (by decide) ?_
      refine sX_icge (o := 37) (t := 100) (by decide +kernel) (by decide) (fun _ => ?_) (fun _ => ?_)
      · refine sX_exit he1 ?_
        exact sX.le (xB100 v0 M) (sLe_s (sLe_n sLe_e))
      · refine sX_aload_n (i := 0) (by decide +kernel) rfl ?_
        refine sX_getR lf_X12_142 tk_12_52 (by decide +kernel) (fun x40 => ?_)
        refine sX_iconst (n := 3) (v := (3 : Int32)) (by decide +kernel) (by decide) ?_
        refine sX_iload_n (i := 1) (by decide +kernel) rfl ?_
        refine sX_iadd (by decide +kernel) ?_
        refine sX_aload_n (i := 0) (by decide +kernel) rfl ?_
        refine sX_getR lf_X12_142 tk_12_52 (by decide +kernel) (fun x41 => ?_)
        refine sX_iload_n (i := 1) (by decide +kernel) rfl ?_
        refine sX_iaload (by decide +kernel) (fun x42 => ?_)
        refine sX_iastore (by decide +kernel) (by decide) (fun M43 => ?_)
        refine sX_aload_n (i := 0) (by decide +kernel) rfl ?_
        refine sX_getR lf_X12_145 tk_12_53 (by decide +kernel) (fun x44 => ?_)
        refine sX_iconst (n := 3) (v := (3 : Int32)) (by decide +kernel) (by decide) ?_
        refine sX_iload_n (i := 1) (by decide +kernel) rfl ?_
        refine sX_iadd (by decide +kernel) ?_
        refine sX_aload_n (i := 0) (by decide +kernel) rfl ?_
        refine sX_getR lf_X12_145 tk_12_53 (by decide +kernel) (fun x45 => ?_)
        refine sX_iload_n (i := 1) (by decide +kernel) rfl ?_
        refine sX_iaload (by decide +kernel) (fun x46 => ?_)
        refine sX_iastore (by decide +kernel) (by decide) (fun M47 => ?_)
        refine sX_iinc (i := 1) (n := 1) (v := v1 + (1 : Int32)) (ls2 := [some (.ref v0), some (.int (v1 + (1 : Int32)))]) (by decide +kernel) rfl rfl (by decide) rfl ?_
        refine sX_goto (o := -36) (t := 61) (by decide +kernel) (by decide) ?_
        exact sX_back (a := (((v1 + (1 : Int32))), M47)) hb1 rfl (sLe_s (sLe_s sLe_e))
    exact fun a => xK61 a.1 a.2
  have xB59 : ∀ (v0 : Nat) (M : sMem), sX G l 1 yX12_stands cX12_stands 2 none M0 r M' 59 [some (.ref v0), none] [] M (f_X12_stands_B59 v0 M) K := by
    intro v0 M
    unfold f_X12_stands_B59
    refine sX_iconst (n := 0) (v := (0 : Int32)) (by decide +kernel) (by decide) ?_
    refine sX_istore_n (i := 1) (ls2 := [some (.ref v0), some (.int (0 : Int32))]) (by decide +kernel) (by decide) rfl ?_
    exact sX.le (xL61 v0 ((0 : Int32)) M) (sLe_s (sLe_s sLe_e))
  have xL34 : ∀ (v0 : Nat) (v1 : Int32) (M : sMem), sX G l 1 yX12_stands cX12_stands 2 none M0 r M' 34 [some (.ref v0), some (.int v1)] [] M (f_X12_stands_L34 v0 v1 M) K := by
    intro v0 v1 M
    unfold f_X12_stands_L34
    refine sX_bind ?_
    refine sX_loop (LS := fun a : (Int32 × sMem) => [some (.ref v0), some (.int a.1)]) (MM := fun a => a.2) (fun K1 hb1 he1 => ?_) sFuel ((v1, M))
    have xK34 : ∀ (v1 : Int32) (M : sMem), sX G l 1 yX12_stands cX12_stands 2 none M0 r M' 34 [some (.ref v0), some (.int v1)] [] M (f_X12_stands_K34 v0 v1 M) K1 := by
      intro v1 M
      unfold f_X12_stands_K34
      refine sX_iload_n (i := 1) (by decide +kernel) rfl ?_
      refine sX_iconst (n := 5) (v := (5 : Int32)) (by decide +kernel) (by decide) ?_
      refine sX_icge (o := 23) (t := 59) (by decide +kernel) (by decide) (fun _ => ?_) (fun _ => ?_)
      · refine sX_exit he1 ?_
        exact sX.le (xB59 v0 M) (sLe_s (sLe_n sLe_e))
      · refine sX_aload_n (i := 0) (by decide +kernel) rfl ?_
        refine sX_getR lf_X12_123 tk_12_46 (by decide +kernel) (fun x48 => ?_)
        refine sX_iconst (n := 5) (v := (5 : Int32)) (by decide +kernel) (by decide) ?_
        refine sX_iload_n (i := 1) (by decide +kernel) rfl ?_
        refine sX_iadd (by decide +kernel) ?_
        refine sX_aload_n (i := 0) (by decide +kernel) rfl ?_
        refine sX_getR lf_X12_123 tk_12_46 (by decide +kernel) (fun x49 => ?_)
        refine sX_iload_n (i := 1) (by decide +kernel) rfl ?_
        refine sX_iaload (by decide +kernel) (fun x50 => ?_)
        refine sX_iastore (by decide +kernel) (by decide) (fun M51 => ?_)
        refine sX_iinc (i := 1) (n := 1) (v := v1 + (1 : Int32)) (ls2 := [some (.ref v0), some (.int (v1 + (1 : Int32)))]) (by decide +kernel) rfl rfl (by decide) rfl ?_
        refine sX_goto (o := -22) (t := 34) (by decide +kernel) (by decide) ?_
        exact sX_back (a := (((v1 + (1 : Int32))), M51)) hb1 rfl (sLe_s (sLe_s sLe_e))
    exact fun a => xK34 a.1 a.2
  have xB32 : ∀ (v0 : Nat) (M : sMem), sX G l 1 yX12_stands cX12_stands 2 none M0 r M' 32 [some (.ref v0), none] [] M (f_X12_stands_B32 v0 M) K := by
    intro v0 M
    unfold f_X12_stands_B32
    refine sX_iconst (n := 0) (v := (0 : Int32)) (by decide +kernel) (by decide) ?_
    refine sX_istore_n (i := 1) (ls2 := [some (.ref v0), some (.int (0 : Int32))]) (by decide +kernel) (by decide) rfl ?_
    exact sX.le (xL34 v0 ((0 : Int32)) M) (sLe_s (sLe_s sLe_e))
  have xL7 : ∀ (v0 : Nat) (v1 : Int32) (M : sMem), sX G l 1 yX12_stands cX12_stands 2 none M0 r M' 7 [some (.ref v0), some (.int v1)] [] M (f_X12_stands_L7 v0 v1 M) K := by
    intro v0 v1 M
    unfold f_X12_stands_L7
    refine sX_bind ?_
    refine sX_loop (LS := fun a : (Int32 × sMem) => [some (.ref v0), some (.int a.1)]) (MM := fun a => a.2) (fun K1 hb1 he1 => ?_) sFuel ((v1, M))
    have xK7 : ∀ (v1 : Int32) (M : sMem), sX G l 1 yX12_stands cX12_stands 2 none M0 r M' 7 [some (.ref v0), some (.int v1)] [] M (f_X12_stands_K7 v0 v1 M) K1 := by
      intro v1 M
      unfold f_X12_stands_K7
      refine sX_iload_n (i := 1) (by decide +kernel) rfl ?_
      refine sX_iconst (n := 2) (v := (2 : Int32)) (by decide +kernel) (by decide) ?_
      refine sX_icge (o := 23) (t := 32) (by decide +kernel) (by decide) (fun _ => ?_) (fun _ => ?_)
      · refine sX_exit he1 ?_
        exact sX.le (xB32 v0 M) (sLe_s (sLe_n sLe_e))
      · refine sX_aload_n (i := 0) (by decide +kernel) rfl ?_
        refine sX_getR lf_X12_120 tk_12_45 (by decide +kernel) (fun x52 => ?_)
        refine sX_iconst (n := 2) (v := (2 : Int32)) (by decide +kernel) (by decide) ?_
        refine sX_iload_n (i := 1) (by decide +kernel) rfl ?_
        refine sX_iadd (by decide +kernel) ?_
        refine sX_aload_n (i := 0) (by decide +kernel) rfl ?_
        refine sX_getR lf_X12_120 tk_12_45 (by decide +kernel) (fun x53 => ?_)
        refine sX_iload_n (i := 1) (by decide +kernel) rfl ?_
        refine sX_iaload (by decide +kernel) (fun x54 => ?_)
        refine sX_iastore (by decide +kernel) (by decide) (fun M55 => ?_)
        refine sX_iinc (i := 1) (n := 1) (v := v1 + (1 : Int32)) (ls2 := [some (.ref v0), some (.int (v1 + (1 : Int32)))]) (by decide +kernel) rfl rfl (by decide) rfl ?_
        refine sX_goto (o := -22) (t := 7) (by decide +kernel) (by decide) ?_
        exact sX_back (a := (((v1 + (1 : Int32))), M55)) hb1 rfl (sLe_s (sLe_s sLe_e))
    exact fun a => xK7 a.1 a.2
  refine sX_rc ?_
  refine sX_aload_n (i := 0) (by decide +kernel) rfl ?_
  refine sX_iconst (n := 1) (v := (1 : Int32)) (by decide +kernel) (by decide) ?_
  refine sX_putZ lf_X12_450 tp_12_57 (by decide +kernel) (by decide) (fun M56 => ?_)
  refine sX_iconst (n := 0) (v := (0 : Int32)) (by decide +kernel) (by decide) ?_
  refine sX_istore_n (i := 1) (ls2 := [some (.ref v0), some (.int (0 : Int32))]) (by decide +kernel) (by decide) rfl ?_
  exact sX.le (xL7 v0 ((0 : Int32)) M56) (sLe_s (sLe_s sLe_e))
def f_X12_district_B116 (v0 : Nat) (M : sMem) : Option (Int32 × sMem) :=
  (gI 12 127 5 M v0).bind fun x1 =>
  (pI 12 127 7 M v0 x1).bind fun M2 =>
  (gI 12 127 6 M2 v0).bind fun x3 =>
  (pI 12 127 8 M2 v0 x3).bind fun M4 =>
  (gI 12 127 5 M4 v0).bind fun x5 =>
  if x5 = 0 then
    (f_X12_stands v0 M4).bind fun M6 =>
    (gI 12 127 56 M6 v0).bind fun x7 =>
    some ((x7, M6))
  else
    (gR 12 127 9 M4 v0).bind fun x8 =>
    (ldI 14 M4 x8 ((1 : Int32))).bind fun x9 =>
    (stI M4 x8 ((1 : Int32)) ((x9 + (1 : Int32)))).bind fun M10 =>
    some (((-1 : Int32), M10))
def f_X12_district_K94 (v0 : Nat) (M : sMem) : Option ((sMem) ⊕ ((sMem))) :=
  (gI 12 127 5 M v0).bind fun x11 =>
  if x11 = 0 then
    (f_X12_look v0 M).bind fun (x12, M13) =>
    if x12 = (-1 : Int32) then
      some (.inr M13)
    else
      (f_X12_statementTold v0 M13).bind fun M14 =>
      some (.inl M14)
  else
    some (.inr M)
def f_X12_district_L94 (v0 : Nat) (M : sMem) : Option (Int32 × sMem) :=
  (sItr (fun a : (sMem) => f_X12_district_K94 v0 a) sFuel M).bind (fun b => f_X12_district_B116 v0 b)
def f_X12_district_B85 (v0 : Nat) (M : sMem) : Option (Int32 × sMem) :=
  (f_X12_districtTold v0 M).bind fun M15 =>
  (pI 12 127 56 M15 v0 ((1 : Int32))).bind fun M16 =>
  f_X12_district_L94 v0 M16
def f_X12_district_K67 (v0 : Nat) (v1 : Int32) (M : sMem) : Option ((Int32 × sMem) ⊕ ((sMem))) :=
  if (3 : Int32) ≤ v1 then
    some (.inr M)
  else
    (gR 12 127 52 M v0).bind fun x17 =>
    (stI M x17 v1 ((-1 : Int32))).bind fun M18 =>
    some (.inl ((((v1 + (1 : Int32))), M18)))
def f_X12_district_L67 (v0 : Nat) (v1 : Int32) (M : sMem) : Option (Int32 × sMem) :=
  (sItr (fun a : (Int32 × sMem) => f_X12_district_K67 v0 a.1 a.2) sFuel (v1, M)).bind (fun b => f_X12_district_B85 v0 b)
def f_X12_district_B65 (v0 : Nat) (M : sMem) : Option (Int32 × sMem) :=
  f_X12_district_L67 v0 ((0 : Int32)) M
def f_X12_district_K47 (v0 : Nat) (v1 : Int32) (M : sMem) : Option ((Int32 × sMem) ⊕ ((sMem))) :=
  if (5 : Int32) ≤ v1 then
    some (.inr M)
  else
    (gR 12 127 46 M v0).bind fun x19 =>
    (stI M x19 v1 ((0 : Int32))).bind fun M20 =>
    some (.inl ((((v1 + (1 : Int32))), M20)))
def f_X12_district_L47 (v0 : Nat) (v1 : Int32) (M : sMem) : Option (Int32 × sMem) :=
  (sItr (fun a : (Int32 × sMem) => f_X12_district_K47 v0 a.1 a.2) sFuel (v1, M)).bind (fun b => f_X12_district_B65 v0 b)
def f_X12_district (v0 : Nat) (M0 : sMem) : Option (Int32 × sMem) :=
  sRc 12 127 M0 v0 (
    (gI 12 127 1 M0 v0).bind fun x21 =>
    (pI 12 127 3 M0 v0 x21).bind fun M22 =>
    (pI 12 127 1 M22 v0 ((0 : Int32))).bind fun M23 =>
    (pI 12 127 2 M23 v0 ((0 : Int32))).bind fun M24 =>
    (pI 12 127 4 M24 v0 ((-1 : Int32))).bind fun M25 =>
    (pI 12 127 5 M25 v0 ((0 : Int32))).bind fun M26 =>
    (pI 12 127 6 M26 v0 ((-1 : Int32))).bind fun M27 =>
    (pI 12 127 55 M27 v0 ((0 : Int32))).bind fun M28 =>
    (gR 12 127 45 M28 v0).bind fun x29 =>
    (stI M28 x29 ((1 : Int32)) ((0 : Int32))).bind fun M30 =>
    f_X12_district_L47 v0 ((0 : Int32)) M30)
set_option maxRecDepth 100000 in
set_option maxHeartbeats 4000000 in
theorem m_X12_district (G : sG) (l : Launch) (v0 : Nat) (M0 : sMem) : sC G l 12 yX12_district cX12_district 2 (some .int) [.ref v0] M0 rvI (f_X12_district v0 M0) := by
  refine sC_m (ls := [some (.ref v0), none]) (by decide +kernel) rfl (Nat.le_of_ble_eq_true rfl) (fun r M' K hr => ?_)
  unfold f_X12_district
  have xB116 : ∀ (v0 : Nat) (M : sMem), sX G l 12 yX12_district cX12_district 2 (some .int) M0 r M' 116 [some (.ref v0), none] [] M (f_X12_district_B116 v0 M) K := by
    intro v0 M
    unfold f_X12_district_B116
    refine sX_aload_n (i := 0) (by decide +kernel) rfl ?_
    refine sX_aload_n (i := 0) (by decide +kernel) rfl ?_
    refine sX_getI lf_X12_300 tk_12_5 (by decide +kernel) (fun x1 => ?_)
    refine sX_putI lf_X12_444 tp_12_7 (by decide +kernel) (by decide) (fun M2 => ?_)
    refine sX_aload_n (i := 0) (by decide +kernel) rfl ?_
    refine sX_aload_n (i := 0) (by decide +kernel) rfl ?_
    refine sX_getI lf_X12_303 tk_12_6 (by decide +kernel) (fun x3 => ?_)
    refine sX_putI lf_X12_13 tp_12_8 (by decide +kernel) (by decide) (fun M4 => ?_)
    refine sX_aload_n (i := 0) (by decide +kernel) rfl ?_
    refine sX_getI lf_X12_300 tk_12_5 (by decide +kernel) (fun x5 => ?_)
    refine sX_ifeq (o := 15) (t := 151) (by decide +kernel) (by decide) (fun _ => ?_) (fun _ => ?_)
    · refine sX_aload_n (i := 0) (by decide +kernel) rfl ?_
      refine sX_callVv (As := []) (by decide +kernel) lm_X12_447 mf_X12_stands mi_X12_stands mc_12 (m_X12_stands G l v0 M4) (fun _ h => sRc_some h) (by decide) rfl rfl (Nat.le_of_ble_eq_true rfl) (fun M6 => ?_)
      refine sX_aload_n (i := 0) (by decide +kernel) rfl ?_
      refine sX_getI lf_X12_416 tk_12_56 (by decide +kernel) (fun x7 => ?_)
      exact sX_some (fun h _ => sW_iret (by decide +kernel) rfl (hr _ h).1.symm (hr _ h).2.symm)
    · refine sX_aload_n (i := 0) (by decide +kernel) rfl ?_
      refine sX_getR lf_X12_17 tk_12_9 (by decide +kernel) (fun x8 => ?_)
      refine sX_iconst (n := 1) (v := (1 : Int32)) (by decide +kernel) (by decide) ?_
      refine sX_dup2 (by decide +kernel) rfl rfl ?_
      refine sX_iaload (by decide +kernel) (fun x9 => ?_)
      refine sX_iconst (n := 1) (v := (1 : Int32)) (by decide +kernel) (by decide) ?_
      refine sX_iadd (by decide +kernel) ?_
      refine sX_iastore (by decide +kernel) (by decide) (fun M10 => ?_)
      refine sX_iconst (n := -1) (v := (-1 : Int32)) (by decide +kernel) (by decide) ?_
      exact sX_some (fun h _ => sW_iret (by decide +kernel) rfl (hr _ h).1.symm (hr _ h).2.symm)
  have xL94 : ∀ (v0 : Nat) (M : sMem), sX G l 12 yX12_district cX12_district 2 (some .int) M0 r M' 94 [some (.ref v0), none] [] M (f_X12_district_L94 v0 M) K := by
    intro v0 M
    unfold f_X12_district_L94
    refine sX_bind ?_
    refine sX_loop (LS := fun a : (sMem) => [some (.ref v0), none]) (MM := fun a => a) (fun K1 hb1 he1 => ?_) sFuel M
    have xK94 : ∀  (M : sMem), sX G l 12 yX12_district cX12_district 2 (some .int) M0 r M' 94 [some (.ref v0), none] [] M (f_X12_district_K94 v0 M) K1 := by
      intro M
      unfold f_X12_district_K94
      refine sX_aload_n (i := 0) (by decide +kernel) rfl ?_
      refine sX_getI lf_X12_300 tk_12_5 (by decide +kernel) (fun x11 => ?_)
      refine sX_ifne (o := 18) (t := 116) (by decide +kernel) (by decide) (fun _ => ?_) (fun _ => ?_)
      · refine sX_aload_n (i := 0) (by decide +kernel) rfl ?_
        refine sX_callV (As := []) (by decide +kernel) lm_X12_312 mf_X12_look mi_X12_look mc_12 (m_X12_look G l v0 M) (fun _ h => sRc_some h) (by decide) rfl rfl (Nat.le_of_ble_eq_true rfl) (fun x12 M13 _ => ?_)
        refine sX_iconst (n := -1) (v := (-1 : Int32)) (by decide +kernel) (by decide) ?_
        refine sX_iceq (o := 10) (t := 116) (by decide +kernel) (by decide) (fun _ => ?_) (fun _ => ?_)
        · refine sX_exit he1 ?_
          exact sX.le (xB116 v0 M13) (sLe_s (sLe_n sLe_e))
        · refine sX_aload_n (i := 0) (by decide +kernel) rfl ?_
          refine sX_callVv (As := []) (by decide +kernel) lm_X12_441 mf_X12_statementTold mi_X12_statementTold mc_12 (m_X12_statementTold G l v0 M13) (fun _ h => sRc_some h) (by decide) rfl rfl (Nat.le_of_ble_eq_true rfl) (fun M14 => ?_)
          refine sX_goto (o := -19) (t := 94) (by decide +kernel) (by decide) ?_
          exact sX_back (a := M14) hb1 rfl (sLe_s (sLe_n sLe_e))
      · refine sX_exit he1 ?_
        exact sX.le (xB116 v0 M) (sLe_s (sLe_n sLe_e))
    exact fun a => xK94 a
  have xB85 : ∀ (v0 : Nat) (M : sMem), sX G l 12 yX12_district cX12_district 2 (some .int) M0 r M' 85 [some (.ref v0), none] [] M (f_X12_district_B85 v0 M) K := by
    intro v0 M
    unfold f_X12_district_B85
    refine sX_aload_n (i := 0) (by decide +kernel) rfl ?_
    refine sX_callVv (As := []) (by decide +kernel) lm_X12_438 mf_X12_districtTold mi_X12_districtTold mc_12 (m_X12_districtTold G l v0 M) (fun _ h => sRc_some h) (by decide) rfl rfl (Nat.le_of_ble_eq_true rfl) (fun M15 => ?_)
    refine sX_aload_n (i := 0) (by decide +kernel) rfl ?_
    refine sX_iconst (n := 1) (v := (1 : Int32)) (by decide +kernel) (by decide) ?_
    refine sX_putI lf_X12_416 tp_12_56 (by decide +kernel) (by decide) (fun M16 => ?_)
    exact sX.le (xL94 v0 M16) (sLe_s (sLe_n sLe_e))
  have xL67 : ∀ (v0 : Nat) (v1 : Int32) (M : sMem), sX G l 12 yX12_district cX12_district 2 (some .int) M0 r M' 67 [some (.ref v0), some (.int v1)] [] M (f_X12_district_L67 v0 v1 M) K := by
    intro v0 v1 M
    unfold f_X12_district_L67
    refine sX_bind ?_
    refine sX_loop (LS := fun a : (Int32 × sMem) => [some (.ref v0), some (.int a.1)]) (MM := fun a => a.2) (fun K1 hb1 he1 => ?_) sFuel ((v1, M))
    have xK67 : ∀ (v1 : Int32) (M : sMem), sX G l 12 yX12_district cX12_district 2 (some .int) M0 r M' 67 [some (.ref v0), some (.int v1)] [] M (f_X12_district_K67 v0 v1 M) K1 := by
      intro v1 M
      unfold f_X12_district_K67
      refine sX_iload_n (i := 1) (by decide +kernel) rfl ?_
      refine sX_iconst (n := 3) (v := (3 : Int32)) (by decide +kernel) (by decide) ?_
      refine sX_icge (o := 16) (t := 85) (by decide +kernel) (by decide) (fun _ => ?_) (fun _ => ?_)
      · refine sX_exit he1 ?_
        exact sX.le (xB85 v0 M) (sLe_s (sLe_n sLe_e))
      · refine sX_aload_n (i := 0) (by decide +kernel) rfl ?_
        refine sX_getR lf_X12_142 tk_12_52 (by decide +kernel) (fun x17 => ?_)
        refine sX_iload_n (i := 1) (by decide +kernel) rfl ?_
        refine sX_iconst (n := -1) (v := (-1 : Int32)) (by decide +kernel) (by decide) ?_
        refine sX_iastore (by decide +kernel) (by decide) (fun M18 => ?_)
        refine sX_iinc (i := 1) (n := 1) (v := v1 + (1 : Int32)) (ls2 := [some (.ref v0), some (.int (v1 + (1 : Int32)))]) (by decide +kernel) rfl rfl (by decide) rfl ?_
        refine sX_goto (o := -15) (t := 67) (by decide +kernel) (by decide) ?_
        exact sX_back (a := (((v1 + (1 : Int32))), M18)) hb1 rfl (sLe_s (sLe_s sLe_e))
    exact fun a => xK67 a.1 a.2
  have xB65 : ∀ (v0 : Nat) (M : sMem), sX G l 12 yX12_district cX12_district 2 (some .int) M0 r M' 65 [some (.ref v0), none] [] M (f_X12_district_B65 v0 M) K := by
    intro v0 M
    unfold f_X12_district_B65
    refine sX_iconst (n := 0) (v := (0 : Int32)) (by decide +kernel) (by decide) ?_
    refine sX_istore_n (i := 1) (ls2 := [some (.ref v0), some (.int (0 : Int32))]) (by decide +kernel) (by decide) rfl ?_
    exact sX.le (xL67 v0 ((0 : Int32)) M) (sLe_s (sLe_s sLe_e))
  have xL47 : ∀ (v0 : Nat) (v1 : Int32) (M : sMem), sX G l 12 yX12_district cX12_district 2 (some .int) M0 r M' 47 [some (.ref v0), some (.int v1)] [] M (f_X12_district_L47 v0 v1 M) K := by
    intro v0 v1 M
    unfold f_X12_district_L47
    refine sX_bind ?_
    refine sX_loop (LS := fun a : (Int32 × sMem) => [some (.ref v0), some (.int a.1)]) (MM := fun a => a.2) (fun K1 hb1 he1 => ?_) sFuel ((v1, M))
    have xK47 : ∀ (v1 : Int32) (M : sMem), sX G l 12 yX12_district cX12_district 2 (some .int) M0 r M' 47 [some (.ref v0), some (.int v1)] [] M (f_X12_district_K47 v0 v1 M) K1 := by
      intro v1 M
      unfold f_X12_district_K47
      refine sX_iload_n (i := 1) (by decide +kernel) rfl ?_
      refine sX_iconst (n := 5) (v := (5 : Int32)) (by decide +kernel) (by decide) ?_
      refine sX_icge (o := 16) (t := 65) (by decide +kernel) (by decide) (fun _ => ?_) (fun _ => ?_)
      · refine sX_exit he1 ?_
        exact sX.le (xB65 v0 M) (sLe_s (sLe_n sLe_e))
      · refine sX_aload_n (i := 0) (by decide +kernel) rfl ?_
        refine sX_getR lf_X12_123 tk_12_46 (by decide +kernel) (fun x19 => ?_)
        refine sX_iload_n (i := 1) (by decide +kernel) rfl ?_
        refine sX_iconst (n := 0) (v := (0 : Int32)) (by decide +kernel) (by decide) ?_
        refine sX_iastore (by decide +kernel) (by decide) (fun M20 => ?_)
        refine sX_iinc (i := 1) (n := 1) (v := v1 + (1 : Int32)) (ls2 := [some (.ref v0), some (.int (v1 + (1 : Int32)))]) (by decide +kernel) rfl rfl (by decide) rfl ?_
        refine sX_goto (o := -15) (t := 47) (by decide +kernel) (by decide) ?_
        exact sX_back (a := (((v1 + (1 : Int32))), M20)) hb1 rfl (sLe_s (sLe_s sLe_e))
    exact fun a => xK47 a.1 a.2
  refine sX_rc ?_
  refine sX_aload_n (i := 0) (by decide +kernel) rfl ?_
  refine sX_aload_n (i := 0) (by decide +kernel) rfl ?_
  refine sX_getI lf_X12_297 tk_12_1 (by decide +kernel) (fun x21 => ?_)
  refine sX_putI lf_X12_309 tp_12_3 (by decide +kernel) (by decide) (fun M22 => ?_)
  refine sX_aload_n (i := 0) (by decide +kernel) rfl ?_
  refine sX_iconst (n := 0) (v := (0 : Int32)) (by decide +kernel) (by decide) ?_
  refine sX_putI lf_X12_297 tp_12_1 (by decide +kernel) (by decide) (fun M23 => ?_)
  refine sX_aload_n (i := 0) (by decide +kernel) rfl ?_
  refine sX_iconst (n := 0) (v := (0 : Int32)) (by decide +kernel) (by decide) ?_
  refine sX_putI lf_X12_306 tp_12_2 (by decide +kernel) (by decide) (fun M24 => ?_)
  refine sX_aload_n (i := 0) (by decide +kernel) rfl ?_
  refine sX_iconst (n := -1) (v := (-1 : Int32)) (by decide +kernel) (by decide) ?_
  refine sX_putI lf_X12_320 tp_12_4 (by decide +kernel) (by decide) (fun M25 => ?_)
  refine sX_aload_n (i := 0) (by decide +kernel) rfl ?_
  refine sX_iconst (n := 0) (v := (0 : Int32)) (by decide +kernel) (by decide) ?_
  refine sX_putI lf_X12_300 tp_12_5 (by decide +kernel) (by decide) (fun M26 => ?_)
  refine sX_aload_n (i := 0) (by decide +kernel) rfl ?_
  refine sX_iconst (n := -1) (v := (-1 : Int32)) (by decide +kernel) (by decide) ?_
  refine sX_putI lf_X12_303 tp_12_6 (by decide +kernel) (by decide) (fun M27 => ?_)
  refine sX_aload_n (i := 0) (by decide +kernel) rfl ?_
  refine sX_iconst (n := 0) (v := (0 : Int32)) (by decide +kernel) (by decide) ?_
  refine sX_putI lf_X12_413 tp_12_55 (by decide +kernel) (by decide) (fun M28 => ?_)
  refine sX_aload_n (i := 0) (by decide +kernel) rfl ?_
  refine sX_getR lf_X12_120 tk_12_45 (by decide +kernel) (fun x29 => ?_)
  refine sX_iconst (n := 1) (v := (1 : Int32)) (by decide +kernel) (by decide) ?_
  refine sX_iconst (n := 0) (v := (0 : Int32)) (by decide +kernel) (by decide) ?_
  refine sX_iastore (by decide +kernel) (by decide) (fun M30 => ?_)
  refine sX_iconst (n := 0) (v := (0 : Int32)) (by decide +kernel) (by decide) ?_
  refine sX_istore_n (i := 1) (ls2 := [some (.ref v0), some (.int (0 : Int32))]) (by decide +kernel) (by decide) rfl ?_
  exact sX.le (xL47 v0 ((0 : Int32)) M30) (sLe_s (sLe_s sLe_e))
def f_X12_fault (v0 : Nat) (v1 : Int32) (M0 : sMem) : Option Int32 :=
  sRc 12 127 M0 v0 (
    if v1 = 0 then
      (gI 12 127 7 M0 v0).bind fun x1 =>
      some x1
    else
      if v1 = (1 : Int32) then
        (gI 12 127 8 M0 v0).bind fun x2 =>
        some x2
      else
        some ((-1 : Int32)))
set_option maxRecDepth 100000 in
set_option maxHeartbeats 4000000 in
theorem m_X12_fault (G : sG) (l : Launch) (v0 : Nat) (v1 : Int32) (M0 : sMem) : sCp G l 1 yX12_fault cX12_fault 2 (some .int) [.ref v0, .int v1] M0 rvI (f_X12_fault v0 v1 M0) := by
  refine sC_p (ls := [some (.ref v0), some (.int v1)]) (by decide +kernel) rfl (Nat.le_of_ble_eq_true rfl) (fun r M' K hr => ?_)
  unfold f_X12_fault
  refine sX_rc ?_
  refine sX_iload_n (i := 1) (by decide +kernel) rfl ?_
  refine sX_ifne (o := 10) (t := 11) (by decide +kernel) (by decide) (fun _ => ?_) (fun _ => ?_)
  · refine sX_aload_n (i := 0) (by decide +kernel) rfl ?_
    refine sX_getI lf_X12_444 tk_12_7 (by decide +kernel) (fun x1 => ?_)
    refine sX_goto (o := 16) (t := 24) (by decide +kernel) (by decide) ?_
    exact sX_some (fun h _ => sW_iret (by decide +kernel) rfl (hr _ h).1.symm (hr _ h).2.symm)
  · refine sX_iload_n (i := 1) (by decide +kernel) rfl ?_
    refine sX_iconst (n := 1) (v := (1 : Int32)) (by decide +kernel) (by decide) ?_
    refine sX_icne (o := 10) (t := 23) (by decide +kernel) (by decide) (fun _ => ?_) (fun _ => ?_)
    · refine sX_aload_n (i := 0) (by decide +kernel) rfl ?_
      refine sX_getI lf_X12_13 tk_12_8 (by decide +kernel) (fun x2 => ?_)
      refine sX_goto (o := 4) (t := 24) (by decide +kernel) (by decide) ?_
      exact sX_some (fun h _ => sW_iret (by decide +kernel) rfl (hr _ h).1.symm (hr _ h).2.symm)
    · refine sX_iconst (n := -1) (v := (-1 : Int32)) (by decide +kernel) (by decide) ?_
      exact sX_some (fun h _ => sW_iret (by decide +kernel) rfl (hr _ h).1.symm (hr _ h).2.symm)
def f_X12_gateMany (v0 : Nat) (M0 : sMem) : Option Int32 :=
  sRc 12 127 M0 v0 (
    (gR 12 127 46 M0 v0).bind fun x1 =>
    (ldI 14 M0 x1 ((5 : Int32))).bind fun x2 =>
    some x2)
set_option maxRecDepth 100000 in
set_option maxHeartbeats 4000000 in
theorem m_X12_gateMany (G : sG) (l : Launch) (v0 : Nat) (M0 : sMem) : sCp G l 1 yX12_gateMany cX12_gateMany 1 (some .int) [.ref v0] M0 rvI (f_X12_gateMany v0 M0) := by
  refine sC_p (ls := [some (.ref v0)]) (by decide +kernel) rfl (Nat.le_of_ble_eq_true rfl) (fun r M' K hr => ?_)
  unfold f_X12_gateMany
  refine sX_rc ?_
  refine sX_aload_n (i := 0) (by decide +kernel) rfl ?_
  refine sX_getR lf_X12_123 tk_12_46 (by decide +kernel) (fun x1 => ?_)
  refine sX_iconst (n := 5) (v := (5 : Int32)) (by decide +kernel) (by decide) ?_
  refine sX_iaload (by decide +kernel) (fun x2 => ?_)
  exact sX_some (fun h _ => sW_iret (by decide +kernel) rfl (hr _ h).1.symm (hr _ h).2.symm)
