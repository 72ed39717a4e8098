def f_X12_isIn (v0 : Int64) (v2 : Int64) (v4 : Int64) (M0 : sMem) : Option Int32 :=
  if v0 < v2 then
    some ((0 : Int32))
  else
    if v4 < v0 then
      some ((0 : Int32))
    else
      some ((1 : Int32))
set_option maxRecDepth 100000 in
set_option maxHeartbeats 4000000 in
theorem m_X12_isIn (G : sG) (l : Launch) (v0 : Int64) (v2 : Int64) (v4 : Int64) (M0 : sMem) : sCp G l 1 yX12_isIn cX12_isIn 6 (some .boolean) [.long v0, .long v2, .long v4] M0 rvI (f_X12_isIn v0 v2 v4 M0) := by
  refine sC_p (ls := [some (.long v0), none, some (.long v2), none, some (.long v4), none]) (by decide +kernel) rfl (Nat.le_of_ble_eq_true rfl) (fun r M' K hr => ?_)
  unfold f_X12_isIn
  refine sX_lload_n (i := 0) (by decide +kernel) rfl ?_
  refine sX_lload_n (i := 2) (by decide +kernel) rfl ?_
  refine sX_lclt (o := 14) (t := 17) (by decide +kernel) (by decide +kernel) (by decide) (fun _ => ?_) (fun _ => ?_)
  · refine sX_iconst (n := 0) (v := (0 : Int32)) (by decide +kernel) (by decide) ?_
    exact sX_some (fun h _ => sW_zret (by decide +kernel) rfl (by decide) (hr _ h).1.symm (hr _ h).2.symm)
  · refine sX_lload_n (i := 0) (by decide +kernel) rfl ?_
    refine sX_lload (i := 4) (by decide +kernel) rfl ?_
    refine sX_lcgt (o := 7) (t := 17) (by decide +kernel) (by decide +kernel) (by decide) (fun _ => ?_) (fun _ => ?_)
    · refine sX_iconst (n := 0) (v := (0 : Int32)) (by decide +kernel) (by decide) ?_
      exact sX_some (fun h _ => sW_zret (by decide +kernel) rfl (by decide) (hr _ h).1.symm (hr _ h).2.symm)
    · refine sX_iconst (n := 1) (v := (1 : Int32)) (by decide +kernel) (by decide) ?_
      refine sX_goto (o := 4) (t := 18) (by decide +kernel) (by decide) ?_
      exact sX_some (fun h _ => sW_zret (by decide +kernel) rfl (by decide) (hr _ h).1.symm (hr _ h).2.symm)

def f_X12_isLetter (v0 : Int32) (M0 : sMem) : Option Int32 :=
  if v0 < (97 : Int32) then
    some ((0 : Int32))
  else
    if (122 : Int32) < v0 then
      some ((0 : Int32))
    else
      some ((1 : Int32))
set_option maxRecDepth 100000 in
set_option maxHeartbeats 4000000 in
theorem m_X12_isLetter (G : sG) (l : Launch) (v0 : Int32) (M0 : sMem) : sCp G l 1 yX12_isLetter cX12_isLetter 1 (some .boolean) [.int v0] M0 rvI (f_X12_isLetter v0 M0) := by
  refine sC_p (ls := [some (.int v0)]) (by decide +kernel) rfl (Nat.le_of_ble_eq_true rfl) (fun r M' K hr => ?_)
  unfold f_X12_isLetter
  refine sX_iload_n (i := 0) (by decide +kernel) rfl ?_
  refine sX_bipush (n := 97) (v := (97 : Int32)) (by decide +kernel) (by decide) ?_
  refine sX_iclt (o := 13) (t := 16) (by decide +kernel) (by decide) (fun _ => ?_) (fun _ => ?_)
  · refine sX_iconst (n := 0) (v := (0 : Int32)) (by decide +kernel) (by decide) ?_
    exact sX_some (fun h _ => sW_zret (by decide +kernel) rfl (by decide) (hr _ h).1.symm (hr _ h).2.symm)
  · refine sX_iload_n (i := 0) (by decide +kernel) rfl ?_
    refine sX_bipush (n := 122) (v := (122 : Int32)) (by decide +kernel) (by decide) ?_
    refine sX_icgt (o := 7) (t := 16) (by decide +kernel) (by decide) (fun _ => ?_) (fun _ => ?_)
    · refine sX_iconst (n := 0) (v := (0 : Int32)) (by decide +kernel) (by decide) ?_
      exact sX_some (fun h _ => sW_zret (by decide +kernel) rfl (by decide) (hr _ h).1.symm (hr _ h).2.symm)
    · refine sX_iconst (n := 1) (v := (1 : Int32)) (by decide +kernel) (by decide) ?_
      refine sX_goto (o := 4) (t := 17) (by decide +kernel) (by decide) ?_
      exact sX_some (fun h _ => sW_zret (by decide +kernel) rfl (by decide) (hr _ h).1.symm (hr _ h).2.symm)

def f_X12_look_B52 (v0 : Nat) (M : sMem) : Option (Int32 × sMem) :=
  (gI 12 127 2 M v0).bind fun x1 =>
  (gI 12 127 3 M v0).bind fun x2 =>
  if x2 ≤ x1 then
    some (((-1 : Int32), M))
  else
    (gR 12 127 0 M v0).bind fun x3 =>
    (gI 12 127 2 M v0).bind fun x4 =>
    (ldI 14 M x3 x4).bind fun x5 =>
    some ((x5, M))
def f_X12_look_B39 (v0 : Nat) (M : sMem) : Option ((sMem) ⊕ ((sMem))) :=
  (gI 12 127 2 M v0).bind fun x6 =>
  (pI 12 127 2 M v0 ((x6 + (1 : Int32)))).bind fun M7 =>
  some (.inl M7)
def f_X12_look_K0 (v0 : Nat) (M : sMem) : Option ((sMem) ⊕ ((sMem))) :=
  (gI 12 127 2 M v0).bind fun x8 =>
  (gI 12 127 3 M v0).bind fun x9 =>
  if x9 ≤ x8 then
    some (.inr M)
  else
    (gR 12 127 0 M v0).bind fun x10 =>
    (gI 12 127 2 M v0).bind fun x11 =>
    (ldI 14 M x10 x11).bind fun x12 =>
    if x12 = (10 : Int32) then
      f_X12_look_B39 v0 M
    else
      (gR 12 127 0 M v0).bind fun x13 =>
      (gI 12 127 2 M v0).bind fun x14 =>
      (ldI 14 M x13 x14).bind fun x15 =>
      if x15 = (32 : Int32) then
        f_X12_look_B39 v0 M
      else
        some (.inr M)
def f_X12_look_L0 (v0 : Nat) (M : sMem) : Option (Int32 × sMem) :=
  (sItr (fun a : (sMem) => f_X12_look_K0 v0 a) sFuel M).bind (fun b => f_X12_look_B52 v0 b)
def f_X12_look (v0 : Nat) (M0 : sMem) : Option (Int32 × sMem) :=
  sRc 12 127 M0 v0 (
    f_X12_look_L0 v0 M0)
set_option maxRecDepth 100000 in
set_option maxHeartbeats 4000000 in
theorem m_X12_look (G : sG) (l : Launch) (v0 : Nat) (M0 : sMem) : sC G l 1 yX12_look cX12_look 1 (some .int) [.ref v0] M0 rvI (f_X12_look v0 M0) := by
  refine sC_m (ls := [some (.ref v0)]) (by decide +kernel) rfl (Nat.le_of_ble_eq_true rfl) (fun r M' K hr => ?_)
  unfold f_X12_look
  have xB52 : ∀ (v0 : Nat) (M : sMem), sX G l 1 yX12_look cX12_look 1 (some .int) M0 r M' 52 [some (.ref v0)] [] M (f_X12_look_B52 v0 M) K := by
    intro v0 M
    unfold f_X12_look_B52
    refine sX_aload_n (i := 0) (by decide +kernel) rfl ?_
    refine sX_getI lf_X12_306 tk_12_2 (by decide +kernel) (fun x1 => ?_)
    refine sX_aload_n (i := 0) (by decide +kernel) rfl ?_
    refine sX_getI lf_X12_309 tk_12_3 (by decide +kernel) (fun x2 => ?_)
    refine sX_icge (o := 15) (t := 75) (by decide +kernel) (by decide) (fun _ => ?_) (fun _ => ?_)
    · refine sX_iconst (n := -1) (v := (-1 : Int32)) (by decide +kernel) (by decide) ?_
      exact sX_some (fun h _ => sW_iret (by decide +kernel) rfl (hr _ h).1.symm (hr _ h).2.symm)
    · refine sX_aload_n (i := 0) (by decide +kernel) rfl ?_
      refine sX_getR lf_X12_7 tk_12_0 (by decide +kernel) (fun x3 => ?_)
      refine sX_aload_n (i := 0) (by decide +kernel) rfl ?_
      refine sX_getI lf_X12_306 tk_12_2 (by decide +kernel) (fun x4 => ?_)
      refine sX_iaload (by decide +kernel) (fun x5 => ?_)
      refine sX_goto (o := 4) (t := 76) (by decide +kernel) (by decide) ?_
      exact sX_some (fun h _ => sW_iret (by decide +kernel) rfl (hr _ h).1.symm (hr _ h).2.symm)
  have xL0 : ∀ (v0 : Nat) (M : sMem), sX G l 1 yX12_look cX12_look 1 (some .int) M0 r M' 0 [some (.ref v0)] [] M (f_X12_look_L0 v0 M) K := by
    intro v0 M
    unfold f_X12_look_L0
    refine sX_bind ?_
    refine sX_loop (LS := fun a : (sMem) => [some (.ref v0)]) (MM := fun a => a) (fun K1 hb1 he1 => ?_) sFuel M
    have xB39 : ∀ (M : sMem), sX G l 1 yX12_look cX12_look 1 (some .int) M0 r M' 39 [some (.ref v0)] [] M (f_X12_look_B39 v0 M) K1 := by
      intro M
      unfold f_X12_look_B39
      refine sX_aload_n (i := 0) (by decide +kernel) rfl ?_
      refine sX_dup (by decide +kernel) rfl ?_
      refine sX_getI lf_X12_306 tk_12_2 (by decide +kernel) (fun x6 => ?_)
      refine sX_iconst (n := 1) (v := (1 : Int32)) (by decide +kernel) (by decide) ?_
      refine sX_iadd (by decide +kernel) ?_
      refine sX_putI lf_X12_306 tp_12_2 (by decide +kernel) (by decide) (fun M7 => ?_)
      refine sX_goto (o := -49) (t := 0) (by decide +kernel) (by decide) ?_
      exact sX_back (a := M7) hb1 rfl (sLe_s sLe_e)
    have xK0 : ∀  (M : sMem), sX G l 1 yX12_look cX12_look 1 (some .int) M0 r M' 0 [some (.ref v0)] [] M (f_X12_look_K0 v0 M) K1 := by
      intro M
      unfold f_X12_look_K0
      refine sX_aload_n (i := 0) (by decide +kernel) rfl ?_
      refine sX_getI lf_X12_306 tk_12_2 (by decide +kernel) (fun x8 => ?_)
      refine sX_aload_n (i := 0) (by decide +kernel) rfl ?_
      refine sX_getI lf_X12_309 tk_12_3 (by decide +kernel) (fun x9 => ?_)
      refine sX_icge (o := 44) (t := 52) (by decide +kernel) (by decide) (fun _ => ?_) (fun _ => ?_)
      · refine sX_exit he1 ?_
        exact sX.le (xB52 v0 M) (sLe_s sLe_e)
      · refine sX_aload_n (i := 0) (by decide +kernel) rfl ?_
        refine sX_getR lf_X12_7 tk_12_0 (by decide +kernel) (fun x10 => ?_)
        refine sX_aload_n (i := 0) (by decide +kernel) rfl ?_
        refine sX_getI lf_X12_306 tk_12_2 (by decide +kernel) (fun x11 => ?_)
        refine sX_iaload (by decide +kernel) (fun x12 => ?_)
        refine sX_bipush (n := 10) (v := (10 : Int32)) (by decide +kernel) (by decide) ?_
        refine sX_iceq (o := 17) (t := 39) (by decide +kernel) (by decide) (fun _ => ?_) (fun _ => ?_)
        · exact sX.le (xB39 M) (sLe_s sLe_e)
        · refine sX_aload_n (i := 0) (by decide +kernel) rfl ?_
          refine sX_getR lf_X12_7 tk_12_0 (by decide +kernel) (fun x13 => ?_)
          refine sX_aload_n (i := 0) (by decide +kernel) rfl ?_
          refine sX_getI lf_X12_306 tk_12_2 (by decide +kernel) (fun x14 => ?_)
          refine sX_iaload (by decide +kernel) (fun x15 => ?_)
          refine sX_bipush (n := 32) (v := (32 : Int32)) (by decide +kernel) (by decide) ?_
          refine sX_icne (o := 16) (t := 52) (by decide +kernel) (by decide) (fun _ => ?_) (fun _ => ?_)
          · exact sX.le (xB39 M) (sLe_s sLe_e)
          · refine sX_exit he1 ?_
            exact sX.le (xB52 v0 M) (sLe_s sLe_e)
    exact fun a => xK0 a
  refine sX_rc ?_
  exact sX.le (xL0 v0 M0) (sLe_s sLe_e)

def f_X12_isHere_K76 (v0 : Nat) (v1 : Nat) (v3 : Int32) (M : sMem) : Option ((Int32) ⊕ (((Int32 × sMem)))) :=
  (aL 13 M v1).bind fun x1 =>
  if x1 ≤ v3 then
    some (.inr (((1 : Int32), M)))
  else
    (gR 12 127 0 M v0).bind fun x2 =>
    (gI 12 127 2 M v0).bind fun x3 =>
    (ldI 14 M x2 ((x3 + v3))).bind fun x4 =>
    (ldI 13 M v1 v3).bind fun x5 =>
    if x4 = x5 then
      some (.inl (((v3 + (1 : Int32)))))
    else
      some (.inr (((0 : Int32), M)))
def f_X12_isHere_L76 (v0 : Nat) (v1 : Nat) (v3 : Int32) (M : sMem) : Option (Int32 × sMem) :=
  (sItr (fun a : (Int32) => f_X12_isHere_K76 v0 v1 a M) sFuel v3).bind (fun b => some b)
def f_X12_isHere_B61 (v0 : Nat) (v1 : Nat) (v2 : Int32) (M : sMem) : Option (Int32 × sMem) :=
  (gI 12 127 2 M v0).bind fun x6 =>
  (aL 13 M v1).bind fun x7 =>
  if (v2 - x6) = x7 then
    f_X12_isHere_L76 v0 v1 ((0 : Int32)) M
  else
    some (((0 : Int32), M))
def f_X12_isHere_K35 (v0 : Nat) (v1 : Nat) (v2 : Int32) (M : sMem) : Option ((Int32) ⊕ ((Int32))) :=
  (gI 12 127 3 M v0).bind fun x8 =>
  if x8 ≤ v2 then
    some (.inr v2)
  else
    (gR 12 127 0 M v0).bind fun x9 =>
    (ldI 14 M x9 v2).bind fun x10 =>
    (f_X12_isLetter x10 M).bind fun x11 =>
    if x11 = 0 then
      some (.inr v2)
    else
      some (.inl (((v2 + (1 : Int32)))))
def f_X12_isHere_L35 (v0 : Nat) (v1 : Nat) (v2 : Int32) (M : sMem) : Option (Int32 × sMem) :=
  (sItr (fun a : (Int32) => f_X12_isHere_K35 v0 v1 a M) sFuel v2).bind (fun b => f_X12_isHere_B61 v0 v1 b M)
def f_X12_isHere (v0 : Nat) (v1 : Nat) (M0 : sMem) : Option (Int32 × sMem) :=
  sRc 12 127 M0 v0 (
    (gI 12 127 5 M0 v0).bind fun x12 =>
    if x12 = 0 then
      (f_X12_look v0 M0).bind fun (x13, M14) =>
      (f_X12_isLetter x13 M14).bind fun x15 =>
      if x15 = 0 then
        some (((0 : Int32), M14))
      else
        (gI 12 127 2 M14 v0).bind fun x16 =>
        (gI 12 127 4 M14 v0).bind fun x17 =>
        if x16 = x17 then
          some (((0 : Int32), M14))
        else
          (gI 12 127 2 M14 v0).bind fun x18 =>
          f_X12_isHere_L35 v0 v1 x18 M14
    else
      some (((0 : Int32), M0)))
set_option maxRecDepth 100000 in
set_option maxHeartbeats 4000000 in
theorem m_X12_isHere (G : sG) (l : Launch) (v0 : Nat) (v1 : Nat) (M0 : sMem) : sC G l 2 yX12_isHere cX12_isHere 4 (some .boolean) [.ref v0, .ref v1] M0 rvI (f_X12_isHere v0 v1 M0) := by
  refine sC_m (ls := [some (.ref v0), some (.ref v1), none, none]) (by decide +kernel) rfl (Nat.le_of_ble_eq_true rfl) (fun r M' K hr => ?_)
  unfold f_X12_isHere
  have xL76 : ∀ (v0 : Nat) (v1 : Nat) (v3 : Int32) (M : sMem), sX G l 2 yX12_isHere cX12_isHere 4 (some .boolean) M0 r M' 76 [some (.ref v0), some (.ref v1), none, some (.int v3)] [] M (f_X12_isHere_L76 v0 v1 v3 M) K := by
    intro v0 v1 v3 M
    unfold f_X12_isHere_L76
    refine sX_bind ?_
    refine sX_loop (LS := fun a : (Int32) => [some (.ref v0), some (.ref v1), none, some (.int a)]) (MM := fun a => M) (fun K1 hb1 he1 => ?_) sFuel v3
    have xK76 : ∀ (v3 : Int32), sX G l 2 yX12_isHere cX12_isHere 4 (some .boolean) M0 r M' 76 [some (.ref v0), some (.ref v1), none, some (.int v3)] [] M (f_X12_isHere_K76 v0 v1 v3 M) K1 := by
      intro v3
      unfold f_X12_isHere_K76
      refine sX_iload_n (i := 3) (by decide +kernel) rfl ?_
      refine sX_aload_n (i := 1) (by decide +kernel) rfl ?_
      refine sX_alen (by decide) (by decide) (by decide +kernel) (fun x1 => ?_)
      refine sX_icge (o := 28) (t := 107) (by decide +kernel) (by decide) (fun _ => ?_) (fun _ => ?_)
      · refine sX_iconst (n := 1) (v := (1 : Int32)) (by decide +kernel) (by decide) ?_
        refine sX_exit he1 ?_
        exact sX_some (fun h _ => sW_zret (by decide +kernel) rfl (by decide) (hr _ h).1.symm (hr _ h).2.symm)
      · refine sX_aload_n (i := 0) (by decide +kernel) rfl ?_
        refine sX_getR lf_X12_7 tk_12_0 (by decide +kernel) (fun x2 => ?_)
        refine sX_aload_n (i := 0) (by decide +kernel) rfl ?_
        refine sX_getI lf_X12_306 tk_12_2 (by decide +kernel) (fun x3 => ?_)
        refine sX_iload_n (i := 3) (by decide +kernel) rfl ?_
        refine sX_iadd (by decide +kernel) ?_
        refine sX_iaload (by decide +kernel) (fun x4 => ?_)
        refine sX_aload_n (i := 1) (by decide +kernel) rfl ?_
        refine sX_iload_n (i := 3) (by decide +kernel) rfl ?_
        refine sX_caload (by decide +kernel) (fun x5 => ?_)
        refine sX_iceq (o := 5) (t := 101) (by decide +kernel) (by decide) (fun _ => ?_) (fun _ => ?_)
        · refine sX_iinc (i := 3) (n := 1) (v := v3 + (1 : Int32)) (ls2 := [some (.ref v0), some (.ref v1), none, some (.int (v3 + (1 : Int32)))]) (by decide +kernel) rfl rfl (by decide) rfl ?_
          refine sX_goto (o := -28) (t := 76) (by decide +kernel) (by decide) ?_
          exact sX_back (a := ((v3 + (1 : Int32)))) hb1 rfl (sLe_s (sLe_s (sLe_n (sLe_s sLe_e))))
        · refine sX_iconst (n := 0) (v := (0 : Int32)) (by decide +kernel) (by decide) ?_
          refine sX_exit he1 ?_
          exact sX_some (fun h _ => sW_zret (by decide +kernel) rfl (by decide) (hr _ h).1.symm (hr _ h).2.symm)
    exact fun a => xK76 a
  have xB61 : ∀ (v0 : Nat) (v1 : Nat) (v2 : Int32) (M : sMem), sX G l 2 yX12_isHere cX12_isHere 4 (some .boolean) M0 r M' 61 [some (.ref v0), some (.ref v1), some (.int v2), none] [] M (f_X12_isHere_B61 v0 v1 v2 M) K := by
    intro v0 v1 v2 M
    unfold f_X12_isHere_B61
    refine sX_iload_n (i := 2) (by decide +kernel) rfl ?_
    refine sX_aload_n (i := 0) (by decide +kernel) rfl ?_
    refine sX_getI lf_X12_306 tk_12_2 (by decide +kernel) (fun x6 => ?_)
    refine sX_isub (by decide +kernel) ?_
    refine sX_aload_n (i := 1) (by decide +kernel) rfl ?_
    refine sX_alen (by decide) (by decide) (by decide +kernel) (fun x7 => ?_)
    refine sX_iceq (o := 5) (t := 74) (by decide +kernel) (by decide) (fun _ => ?_) (fun _ => ?_)
    · refine sX_iconst (n := 0) (v := (0 : Int32)) (by decide +kernel) (by decide) ?_
      refine sX_istore_n (i := 3) (ls2 := [some (.ref v0), some (.ref v1), some (.int v2), some (.int (0 : Int32))]) (by decide +kernel) (by decide) rfl ?_
      exact sX.le (xL76 v0 v1 ((0 : Int32)) M) (sLe_s (sLe_s (sLe_n (sLe_s sLe_e))))
    · refine sX_iconst (n := 0) (v := (0 : Int32)) (by decide +kernel) (by decide) ?_
      exact sX_some (fun h _ => sW_zret (by decide +kernel) rfl (by decide) (hr _ h).1.symm (hr _ h).2.symm)
  have xL35 : ∀ (v0 : Nat) (v1 : Nat) (v2 : Int32) (M : sMem), sX G l 2 yX12_isHere cX12_isHere 4 (some .boolean) M0 r M' 35 [some (.ref v0), some (.ref v1), some (.int v2), none] [] M (f_X12_isHere_L35 v0 v1 v2 M) K := by
    intro v0 v1 v2 M
    unfold f_X12_isHere_L35
    refine sX_bind ?_
    refine sX_loop (LS := fun a : (Int32) => [some (.ref v0), some (.ref v1), some (.int a), none]) (MM := fun a => M) (fun K1 hb1 he1 => ?_) sFuel v2
    have xK35 : ∀ (v2 : Int32), sX G l 2 yX12_isHere cX12_isHere 4 (some .boolean) M0 r M' 35 [some (.ref v0), some (.ref v1), some (.int v2), none] [] M (f_X12_isHere_K35 v0 v1 v2 M) K1 := by
      intro v2
      unfold f_X12_isHere_K35
      refine sX_iload_n (i := 2) (by decide +kernel) rfl ?_
      refine sX_aload_n (i := 0) (by decide +kernel) rfl ?_
      refine sX_getI lf_X12_309 tk_12_3 (by decide +kernel) (fun x8 => ?_)
      refine sX_icge (o := 21) (t := 61) (by decide +kernel) (by decide) (fun _ => ?_) (fun _ => ?_)
      · refine sX_exit he1 ?_
        exact sX.le (xB61 v0 v1 v2 M) (sLe_s (sLe_s (sLe_s (sLe_n sLe_e))))
      · refine sX_aload_n (i := 0) (by decide +kernel) rfl ?_
        refine sX_getR lf_X12_7 tk_12_0 (by decide +kernel) (fun x9 => ?_)
        refine sX_iload_n (i := 2) (by decide +kernel) rfl ?_
        refine sX_iaload (by decide +kernel) (fun x10 => ?_)
        refine sX_callSp (As := [.int x10]) (by decide +kernel) lm_X12_316 mf_X12_isLetter ms_X12_isLetter (m_X12_isLetter G l x10 M) (by decide) rfl rfl (Nat.le_of_ble_eq_true rfl) (fun x11 => ?_)
        refine sX_ifeq (o := 9) (t := 61) (by decide +kernel) (by decide) (fun _ => ?_) (fun _ => ?_)
        · refine sX_exit he1 ?_
          exact sX.le (xB61 v0 v1 v2 M) (sLe_s (sLe_s (sLe_s (sLe_n sLe_e))))
        · refine sX_iinc (i := 2) (n := 1) (v := v2 + (1 : Int32)) (ls2 := [some (.ref v0), some (.ref v1), some (.int (v2 + (1 : Int32))), none]) (by decide +kernel) rfl rfl (by decide) rfl ?_
          refine sX_goto (o := -23) (t := 35) (by decide +kernel) (by decide) ?_
          exact sX_back (a := ((v2 + (1 : Int32)))) hb1 rfl (sLe_s (sLe_s (sLe_s (sLe_n sLe_e))))
    exact fun a => xK35 a
  refine sX_rc ?_
  refine sX_aload_n (i := 0) (by decide +kernel) rfl ?_
  refine sX_getI lf_X12_300 tk_12_5 (by decide +kernel) (fun x12 => ?_)
  refine sX_ifne (o := 24) (t := 28) (by decide +kernel) (by decide) (fun _ => ?_) (fun _ => ?_)
  · refine sX_aload_n (i := 0) (by decide +kernel) rfl ?_
    refine sX_callV (As := []) (by decide +kernel) lm_X12_312 mf_X12_look mi_X12_look mc_12 (m_X12_look G l v0 M0) (fun _ h => sRc_some h) (by decide) rfl rfl (Nat.le_of_ble_eq_true rfl) (fun x13 M14 _ => ?_)
    refine sX_callSp (As := [.int x13]) (by decide +kernel) lm_X12_316 mf_X12_isLetter ms_X12_isLetter (m_X12_isLetter G l x13 M14) (by decide) rfl rfl (Nat.le_of_ble_eq_true rfl) (fun x15 => ?_)
    refine sX_ifeq (o := 14) (t := 28) (by decide +kernel) (by decide) (fun _ => ?_) (fun _ => ?_)
    · refine sX_iconst (n := 0) (v := (0 : Int32)) (by decide +kernel) (by decide) ?_
      exact sX_some (fun h _ => sW_zret (by decide +kernel) rfl (by decide) (hr _ h).1.symm (hr _ h).2.symm)
    · refine sX_aload_n (i := 0) (by decide +kernel) rfl ?_
      refine sX_getI lf_X12_306 tk_12_2 (by decide +kernel) (fun x16 => ?_)
      refine sX_aload_n (i := 0) (by decide +kernel) rfl ?_
      refine sX_getI lf_X12_320 tk_12_4 (by decide +kernel) (fun x17 => ?_)
      refine sX_icne (o := 5) (t := 30) (by decide +kernel) (by decide) (fun _ => ?_) (fun _ => ?_)
      · refine sX_iconst (n := 0) (v := (0 : Int32)) (by decide +kernel) (by decide) ?_
        exact sX_some (fun h _ => sW_zret (by decide +kernel) rfl (by decide) (hr _ h).1.symm (hr _ h).2.symm)
      · refine sX_aload_n (i := 0) (by decide +kernel) rfl ?_
        refine sX_getI lf_X12_306 tk_12_2 (by decide +kernel) (fun x18 => ?_)
        refine sX_istore_n (i := 2) (ls2 := [some (.ref v0), some (.ref v1), some (.int x18), none]) (by decide +kernel) (by decide) rfl ?_
        exact sX.le (xL35 v0 v1 x18 M14) (sLe_s (sLe_s (sLe_s (sLe_n sLe_e))))
  · refine sX_iconst (n := 0) (v := (0 : Int32)) (by decide +kernel) (by decide) ?_
    exact sX_some (fun h _ => sW_zret (by decide +kernel) rfl (by decide) (hr _ h).1.symm (hr _ h).2.symm)

def f_X12_takes (v0 : Nat) (v1 : Nat) (M0 : sMem) : Option (Int32 × sMem) :=
  sRc 12 127 M0 v0 (
    (f_X12_isHere v0 v1 M0).bind fun (x1, M2) =>
    if x1 = 0 then
      some (((0 : Int32), M2))
    else
      (gI 12 127 2 M2 v0).bind fun x3 =>
      (aL 13 M2 v1).bind fun x4 =>
      (pI 12 127 2 M2 v0 ((x3 + x4))).bind fun M5 =>
      (gI 12 127 2 M5 v0).bind fun x6 =>
      (pI 12 127 4 M5 v0 x6).bind fun M7 =>
      some (((1 : Int32), M7)))
set_option maxRecDepth 100000 in
set_option maxHeartbeats 4000000 in
theorem m_X12_takes (G : sG) (l : Launch) (v0 : Nat) (v1 : Nat) (M0 : sMem) : sC G l 3 yX12_takes cX12_takes 2 (some .boolean) [.ref v0, .ref v1] M0 rvI (f_X12_takes v0 v1 M0) := by
  refine sC_m (ls := [some (.ref v0), some (.ref v1)]) (by decide +kernel) rfl (Nat.le_of_ble_eq_true rfl) (fun r M' K hr => ?_)
  unfold f_X12_takes
  refine sX_rc ?_
  refine sX_aload_n (i := 0) (by decide +kernel) rfl ?_
  refine sX_aload_n (i := 1) (by decide +kernel) rfl ?_
  refine sX_callV (As := [.ref v1]) (by decide +kernel) lm_X12_323 mf_X12_isHere mi_X12_isHere mc_12 (m_X12_isHere G l v0 v1 M0) (fun _ h => sRc_some h) (by decide) rfl rfl (Nat.le_of_ble_eq_true rfl) (fun x1 M2 _ => ?_)
  refine sX_ifne (o := 5) (t := 10) (by decide +kernel) (by decide) (fun _ => ?_) (fun _ => ?_)
  · refine sX_iconst (n := 0) (v := (0 : Int32)) (by decide +kernel) (by decide) ?_
    exact sX_some (fun h _ => sW_zret (by decide +kernel) rfl (by decide) (hr _ h).1.symm (hr _ h).2.symm)
  · refine sX_aload_n (i := 0) (by decide +kernel) rfl ?_
    refine sX_dup (by decide +kernel) rfl ?_
    refine sX_getI lf_X12_306 tk_12_2 (by decide +kernel) (fun x3 => ?_)
    refine sX_aload_n (i := 1) (by decide +kernel) rfl ?_
    refine sX_alen (by decide) (by decide) (by decide +kernel) (fun x4 => ?_)
    refine sX_iadd (by decide +kernel) ?_
    refine sX_putI lf_X12_306 tp_12_2 (by decide +kernel) (by decide) (fun M5 => ?_)
    refine sX_aload_n (i := 0) (by decide +kernel) rfl ?_
    refine sX_aload_n (i := 0) (by decide +kernel) rfl ?_
    refine sX_getI lf_X12_306 tk_12_2 (by decide +kernel) (fun x6 => ?_)
    refine sX_putI lf_X12_320 tp_12_4 (by decide +kernel) (by decide) (fun M7 => ?_)
    refine sX_iconst (n := 1) (v := (1 : Int32)) (by decide +kernel) (by decide) ?_
    exact sX_some (fun h _ => sW_zret (by decide +kernel) rfl (by decide) (hr _ h).1.symm (hr _ h).2.symm)

def f_X12_feed_B124 (v0 : Nat) (M : sMem) : Option (Int32 × sMem) :=
  (gI 12 127 1 M v0).bind fun x1 =>
  some ((x1, M))
def f_X12_feed_B81 (v0 : Nat) (v1 : Int32) (v2 : Int32) (v3 : Int32) (v4 : Int32) (v5 : Int32) (v6 : Int32) (s0 : Int32) (M : sMem) : Option ((Int32 × sMem) ⊕ ((sMem))) :=
  (gR 12 127 0 M v0).bind fun x2 =>
  (gI 12 127 1 M v0).bind fun x3 =>
  (stI M x2 x3 (((s0 >>> (((8 : Int32) * ((3 : Int32) - (v6 - v6 / (4 : Int32) * (4 : Int32)))) &&& 31)) &&& (255 : Int32)))).bind fun M4 =>
  (gI 12 127 1 M4 v0).bind fun x5 =>
  (pI 12 127 1 M4 v0 ((x5 + (1 : Int32)))).bind fun M6 =>
  some (.inl ((((v6 + (1 : Int32))), M6)))
def f_X12_feed_K28 (v0 : Nat) (v1 : Int32) (v2 : Int32) (v3 : Int32) (v4 : Int32) (v5 : Int32) (v6 : Int32) (M : sMem) : Option ((Int32 × sMem) ⊕ ((sMem))) :=
  if (20 : Int32) ≤ v6 then
    some (.inr M)
  else
    if (4 : Int32) ≤ v6 then
      if (8 : Int32) ≤ v6 then
        if (12 : Int32) ≤ v6 then
          if (16 : Int32) ≤ v6 then
            f_X12_feed_B81 v0 v1 v2 v3 v4 v5 v6 v5 M
          else
            f_X12_feed_B81 v0 v1 v2 v3 v4 v5 v6 v4 M
        else
          f_X12_feed_B81 v0 v1 v2 v3 v4 v5 v6 v3 M
      else
        f_X12_feed_B81 v0 v1 v2 v3 v4 v5 v6 v2 M
    else
      f_X12_feed_B81 v0 v1 v2 v3 v4 v5 v6 v1 M
def f_X12_feed_L28 (v0 : Nat) (v1 : Int32) (v2 : Int32) (v3 : Int32) (v4 : Int32) (v5 : Int32) (v6 : Int32) (M : sMem) : Option (Int32 × sMem) :=
  (sItr (fun a : (Int32 × sMem) => f_X12_feed_K28 v0 v1 v2 v3 v4 v5 a.1 a.2) sFuel (v6, M)).bind (fun b => f_X12_feed_B124 v0 b)
def f_X12_feed (v0 : Nat) (v1 : Int32) (v2 : Int32) (v3 : Int32) (v4 : Int32) (v5 : Int32) (M0 : sMem) : Option (Int32 × sMem) :=
  sRc 12 127 M0 v0 (
    (gI 12 127 1 M0 v0).bind fun x7 =>
    if (x7 + (20 : Int32)) ≤ (1600 : Int32) then
      f_X12_feed_L28 v0 v1 v2 v3 v4 v5 ((0 : Int32)) M0
    else
      (gR 12 127 9 M0 v0).bind fun x8 =>
      (ldI 14 M0 x8 ((0 : Int32))).bind fun x9 =>
      (stI M0 x8 ((0 : Int32)) ((x9 + (1 : Int32)))).bind fun M10 =>
      some (((-1 : Int32), M10)))
set_option maxRecDepth 100000 in
set_option maxHeartbeats 4000000 in
theorem m_X12_feed (G : sG) (l : Launch) (v0 : Nat) (v1 : Int32) (v2 : Int32) (v3 : Int32) (v4 : Int32) (v5 : Int32) (M0 : sMem) : sC G l 1 yX12_feed cX12_feed 8 (some .int) [.ref v0, .int v1, .int v2, .int v3, .int v4, .int v5] M0 rvI (f_X12_feed v0 v1 v2 v3 v4 v5 M0) := by
  refine sC_m (ls := [some (.ref v0), some (.int v1), some (.int v2), some (.int v3), some (.int v4), some (.int v5), none, none]) (by decide +kernel) rfl (Nat.le_of_ble_eq_true rfl) (fun r M' K hr => ?_)
  unfold f_X12_feed
  have xB124 : ∀ (v0 : Nat) (M : sMem), sX G l 1 yX12_feed cX12_feed 8 (some .int) M0 r M' 124 [some (.ref v0), none, none, none, none, none, none, none] [] M (f_X12_feed_B124 v0 M) K := by
    intro v0 M
    unfold f_X12_feed_B124
    refine sX_aload_n (i := 0) (by decide +kernel) rfl ?_
    refine sX_getI lf_X12_297 tk_12_1 (by decide +kernel) (fun x1 => ?_)
    exact sX_some (fun h _ => sW_iret (by decide +kernel) rfl (hr _ h).1.symm (hr _ h).2.symm)
  have xL28 : ∀ (v0 : Nat) (v1 : Int32) (v2 : Int32) (v3 : Int32) (v4 : Int32) (v5 : Int32) (v6 : Int32) (M : sMem), sX G l 1 yX12_feed cX12_feed 8 (some .int) M0 r M' 28 [some (.ref v0), some (.int v1), some (.int v2), some (.int v3), some (.int v4), some (.int v5), some (.int v6), none] [] M (f_X12_feed_L28 v0 v1 v2 v3 v4 v5 v6 M) K := by
    intro v0 v1 v2 v3 v4 v5 v6 M
    unfold f_X12_feed_L28
    refine sX_bind ?_
    refine sX_loop (LS := fun a : (Int32 × sMem) => [some (.ref v0), some (.int v1), some (.int v2), some (.int v3), some (.int v4), some (.int v5), some (.int a.1), none]) (MM := fun a => a.2) (fun K1 hb1 he1 => ?_) sFuel ((v6, M))
    have xB81 : ∀ (v6 : Int32) (s0 : Int32) (M : sMem), sX G l 1 yX12_feed cX12_feed 8 (some .int) M0 r M' 81 [some (.ref v0), some (.int v1), some (.int v2), some (.int v3), some (.int v4), some (.int v5), some (.int v6), none] [.int s0] M (f_X12_feed_B81 v0 v1 v2 v3 v4 v5 v6 s0 M) K1 := by
      intro v6 s0 M
      unfold f_X12_feed_B81
      refine sX_istore (i := 7) (ls2 := [some (.ref v0), some (.int v1), some (.int v2), some (.int v3), some (.int v4), some (.int v5), some (.int v6), some (.int s0)]) (by decide +kernel) (by decide) rfl ?_
      refine sX_aload_n (i := 0) (by decide +kernel) rfl ?_
      refine sX_getR lf_X12_7 tk_12_0 (by decide +kernel) (fun x2 => ?_)
      refine sX_aload_n (i := 0) (by decide +kernel) rfl ?_
      refine sX_getI lf_X12_297 tk_12_1 (by decide +kernel) (fun x3 => ?_)
      refine sX_iload (i := 7) (by decide +kernel) rfl ?_
      refine sX_bipush (n := 8) (v := (8 : Int32)) (by decide +kernel) (by decide) ?_
      refine sX_iconst (n := 3) (v := (3 : Int32)) (by decide +kernel) (by decide) ?_
      refine sX_iload (i := 6) (by decide +kernel) rfl ?_
      refine sX_iconst (n := 4) (v := (4 : Int32)) (by decide +kernel) (by decide) ?_
      refine sX_irem (by decide +kernel) (by decide) ?_
      refine sX_isub (by decide +kernel) ?_
      refine sX_imul (by decide +kernel) ?_
      refine sX_ishr (by decide +kernel) ?_
      refine sX_sipush (n := 255) (v := (255 : Int32)) (by decide +kernel) (by decide) ?_
      refine sX_iand (by decide +kernel) ?_
      refine sX_iastore (by decide +kernel) (by decide) (fun M4 => ?_)
      refine sX_aload_n (i := 0) (by decide +kernel) rfl ?_
      refine sX_dup (by decide +kernel) rfl ?_
      refine sX_getI lf_X12_297 tk_12_1 (by decide +kernel) (fun x5 => ?_)
      refine sX_iconst (n := 1) (v := (1 : Int32)) (by decide +kernel) (by decide) ?_
      refine sX_iadd (by decide +kernel) ?_
      refine sX_putI lf_X12_297 tp_12_1 (by decide +kernel) (by decide) (fun M6 => ?_)
      refine sX_iinc (i := 6) (n := 1) (v := v6 + (1 : Int32)) (ls2 := [some (.ref v0), some (.int v1), some (.int v2), some (.int v3), some (.int v4), some (.int v5), some (.int (v6 + (1 : Int32))), some (.int s0)]) (by decide +kernel) rfl rfl (by decide) rfl ?_
      refine sX_goto (o := -93) (t := 28) (by decide +kernel) (by decide) ?_
      exact sX_back (a := (((v6 + (1 : Int32))), M6)) hb1 rfl (sLe_s (sLe_s (sLe_s (sLe_s (sLe_s (sLe_s (sLe_s (sLe_n sLe_e))))))))
    have xK28 : ∀ (v6 : Int32) (M : sMem), sX G l 1 yX12_feed cX12_feed 8 (some .int) M0 r M' 28 [some (.ref v0), some (.int v1), some (.int v2), some (.int v3), some (.int v4), some (.int v5), some (.int v6), none] [] M (f_X12_feed_K28 v0 v1 v2 v3 v4 v5 v6 M) K1 := by
      intro v6 M
      unfold f_X12_feed_K28
      refine sX_iload (i := 6) (by decide +kernel) rfl ?_
      refine sX_bipush (n := 20) (v := (20 : Int32)) (by decide +kernel) (by decide) ?_
      refine sX_icge (o := 92) (t := 124) (by decide +kernel) (by decide) (fun _ => ?_) (fun _ => ?_)
      · refine sX_exit he1 ?_
        exact sX.le (xB124 v0 M) (sLe_s (sLe_n (sLe_n (sLe_n (sLe_n (sLe_n (sLe_n (sLe_n sLe_e))))))))
      · refine sX_iload (i := 6) (by decide +kernel) rfl ?_
        refine sX_iconst (n := 4) (v := (4 : Int32)) (by decide +kernel) (by decide) ?_
        refine sX_icge (o := 7) (t := 45) (by decide +kernel) (by decide) (fun _ => ?_) (fun _ => ?_)
        · refine sX_iload (i := 6) (by decide +kernel) rfl ?_
          refine sX_bipush (n := 8) (v := (8 : Int32)) (by decide +kernel) (by decide) ?_
          refine sX_icge (o := 7) (t := 56) (by decide +kernel) (by decide) (fun _ => ?_) (fun _ => ?_)
          · refine sX_iload (i := 6) (by decide +kernel) rfl ?_
            refine sX_bipush (n := 12) (v := (12 : Int32)) (by decide +kernel) (by decide) ?_
            refine sX_icge (o := 7) (t := 67) (by decide +kernel) (by decide) (fun _ => ?_) (fun _ => ?_)
            · refine sX_iload (i := 6) (by decide +kernel) rfl ?_
              refine sX_bipush (n := 16) (v := (16 : Int32)) (by decide +kernel) (by decide) ?_
              refine sX_icge (o := 8) (t := 79) (by decide +kernel) (by decide) (fun _ => ?_) (fun _ => ?_)
              · refine sX_iload (i := 5) (by decide +kernel) rfl ?_
                exact sX.le (xB81 v6 v5 M) (sLe_s (sLe_s (sLe_s (sLe_s (sLe_s (sLe_s (sLe_s (sLe_n sLe_e))))))))
              · refine sX_iload (i := 4) (by decide +kernel) rfl ?_
                refine sX_goto (o := 5) (t := 81) (by decide +kernel) (by decide) ?_
                exact sX.le (xB81 v6 v4 M) (sLe_s (sLe_s (sLe_s (sLe_s (sLe_s (sLe_s (sLe_s (sLe_n sLe_e))))))))
            · refine sX_iload_n (i := 3) (by decide +kernel) rfl ?_
              refine sX_goto (o := 17) (t := 81) (by decide +kernel) (by decide) ?_
              exact sX.le (xB81 v6 v3 M) (sLe_s (sLe_s (sLe_s (sLe_s (sLe_s (sLe_s (sLe_s (sLe_n sLe_e))))))))
          · refine sX_iload_n (i := 2) (by decide +kernel) rfl ?_
            refine sX_goto (o := 28) (t := 81) (by decide +kernel) (by decide) ?_
            exact sX.le (xB81 v6 v2 M) (sLe_s (sLe_s (sLe_s (sLe_s (sLe_s (sLe_s (sLe_s (sLe_n sLe_e))))))))
        · refine sX_iload_n (i := 1) (by decide +kernel) rfl ?_
          refine sX_goto (o := 39) (t := 81) (by decide +kernel) (by decide) ?_
          exact sX.le (xB81 v6 v1 M) (sLe_s (sLe_s (sLe_s (sLe_s (sLe_s (sLe_s (sLe_s (sLe_n sLe_e))))))))
    exact fun a => xK28 a.1 a.2
  refine sX_rc ?_
  refine sX_aload_n (i := 0) (by decide +kernel) rfl ?_
  refine sX_getI lf_X12_297 tk_12_1 (by decide +kernel) (fun x7 => ?_)
  refine sX_bipush (n := 20) (v := (20 : Int32)) (by decide +kernel) (by decide) ?_
  refine sX_iadd (by decide +kernel) ?_
  refine sX_sipush (n := 1600) (v := (1600 : Int32)) (by decide +kernel) (by decide) ?_
  refine sX_icle (o := 15) (t := 25) (by decide +kernel) (by decide) (fun _ => ?_) (fun _ => ?_)
  · refine sX_iconst (n := 0) (v := (0 : Int32)) (by decide +kernel) (by decide) ?_
    refine sX_istore (i := 6) (ls2 := [some (.ref v0), some (.int v1), some (.int v2), some (.int v3), some (.int v4), some (.int v5), some (.int (0 : Int32)), none]) (by decide +kernel) (by decide) rfl ?_
    exact sX.le (xL28 v0 v1 v2 v3 v4 v5 ((0 : Int32)) M0) (sLe_s (sLe_s (sLe_s (sLe_s (sLe_s (sLe_s (sLe_s (sLe_n sLe_e))))))))
  · refine sX_aload_n (i := 0) (by decide +kernel) rfl ?_
    refine sX_getR lf_X12_17 tk_12_9 (by decide +kernel) (fun x8 => ?_)
    refine sX_iconst (n := 0) (v := (0 : Int32)) (by decide +kernel) (by decide) ?_
    refine sX_dup2 (by decide +kernel) rfl rfl ?_
    refine sX_iaload (by decide +kernel) (fun x9 => ?_)
    refine sX_iconst (n := 1) (v := (1 : Int32)) (by decide +kernel) (by decide) ?_
    refine sX_iadd (by decide +kernel) ?_
    refine sX_iastore (by decide +kernel) (by decide) (fun M10 => ?_)
    refine sX_iconst (n := -1) (v := (-1 : Int32)) (by decide +kernel) (by decide) ?_
    exact sX_some (fun h _ => sW_iret (by decide +kernel) rfl (hr _ h).1.symm (hr _ h).2.symm)

def f_X12_fail (v0 : Nat) (v1 : Int32) (v2 : Int32) (M0 : sMem) : Option sMem :=
  sRc 12 127 M0 v0 (
    (gI 12 127 5 M0 v0).bind fun x1 =>
    if x1 = 0 then
      (pI 12 127 5 M0 v0 v1).bind fun M2 =>
      (pI 12 127 6 M2 v0 v2).bind fun M3 =>
      some M3
    else
      some M0)
set_option maxRecDepth 100000 in
set_option maxHeartbeats 4000000 in
theorem m_X12_fail (G : sG) (l : Launch) (v0 : Nat) (v1 : Int32) (v2 : Int32) (M0 : sMem) : sCv G l 1 yX12_fail cX12_fail 3 none [.ref v0, .int v1, .int v2] M0 (f_X12_fail v0 v1 v2 M0) := by
  refine sC_v (ls := [some (.ref v0), some (.int v1), some (.int v2)]) (by decide +kernel) rfl (Nat.le_of_ble_eq_true rfl) (fun r M' K hr => ?_)
  unfold f_X12_fail
  refine sX_rc ?_
  refine sX_aload_n (i := 0) (by decide +kernel) rfl ?_
  refine sX_getI lf_X12_300 tk_12_5 (by decide +kernel) (fun x1 => ?_)
  refine sX_ifeq (o := 4) (t := 8) (by decide +kernel) (by decide) (fun _ => ?_) (fun _ => ?_)
  · refine sX_aload_n (i := 0) (by decide +kernel) rfl ?_
    refine sX_iload_n (i := 1) (by decide +kernel) rfl ?_
    refine sX_putI lf_X12_300 tp_12_5 (by decide +kernel) (by decide) (fun M2 => ?_)
    refine sX_aload_n (i := 0) (by decide +kernel) rfl ?_
    refine sX_iload_n (i := 2) (by decide +kernel) rfl ?_
    refine sX_putI lf_X12_303 tp_12_6 (by decide +kernel) (by decide) (fun M3 => ?_)
    exact sX_some (fun h _ => sW_vret (by decide +kernel) rfl (hr _ h).1.symm (hr _ h).2.symm)
  · exact sX_some (fun h _ => sW_vret (by decide +kernel) rfl (hr _ h).1.symm (hr _ h).2.symm)

def f_X12_end_B12 (v0 : Nat) (M : sMem) : Option (Int32 × sMem) :=
  (gR 12 127 9 M v0).bind fun x1 =>
  (ldI 14 M x1 ((0 : Int32))).bind fun x2 =>
  (stI M x1 ((0 : Int32)) ((x2 + (1 : Int32)))).bind fun M3 =>
  some (((0 : Int32), M3))
def f_X12_end (v0 : Nat) (v1 : Int32) (M0 : sMem) : Option (Int32 × sMem) :=
  sRc 12 127 M0 v0 (
    if v1 < 0 then
      f_X12_end_B12 v0 M0
    else
      (gI 12 127 1 M0 v0).bind fun x4 =>
      if v1 ≤ x4 then
        (pI 12 127 1 M0 v0 v1).bind fun M5 =>
        some (((1 : Int32), M5))
      else
        f_X12_end_B12 v0 M0)
set_option maxRecDepth 100000 in
set_option maxHeartbeats 4000000 in
theorem m_X12_end (G : sG) (l : Launch) (v0 : Nat) (v1 : Int32) (M0 : sMem) : sC G l 1 yX12_end cX12_end 2 (some .boolean) [.ref v0, .int v1] M0 rvI (f_X12_end v0 v1 M0) := by
  refine sC_m (ls := [some (.ref v0), some (.int v1)]) (by decide +kernel) rfl (Nat.le_of_ble_eq_true rfl) (fun r M' K hr => ?_)
  unfold f_X12_end
  have xB12 : ∀ (v0 : Nat) (M : sMem), sX G l 1 yX12_end cX12_end 2 (some .boolean) M0 r M' 12 [some (.ref v0), none] [] M (f_X12_end_B12 v0 M) K := by
    intro v0 M
    unfold f_X12_end_B12
    refine sX_aload_n (i := 0) (by decide +kernel) rfl ?_
    refine sX_getR lf_X12_17 tk_12_9 (by decide +kernel) (fun x1 => ?_)
    refine sX_iconst (n := 0) (v := (0 : Int32)) (by decide +kernel) (by decide) ?_
    refine sX_dup2 (by decide +kernel) rfl rfl ?_
    refine sX_iaload (by decide +kernel) (fun x2 => ?_)
    refine sX_iconst (n := 1) (v := (1 : Int32)) (by decide +kernel) (by decide) ?_
    refine sX_iadd (by decide +kernel) ?_
    refine sX_iastore (by decide +kernel) (by decide) (fun M3 => ?_)
    refine sX_iconst (n := 0) (v := (0 : Int32)) (by decide +kernel) (by decide) ?_
    exact sX_some (fun h _ => sW_zret (by decide +kernel) rfl (by decide) (hr _ h).1.symm (hr _ h).2.symm)
  refine sX_rc ?_
  refine sX_iload_n (i := 1) (by decide +kernel) rfl ?_
  refine sX_iflt (o := 11) (t := 12) (by decide +kernel) (by decide) (fun _ => ?_) (fun _ => ?_)
  · exact sX.le (xB12 v0 M0) (sLe_s (sLe_n sLe_e))
  · refine sX_iload_n (i := 1) (by decide +kernel) rfl ?_
    refine sX_aload_n (i := 0) (by decide +kernel) rfl ?_
    refine sX_getI lf_X12_297 tk_12_1 (by decide +kernel) (fun x4 => ?_)
    refine sX_icle (o := 15) (t := 24) (by decide +kernel) (by decide) (fun _ => ?_) (fun _ => ?_)
    · refine sX_aload_n (i := 0) (by decide +kernel) rfl ?_
      refine sX_iload_n (i := 1) (by decide +kernel) rfl ?_
      refine sX_putI lf_X12_297 tp_12_1 (by decide +kernel) (by decide) (fun M5 => ?_)
      refine sX_iconst (n := 1) (v := (1 : Int32)) (by decide +kernel) (by decide) ?_
      exact sX_some (fun h _ => sW_zret (by decide +kernel) rfl (by decide) (hr _ h).1.symm (hr _ h).2.symm)
    · exact sX.le (xB12 v0 M0) (sLe_s (sLe_n sLe_e))

