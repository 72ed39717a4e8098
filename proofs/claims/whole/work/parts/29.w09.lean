def f_X11_readImage_B304 (v0 : Nat) (v1 : Int32) (v2 : Int32) (v3 : Int32) (v6 : Int32) (s0 : Int32) (M : sMem) : Option ((Int32 × Int32 × sMem) ⊕ (((Int32 × sMem)))) :=
  some (.inl ((s0, ((v6 + (1 : Int32))), M)))
def f_X11_readImage_B303 (v0 : Nat) (v1 : Int32) (v2 : Int32) (v3 : Int32) (v6 : Int32) (M : sMem) : Option ((Int32 × Int32 × sMem) ⊕ (((Int32 × sMem)))) :=
  f_X11_readImage_B304 v0 v1 v2 v3 v6 ((0 : Int32)) M
def f_X11_readImage_K269 (v0 : Nat) (v1 : Int32) (v2 : Int32) (v3 : Int32) (v5 : Int32) (v6 : Int32) (M : sMem) : Option ((Int32 × Int32 × sMem) ⊕ (((Int32 × sMem)))) :=
  if v3 ≤ v6 then
    if v5 = 0 ∨ v5 = 1 then some (.inr ((v5, M))) else none
  else
    if v5 = 0 then
      f_X11_readImage_B303 v0 v1 v2 v3 v6 M
    else
      (f_X11_readCarImage v0 v6 (((((2 : Int32) + v1) + v2) + ((4 : Int32) * v6))) M).bind fun (x1, M2) =>
      if x1 = 0 then
        f_X11_readImage_B303 v0 v1 v2 v3 v6 M2
      else
        f_X11_readImage_B304 v0 v1 v2 v3 v6 ((1 : Int32)) M2
def f_X11_readImage_L269 (v0 : Nat) (v1 : Int32) (v2 : Int32) (v3 : Int32) (v5 : Int32) (v6 : Int32) (M : sMem) : Option (Int32 × sMem) :=
  (sItr (fun a : (Int32 × Int32 × sMem) => f_X11_readImage_K269 v0 v1 v2 v3 a.1 a.2.1 a.2.2) sFuel (v5, v6, M)).bind (fun b => some b)
def f_X11_readImage_B266 (v0 : Nat) (v1 : Int32) (v2 : Int32) (v3 : Int32) (v5 : Int32) (M : sMem) : Option (Int32 × sMem) :=
  f_X11_readImage_L269 v0 v1 v2 v3 v5 ((0 : Int32)) M
def f_X11_readImage_B258 (v0 : Nat) (v1 : Int32) (v2 : Int32) (v3 : Int32) (v6 : Int32) (s0 : Int32) (M : sMem) : Option ((Int32 × Int32 × sMem) ⊕ ((Int32 × sMem))) :=
  some (.inl ((s0, ((v6 + (1 : Int32))), M)))
def f_X11_readImage_B257 (v0 : Nat) (v1 : Int32) (v2 : Int32) (v3 : Int32) (v6 : Int32) (M : sMem) : Option ((Int32 × Int32 × sMem) ⊕ ((Int32 × sMem))) :=
  f_X11_readImage_B258 v0 v1 v2 v3 v6 ((0 : Int32)) M
def f_X11_readImage_K204 (v0 : Nat) (v1 : Int32) (v2 : Int32) (v3 : Int32) (v5 : Int32) (v6 : Int32) (M : sMem) : Option ((Int32 × Int32 × sMem) ⊕ ((Int32 × sMem))) :=
  if v2 ≤ v6 then
    some (.inr ((v5, M)))
  else
    (gR 11 20 5 M v0).bind fun x3 =>
    (gR 8 8 2 M x3).bind fun x4 =>
    (gR 11 20 0 M v0).bind fun x5 =>
    (f_X10_byteAt x5 ((((2 : Int32) + v1) + v6)) M).bind fun x6 =>
    (stI M x4 v6 x6).bind fun M7 =>
    if v5 = 0 then
      f_X11_readImage_B257 v0 v1 v2 v3 v6 M7
    else
      (gR 11 20 5 M7 v0).bind fun x8 =>
      (gR 8 8 2 M7 x8).bind fun x9 =>
      (ldI 14 M7 x9 v6).bind fun x10 =>
      if (99 : Int32) < x10 then
        f_X11_readImage_B257 v0 v1 v2 v3 v6 M7
      else
        f_X11_readImage_B258 v0 v1 v2 v3 v6 ((1 : Int32)) M7
def f_X11_readImage_L204 (v0 : Nat) (v1 : Int32) (v2 : Int32) (v3 : Int32) (v5 : Int32) (v6 : Int32) (M : sMem) : Option (Int32 × sMem) :=
  (sItr (fun a : (Int32 × Int32 × sMem) => f_X11_readImage_K204 v0 v1 v2 v3 a.1 a.2.1 a.2.2) sFuel (v5, v6, M)).bind (fun b => f_X11_readImage_B266 v0 v1 v2 v3 b.1 b.2)
def f_X11_readImage_B201 (v0 : Nat) (v1 : Int32) (v2 : Int32) (v3 : Int32) (v5 : Int32) (M : sMem) : Option (Int32 × sMem) :=
  f_X11_readImage_L204 v0 v1 v2 v3 v5 ((0 : Int32)) M
def f_X11_readImage_B191 (v0 : Nat) (v1 : Int32) (v2 : Int32) (v3 : Int32) (v5 : Int32) (v6 : Int32) (s0 : Nat) (s1 : Int32) (s2 : Int32) (M : sMem) : Option ((Int32 × Int32 × sMem) ⊕ ((Int32 × sMem))) :=
  (pI 8 8 1 M s0 ((s1 ||| s2))).bind fun M11 =>
  some (.inl ((v5, ((v6 + (1 : Int32))), M11)))
def f_X11_readImage_B167 (v0 : Nat) (v1 : Int32) (v2 : Int32) (v3 : Int32) (v6 : Int32) (v7 : Int32) (s0 : Int32) (M : sMem) : Option ((Int32 × Int32 × sMem) ⊕ ((Int32 × sMem))) :=
  (gR 11 20 5 M v0).bind fun x12 =>
  (gI 8 8 1 M x12).bind fun x13 =>
  if v7 = (1 : Int32) then
    f_X11_readImage_B191 v0 v1 v2 v3 s0 v6 x12 x13 (((1 : Int32) <<< (v6 &&& 31))) M
  else
    f_X11_readImage_B191 v0 v1 v2 v3 s0 v6 x12 x13 ((0 : Int32)) M
def f_X11_readImage_B166 (v0 : Nat) (v1 : Int32) (v2 : Int32) (v3 : Int32) (v6 : Int32) (v7 : Int32) (M : sMem) : Option ((Int32 × Int32 × sMem) ⊕ ((Int32 × sMem))) :=
  f_X11_readImage_B167 v0 v1 v2 v3 v6 v7 ((0 : Int32)) M
def f_X11_readImage_K130 (v0 : Nat) (v1 : Int32) (v2 : Int32) (v3 : Int32) (v5 : Int32) (v6 : Int32) (M : sMem) : Option ((Int32 × Int32 × sMem) ⊕ ((Int32 × sMem))) :=
  if v1 ≤ v6 then
    some (.inr ((v5, M)))
  else
    (gR 11 20 0 M v0).bind fun x14 =>
    (f_X10_byteAt x14 (((2 : Int32) + v6)) M).bind fun x15 =>
    if v5 = 0 then
      f_X11_readImage_B166 v0 v1 v2 v3 v6 x15 M
    else
      (f_X11_isFlag x15 M).bind fun x16 =>
      if x16 = 0 then
        f_X11_readImage_B166 v0 v1 v2 v3 v6 x15 M
      else
        f_X11_readImage_B167 v0 v1 v2 v3 v6 x15 ((1 : Int32)) M
def f_X11_readImage_L130 (v0 : Nat) (v1 : Int32) (v2 : Int32) (v3 : Int32) (v5 : Int32) (v6 : Int32) (M : sMem) : Option (Int32 × sMem) :=
  (sItr (fun a : (Int32 × Int32 × sMem) => f_X11_readImage_K130 v0 v1 v2 v3 a.1 a.2.1 a.2.2) sFuel (v5, v6, M)).bind (fun b => f_X11_readImage_B201 v0 v1 v2 v3 b.1 b.2)
def f_X11_readImage_B125 (v0 : Nat) (v1 : Int32) (v2 : Int32) (v3 : Int32) (s0 : Int32) (M : sMem) : Option (Int32 × sMem) :=
  f_X11_readImage_L130 v0 v1 v2 v3 s0 ((0 : Int32)) M
def f_X11_readImage_B95 (v0 : Nat) (v1 : Int32) (v2 : Int32) (v3 : Int32) (M : sMem) : Option (Int32 × sMem) :=
  (gR 11 20 5 M v0).bind fun x17 =>
  (f_X11_pairAt v0 ((0 : Int32)) M).bind fun x18 =>
  (pI 8 8 0 M x17 x18).bind fun M19 =>
  (gR 11 20 5 M19 v0).bind fun x20 =>
  (gI 8 8 0 M19 x20).bind fun x21 =>
  if (999 : Int32) < x21 then
    f_X11_readImage_B125 v0 v1 v2 v3 ((0 : Int32)) M19
  else
    f_X11_readImage_B125 v0 v1 v2 v3 ((1 : Int32)) M19
def f_X11_readImage (v0 : Nat) (M0 : sMem) : Option (Int32 × sMem) :=
  sRc 11 20 M0 v0 (
    (gR 11 20 2 M0 v0).bind fun x22 =>
    (gR 1 10 1 M0 x22).bind fun x23 =>
    (gI 9 4 3 M0 x23).bind fun x24 =>
    (gR 11 20 2 M0 v0).bind fun x25 =>
    (gR 1 10 4 M0 x25).bind fun x26 =>
    (gI 9 4 3 M0 x26).bind fun x27 =>
    (gR 11 20 2 M0 v0).bind fun x28 =>
    (gR 1 10 5 M0 x28).bind fun x29 =>
    (gI 9 4 3 M0 x29).bind fun x30 =>
    (gR 11 20 0 M0 v0).bind fun x31 =>
    (gI 10 10 1 M0 x31).bind fun x32 =>
    if x32 = (((((2 : Int32) + x24) + x27) + ((4 : Int32) * x30)) + (1 : Int32)) then
      (gR 11 20 0 M0 v0).bind fun x33 =>
      (f_X10_byteAt x33 (((((2 : Int32) + x24) + x27) + ((4 : Int32) * x30))) M0).bind fun x34 =>
      (gR 11 20 0 M0 v0).bind fun x35 =>
      (gR 10 10 0 M0 x35).bind fun x36 =>
      (f_X11_imageSum x36 (((((2 : Int32) + x24) + x27) + ((4 : Int32) * x30))) M0).bind fun x37 =>
      if x34 = x37 then
        (gR 11 20 5 M0 v0).bind fun x38 =>
        (gR 11 20 2 M0 v0).bind fun x39 =>
        (f_X8_start x38 x39 M0).bind fun M40 =>
        f_X11_readImage_B95 v0 x24 x27 x30 M40
      else
        some (((0 : Int32), M0))
    else
      some (((0 : Int32), M0)))
set_option maxRecDepth 100000 in
set_option maxHeartbeats 4000000 in
theorem m_X11_readImage (G : sG) (l : Launch) (v0 : Nat) (M0 : sMem) : sC G l 4 yX11_readImage cX11_readImage 8 (some .boolean) [.ref v0] M0 rvI (f_X11_readImage v0 M0) := by
  refine sC_m (ls := [some (.ref v0), none, none, none, none, none, none, none]) (by decide +kernel) rfl (Nat.le_of_ble_eq_true rfl) (fun r M' K hr => ?_)
  unfold f_X11_readImage
  have xL269 : ∀ (v0 : Nat) (v1 : Int32) (v2 : Int32) (v3 : Int32) (v5 : Int32) (v6 : Int32) (M : sMem), sX G l 4 yX11_readImage cX11_readImage 8 (some .boolean) M0 r M' 269 [some (.ref v0), some (.int v1), some (.int v2), some (.int v3), none, some (.int v5), some (.int v6), none] [] M (f_X11_readImage_L269 v0 v1 v2 v3 v5 v6 M) K := by
    intro v0 v1 v2 v3 v5 v6 M
    unfold f_X11_readImage_L269
    refine sX_bind ?_
    refine sX_loop (LS := fun a : (Int32 × Int32 × sMem) => [some (.ref v0), some (.int v1), some (.int v2), some (.int v3), none, some (.int a.1), some (.int a.2.1), none]) (MM := fun a => a.2.2) (fun K1 hb1 he1 => ?_) sFuel ((v5, v6, M))
    have xB304 : ∀ (v6 : Int32) (s0 : Int32) (M : sMem), sX G l 4 yX11_readImage cX11_readImage 8 (some .boolean) M0 r M' 304 [some (.ref v0), some (.int v1), some (.int v2), some (.int v3), none, none, some (.int v6), none] [.int s0] M (f_X11_readImage_B304 v0 v1 v2 v3 v6 s0 M) K1 := by
      intro v6 s0 M
      unfold f_X11_readImage_B304
      refine sX_istore (i := 5) (ls2 := [some (.ref v0), some (.int v1), some (.int v2), some (.int v3), none, some (.int s0), some (.int v6), none]) (by decide +kernel) (by decide) rfl ?_
      refine sX_iinc (i := 6) (n := 1) (v := v6 + (1 : Int32)) (ls2 := [some (.ref v0), some (.int v1), some (.int v2), some (.int v3), none, some (.int s0), some (.int (v6 + (1 : Int32))), none]) (by decide +kernel) rfl rfl (by decide) rfl ?_
      refine sX_goto (o := -40) (t := 269) (by decide +kernel) (by decide) ?_
      exact sX_back (a := (s0, ((v6 + (1 : Int32))), M)) hb1 rfl (sLe_s (sLe_s (sLe_s (sLe_s (sLe_n (sLe_s (sLe_s (sLe_n sLe_e))))))))
    have xB303 : ∀ (v6 : Int32) (M : sMem), sX G l 4 yX11_readImage cX11_readImage 8 (some .boolean) M0 r M' 303 [some (.ref v0), some (.int v1), some (.int v2), some (.int v3), none, none, some (.int v6), none] [] M (f_X11_readImage_B303 v0 v1 v2 v3 v6 M) K1 := by
      intro v6 M
      unfold f_X11_readImage_B303
      refine sX_iconst (n := 0) (v := (0 : Int32)) (by decide +kernel) (by decide) ?_
      exact sX.le (xB304 v6 ((0 : Int32)) M) (sLe_s (sLe_s (sLe_s (sLe_s (sLe_n (sLe_n (sLe_s (sLe_n sLe_e))))))))
    have xK269 : ∀ (v5 : Int32) (v6 : Int32) (M : sMem), sX G l 4 yX11_readImage cX11_readImage 8 (some .boolean) M0 r M' 269 [some (.ref v0), some (.int v1), some (.int v2), some (.int v3), none, some (.int v5), some (.int v6), none] [] M (f_X11_readImage_K269 v0 v1 v2 v3 v5 v6 M) K1 := by
      intro v5 v6 M
      unfold f_X11_readImage_K269
      refine sX_iload (i := 6) (by decide +kernel) rfl ?_
      refine sX_iload_n (i := 3) (by decide +kernel) rfl ?_
      refine sX_icge (o := 40) (t := 312) (by decide +kernel) (by decide) (fun _ => ?_) (fun _ => ?_)
      · refine sX_iload (i := 5) (by decide +kernel) rfl ?_
        refine sX_g (fun hz => ?_)
        refine sX_exit he1 ?_
        exact sX_some (fun h _ => sW_zret (by decide +kernel) rfl (nar_bool hz).1 (hr _ h).1.symm (hr _ h).2.symm)
      · refine sX_iload (i := 5) (by decide +kernel) rfl ?_
        refine sX_ifeq (o := 26) (t := 303) (by decide +kernel) (by decide) (fun _ => ?_) (fun _ => ?_)
        · exact sX.le (xB303 v6 M) (sLe_s (sLe_s (sLe_s (sLe_s (sLe_n (sLe_n (sLe_s (sLe_n sLe_e))))))))
        · refine sX_aload_n (i := 0) (by decide +kernel) rfl ?_
          refine sX_iload (i := 6) (by decide +kernel) rfl ?_
          refine sX_iconst (n := 2) (v := (2 : Int32)) (by decide +kernel) (by decide) ?_
          refine sX_iload_n (i := 1) (by decide +kernel) rfl ?_
          refine sX_iadd (by decide +kernel) ?_
          refine sX_iload_n (i := 2) (by decide +kernel) rfl ?_
          refine sX_iadd (by decide +kernel) ?_
          refine sX_iconst (n := 4) (v := (4 : Int32)) (by decide +kernel) (by decide) ?_
          refine sX_iload (i := 6) (by decide +kernel) rfl ?_
          refine sX_imul (by decide +kernel) ?_
          refine sX_iadd (by decide +kernel) ?_
          refine sX_callV (As := [.int v6, .int ((((2 : Int32) + v1) + v2) + ((4 : Int32) * v6))]) (by decide +kernel) lm_X11_391 mf_X11_readCarImage mi_X11_readCarImage mc_11 (m_X11_readCarImage G l v0 v6 (((((2 : Int32) + v1) + v2) + ((4 : Int32) * v6))) M) (fun _ h => sRc_some h) (by decide) rfl rfl (Nat.le_of_ble_eq_true rfl) (fun x1 M2 _ => ?_)
          refine sX_ifeq (o := 7) (t := 303) (by decide +kernel) (by decide) (fun _ => ?_) (fun _ => ?_)
          · exact sX.le (xB303 v6 M2) (sLe_s (sLe_s (sLe_s (sLe_s (sLe_n (sLe_n (sLe_s (sLe_n sLe_e))))))))
          · refine sX_iconst (n := 1) (v := (1 : Int32)) (by decide +kernel) (by decide) ?_
            refine sX_goto (o := 4) (t := 304) (by decide +kernel) (by decide) ?_
            exact sX.le (xB304 v6 ((1 : Int32)) M2) (sLe_s (sLe_s (sLe_s (sLe_s (sLe_n (sLe_n (sLe_s (sLe_n sLe_e))))))))
    exact fun a => xK269 a.1 a.2.1 a.2.2
  have xB266 : ∀ (v0 : Nat) (v1 : Int32) (v2 : Int32) (v3 : Int32) (v5 : Int32) (M : sMem), sX G l 4 yX11_readImage cX11_readImage 8 (some .boolean) M0 r M' 266 [some (.ref v0), some (.int v1), some (.int v2), some (.int v3), none, some (.int v5), none, none] [] M (f_X11_readImage_B266 v0 v1 v2 v3 v5 M) K := by
    intro v0 v1 v2 v3 v5 M
    unfold f_X11_readImage_B266
    refine sX_iconst (n := 0) (v := (0 : Int32)) (by decide +kernel) (by decide) ?_
    refine sX_istore (i := 6) (ls2 := [some (.ref v0), some (.int v1), some (.int v2), some (.int v3), none, some (.int v5), some (.int (0 : Int32)), none]) (by decide +kernel) (by decide) rfl ?_
    exact sX.le (xL269 v0 v1 v2 v3 v5 ((0 : Int32)) M) (sLe_s (sLe_s (sLe_s (sLe_s (sLe_n (sLe_s (sLe_s (sLe_n sLe_e))))))))
  have xL204 : ∀ (v0 : Nat) (v1 : Int32) (v2 : Int32) (v3 : Int32) (v5 : Int32) (v6 : Int32) (M : sMem), sX G l 4 yX11_readImage cX11_readImage 8 (some .boolean) M0 r M' 204 [some (.ref v0), some (.int v1), some (.int v2), some (.int v3), none, some (.int v5), some (.int v6), none] [] M (f_X11_readImage_L204 v0 v1 v2 v3 v5 v6 M) K := by
    intro v0 v1 v2 v3 v5 v6 M
    unfold f_X11_readImage_L204
    refine sX_bind ?_
    refine sX_loop (LS := fun a : (Int32 × Int32 × sMem) => [some (.ref v0), some (.int v1), some (.int v2), some (.int v3), none, some (.int a.1), some (.int a.2.1), none]) (MM := fun a => a.2.2) (fun K1 hb1 he1 => ?_) sFuel ((v5, v6, M))
    have xB258 : ∀ (v6 : Int32) (s0 : Int32) (M : sMem), sX G l 4 yX11_readImage cX11_readImage 8 (some .boolean) M0 r M' 258 [some (.ref v0), some (.int v1), some (.int v2), some (.int v3), none, none, some (.int v6), none] [.int s0] M (f_X11_readImage_B258 v0 v1 v2 v3 v6 s0 M) K1 := by
      intro v6 s0 M
      unfold f_X11_readImage_B258
      refine sX_istore (i := 5) (ls2 := [some (.ref v0), some (.int v1), some (.int v2), some (.int v3), none, some (.int s0), some (.int v6), none]) (by decide +kernel) (by decide) rfl ?_
      refine sX_iinc (i := 6) (n := 1) (v := v6 + (1 : Int32)) (ls2 := [some (.ref v0), some (.int v1), some (.int v2), some (.int v3), none, some (.int s0), some (.int (v6 + (1 : Int32))), none]) (by decide +kernel) rfl rfl (by decide) rfl ?_
      refine sX_goto (o := -59) (t := 204) (by decide +kernel) (by decide) ?_
      exact sX_back (a := (s0, ((v6 + (1 : Int32))), M)) hb1 rfl (sLe_s (sLe_s (sLe_s (sLe_s (sLe_n (sLe_s (sLe_s (sLe_n sLe_e))))))))
    have xB257 : ∀ (v6 : Int32) (M : sMem), sX G l 4 yX11_readImage cX11_readImage 8 (some .boolean) M0 r M' 257 [some (.ref v0), some (.int v1), some (.int v2), some (.int v3), none, none, some (.int v6), none] [] M (f_X11_readImage_B257 v0 v1 v2 v3 v6 M) K1 := by
      intro v6 M
      unfold f_X11_readImage_B257
      refine sX_iconst (n := 0) (v := (0 : Int32)) (by decide +kernel) (by decide) ?_
      exact sX.le (xB258 v6 ((0 : Int32)) M) (sLe_s (sLe_s (sLe_s (sLe_s (sLe_n (sLe_n (sLe_s (sLe_n sLe_e))))))))
    have xK204 : ∀ (v5 : Int32) (v6 : Int32) (M : sMem), sX G l 4 yX11_readImage cX11_readImage 8 (some .boolean) M0 r M' 204 [some (.ref v0), some (.int v1), some (.int v2), some (.int v3), none, some (.int v5), some (.int v6), none] [] M (f_X11_readImage_K204 v0 v1 v2 v3 v5 v6 M) K1 := by
      intro v5 v6 M
      unfold f_X11_readImage_K204
      refine sX_iload (i := 6) (by decide +kernel) rfl ?_
      refine sX_iload_n (i := 2) (by decide +kernel) rfl ?_
      refine sX_icge (o := 59) (t := 266) (by decide +kernel) (by decide) (fun _ => ?_) (fun _ => ?_)
      · refine sX_exit he1 ?_
        exact sX.le (xB266 v0 v1 v2 v3 v5 M) (sLe_s (sLe_s (sLe_s (sLe_s (sLe_n (sLe_s (sLe_n (sLe_n sLe_e))))))))
      · refine sX_aload_n (i := 0) (by decide +kernel) rfl ?_
        refine sX_getR lf_X11_42 tk_11_5 (by decide +kernel) (fun x3 => ?_)
        refine sX_getR lf_X11_174 tk_8_2 (by decide +kernel) (fun x4 => ?_)
        refine sX_iload (i := 6) (by decide +kernel) rfl ?_
        refine sX_aload_n (i := 0) (by decide +kernel) rfl ?_
        refine sX_getR lf_X11_12 tk_11_0 (by decide +kernel) (fun x5 => ?_)
        refine sX_iconst (n := 2) (v := (2 : Int32)) (by decide +kernel) (by decide) ?_
        refine sX_iload_n (i := 1) (by decide +kernel) rfl ?_
        refine sX_iadd (by decide +kernel) ?_
        refine sX_iload (i := 6) (by decide +kernel) rfl ?_
        refine sX_iadd (by decide +kernel) ?_
        refine sX_callVp (As := [.int (((2 : Int32) + v1) + v6)]) (by decide +kernel) lm_X11_264 mf_X10_byteAt mi_X10_byteAt mc_10 (m_X10_byteAt G l x5 ((((2 : Int32) + v1) + v6)) M) (fun _ h => sRc_some h) (by decide) rfl rfl (Nat.le_of_ble_eq_true rfl) (fun x6 => ?_)
        refine sX_iastore (by decide +kernel) (by decide) (fun M7 => ?_)
        refine sX_iload (i := 5) (by decide +kernel) rfl ?_
        refine sX_ifeq (o := 22) (t := 257) (by decide +kernel) (by decide) (fun _ => ?_) (fun _ => ?_)
        · exact sX.le (xB257 v6 M7) (sLe_s (sLe_s (sLe_s (sLe_s (sLe_n (sLe_n (sLe_s (sLe_n sLe_e))))))))
        · refine sX_aload_n (i := 0) (by decide +kernel) rfl ?_
          refine sX_getR lf_X11_42 tk_11_5 (by decide +kernel) (fun x8 => ?_)
          refine sX_getR lf_X11_174 tk_8_2 (by decide +kernel) (fun x9 => ?_)
          refine sX_iload (i := 6) (by decide +kernel) rfl ?_
          refine sX_iaload (by decide +kernel) (fun x10 => ?_)
          refine sX_bipush (n := 99) (v := (99 : Int32)) (by decide +kernel) (by decide) ?_
          refine sX_icgt (o := 7) (t := 257) (by decide +kernel) (by decide) (fun _ => ?_) (fun _ => ?_)
          · exact sX.le (xB257 v6 M7) (sLe_s (sLe_s (sLe_s (sLe_s (sLe_n (sLe_n (sLe_s (sLe_n sLe_e))))))))
          · refine sX_iconst (n := 1) (v := (1 : Int32)) (by decide +kernel) (by decide) ?_
            refine sX_goto (o := 4) (t := 258) (by decide +kernel) (by decide) ?_
            exact sX.le (xB258 v6 ((1 : Int32)) M7) (sLe_s (sLe_s (sLe_s (sLe_s (sLe_n (sLe_n (sLe_s (sLe_n sLe_e))))))))
    exact fun a => xK204 a.1 a.2.1 a.2.2
  have xB201 : ∀ (v0 : Nat) (v1 : Int32) (v2 : Int32) (v3 : Int32) (v5 : Int32) (M : sMem), sX G l 4 yX11_readImage cX11_readImage 8 (some .boolean) M0 r M' 201 [some (.ref v0), some (.int v1), some (.int v2), some (.int v3), none, some (.int v5), none, none] [] M (f_X11_readImage_B201 v0 v1 v2 v3 v5 M) K := by
    intro v0 v1 v2 v3 v5 M
    unfold f_X11_readImage_B201
    refine sX_iconst (n := 0) (v := (0 : Int32)) (by decide +kernel) (by decide) ?_
    refine sX_istore (i := 6) (ls2 := [some (.ref v0), some (.int v1), some (.int v2), some (.int v3), none, some (.int v5), some (.int (0 : Int32)), none]) (by decide +kernel) (by decide) rfl ?_
    exact sX.le (xL204 v0 v1 v2 v3 v5 ((0 : Int32)) M) (sLe_s (sLe_s (sLe_s (sLe_s (sLe_n (sLe_s (sLe_s (sLe_n sLe_e))))))))
  have xL130 : ∀ (v0 : Nat) (v1 : Int32) (v2 : Int32) (v3 : Int32) (v5 : Int32) (v6 : Int32) (M : sMem), sX G l 4 yX11_readImage cX11_readImage 8 (some .boolean) M0 r M' 130 [some (.ref v0), some (.int v1), some (.int v2), some (.int v3), none, some (.int v5), some (.int v6), none] [] M (f_X11_readImage_L130 v0 v1 v2 v3 v5 v6 M) K := by
    intro v0 v1 v2 v3 v5 v6 M
    unfold f_X11_readImage_L130
    refine sX_bind ?_
    refine sX_loop (LS := fun a : (Int32 × Int32 × sMem) => [some (.ref v0), some (.int v1), some (.int v2), some (.int v3), none, some (.int a.1), some (.int a.2.1), none]) (MM := fun a => a.2.2) (fun K1 hb1 he1 => ?_) sFuel ((v5, v6, M))
    have xB191 : ∀ (v5 : Int32) (v6 : Int32) (s0 : Nat) (s1 : Int32) (s2 : Int32) (M : sMem), sX G l 4 yX11_readImage cX11_readImage 8 (some .boolean) M0 r M' 191 [some (.ref v0), some (.int v1), some (.int v2), some (.int v3), none, some (.int v5), some (.int v6), none] [.int s2, .int s1, .ref s0] M (f_X11_readImage_B191 v0 v1 v2 v3 v5 v6 s0 s1 s2 M) K1 := by
      intro v5 v6 s0 s1 s2 M
      unfold f_X11_readImage_B191
      refine sX_ior (by decide +kernel) ?_
      refine sX_putI lf_X11_149 tp_8_1 (by decide +kernel) (by decide) (fun M11 => ?_)
      refine sX_iinc (i := 6) (n := 1) (v := v6 + (1 : Int32)) (ls2 := [some (.ref v0), some (.int v1), some (.int v2), some (.int v3), none, some (.int v5), some (.int (v6 + (1 : Int32))), none]) (by decide +kernel) rfl rfl (by decide) rfl ?_
      refine sX_goto (o := -68) (t := 130) (by decide +kernel) (by decide) ?_
      exact sX_back (a := (v5, ((v6 + (1 : Int32))), M11)) hb1 rfl (sLe_s (sLe_s (sLe_s (sLe_s (sLe_n (sLe_s (sLe_s (sLe_n sLe_e))))))))
    have xB167 : ∀ (v6 : Int32) (v7 : Int32) (s0 : Int32) (M : sMem), sX G l 4 yX11_readImage cX11_readImage 8 (some .boolean) M0 r M' 167 [some (.ref v0), some (.int v1), some (.int v2), some (.int v3), none, none, some (.int v6), some (.int v7)] [.int s0] M (f_X11_readImage_B167 v0 v1 v2 v3 v6 v7 s0 M) K1 := by
      intro v6 v7 s0 M
      unfold f_X11_readImage_B167
      refine sX_istore (i := 5) (ls2 := [some (.ref v0), some (.int v1), some (.int v2), some (.int v3), none, some (.int s0), some (.int v6), some (.int v7)]) (by decide +kernel) (by decide) rfl ?_
      refine sX_aload_n (i := 0) (by decide +kernel) rfl ?_
      refine sX_getR lf_X11_42 tk_11_5 (by decide +kernel) (fun x12 => ?_)
      refine sX_dup (by decide +kernel) rfl ?_
      refine sX_getI lf_X11_149 tk_8_1 (by decide +kernel) (fun x13 => ?_)
      refine sX_iload (i := 7) (by decide +kernel) rfl ?_
      refine sX_iconst (n := 1) (v := (1 : Int32)) (by decide +kernel) (by decide) ?_
      refine sX_icne (o := 10) (t := 190) (by decide +kernel) (by decide) (fun _ => ?_) (fun _ => ?_)
      · refine sX_iconst (n := 1) (v := (1 : Int32)) (by decide +kernel) (by decide) ?_
        refine sX_iload (i := 6) (by decide +kernel) rfl ?_
        refine sX_ishl (by decide +kernel) ?_
        refine sX_goto (o := 4) (t := 191) (by decide +kernel) (by decide) ?_
        exact sX.le (xB191 s0 v6 x12 x13 (((1 : Int32) <<< (v6 &&& 31))) M) (sLe_s (sLe_s (sLe_s (sLe_s (sLe_n (sLe_s (sLe_s (sLe_n sLe_e))))))))
      · refine sX_iconst (n := 0) (v := (0 : Int32)) (by decide +kernel) (by decide) ?_
        exact sX.le (xB191 s0 v6 x12 x13 ((0 : Int32)) M) (sLe_s (sLe_s (sLe_s (sLe_s (sLe_n (sLe_s (sLe_s (sLe_n sLe_e))))))))
    have xB166 : ∀ (v6 : Int32) (v7 : Int32) (M : sMem), sX G l 4 yX11_readImage cX11_readImage 8 (some .boolean) M0 r M' 166 [some (.ref v0), some (.int v1), some (.int v2), some (.int v3), none, none, some (.int v6), some (.int v7)] [] M (f_X11_readImage_B166 v0 v1 v2 v3 v6 v7 M) K1 := by
      intro v6 v7 M
      unfold f_X11_readImage_B166
      refine sX_iconst (n := 0) (v := (0 : Int32)) (by decide +kernel) (by decide) ?_
      exact sX.le (xB167 v6 v7 ((0 : Int32)) M) (sLe_s (sLe_s (sLe_s (sLe_s (sLe_n (sLe_n (sLe_s (sLe_s sLe_e))))))))
    have xK130 : ∀ (v5 : Int32) (v6 : Int32) (M : sMem), sX G l 4 yX11_readImage cX11_readImage 8 (some .boolean) M0 r M' 130 [some (.ref v0), some (.int v1), some (.int v2), some (.int v3), none, some (.int v5), some (.int v6), none] [] M (f_X11_readImage_K130 v0 v1 v2 v3 v5 v6 M) K1 := by
      intro v5 v6 M
      unfold f_X11_readImage_K130
      refine sX_iload (i := 6) (by decide +kernel) rfl ?_
      refine sX_iload_n (i := 1) (by decide +kernel) rfl ?_
      refine sX_icge (o := 68) (t := 201) (by decide +kernel) (by decide) (fun _ => ?_) (fun _ => ?_)
      · refine sX_exit he1 ?_
        exact sX.le (xB201 v0 v1 v2 v3 v5 M) (sLe_s (sLe_s (sLe_s (sLe_s (sLe_n (sLe_s (sLe_n (sLe_n sLe_e))))))))
      · refine sX_aload_n (i := 0) (by decide +kernel) rfl ?_
        refine sX_getR lf_X11_12 tk_11_0 (by decide +kernel) (fun x14 => ?_)
        refine sX_iconst (n := 2) (v := (2 : Int32)) (by decide +kernel) (by decide) ?_
        refine sX_iload (i := 6) (by decide +kernel) rfl ?_
        refine sX_iadd (by decide +kernel) ?_
        refine sX_callVp (As := [.int ((2 : Int32) + v6)]) (by decide +kernel) lm_X11_264 mf_X10_byteAt mi_X10_byteAt mc_10 (m_X10_byteAt G l x14 (((2 : Int32) + v6)) M) (fun _ h => sRc_some h) (by decide) rfl rfl (Nat.le_of_ble_eq_true rfl) (fun x15 => ?_)
        refine sX_istore (i := 7) (ls2 := [some (.ref v0), some (.int v1), some (.int v2), some (.int v3), none, some (.int v5), some (.int v6), some (.int x15)]) (by decide +kernel) (by decide) rfl ?_
        refine sX_iload (i := 5) (by decide +kernel) rfl ?_
        refine sX_ifeq (o := 15) (t := 166) (by decide +kernel) (by decide) (fun _ => ?_) (fun _ => ?_)
        · exact sX.le (xB166 v6 x15 M) (sLe_s (sLe_s (sLe_s (sLe_s (sLe_n (sLe_n (sLe_s (sLe_s sLe_e))))))))
        · refine sX_iload (i := 7) (by decide +kernel) rfl ?_
          refine sX_callSp (As := [.int x15]) (by decide +kernel) lm_X11_353 mf_X11_isFlag ms_X11_isFlag (m_X11_isFlag G l x15 M) (by decide) rfl rfl (Nat.le_of_ble_eq_true rfl) (fun x16 => ?_)
          refine sX_ifeq (o := 7) (t := 166) (by decide +kernel) (by decide) (fun _ => ?_) (fun _ => ?_)
          · exact sX.le (xB166 v6 x15 M) (sLe_s (sLe_s (sLe_s (sLe_s (sLe_n (sLe_n (sLe_s (sLe_s sLe_e))))))))
          · refine sX_iconst (n := 1) (v := (1 : Int32)) (by decide +kernel) (by decide) ?_
            refine sX_goto (o := 4) (t := 167) (by decide +kernel) (by decide) ?_
            exact sX.le (xB167 v6 x15 ((1 : Int32)) M) (sLe_s (sLe_s (sLe_s (sLe_s (sLe_n (sLe_n (sLe_s (sLe_s sLe_e))))))))
    exact fun a => xK130 a.1 a.2.1 a.2.2
  have xB125 : ∀ (v0 : Nat) (v1 : Int32) (v2 : Int32) (v3 : Int32) (s0 : Int32) (M : sMem), sX G l 4 yX11_readImage cX11_readImage 8 (some .boolean) M0 r M' 125 [some (.ref v0), some (.int v1), some (.int v2), some (.int v3), none, none, none, none] [.int s0] M (f_X11_readImage_B125 v0 v1 v2 v3 s0 M) K := by
    intro v0 v1 v2 v3 s0 M
    unfold f_X11_readImage_B125
    refine sX_istore (i := 5) (ls2 := [some (.ref v0), some (.int v1), some (.int v2), some (.int v3), none, some (.int s0), none, none]) (by decide +kernel) (by decide) rfl ?_
    refine sX_iconst (n := 0) (v := (0 : Int32)) (by decide +kernel) (by decide) ?_
    refine sX_istore (i := 6) (ls2 := [some (.ref v0), some (.int v1), some (.int v2), some (.int v3), none, some (.int s0), some (.int (0 : Int32)), none]) (by decide +kernel) (by decide) rfl ?_
    exact sX.le (xL130 v0 v1 v2 v3 s0 ((0 : Int32)) M) (sLe_s (sLe_s (sLe_s (sLe_s (sLe_n (sLe_s (sLe_s (sLe_n sLe_e))))))))
  have xB95 : ∀ (v0 : Nat) (v1 : Int32) (v2 : Int32) (v3 : Int32) (M : sMem), sX G l 4 yX11_readImage cX11_readImage 8 (some .boolean) M0 r M' 95 [some (.ref v0), some (.int v1), some (.int v2), some (.int v3), none, none, none, none] [] M (f_X11_readImage_B95 v0 v1 v2 v3 M) K := by
    intro v0 v1 v2 v3 M
    unfold f_X11_readImage_B95
    refine sX_aload_n (i := 0) (by decide +kernel) rfl ?_
    refine sX_getR lf_X11_42 tk_11_5 (by decide +kernel) (fun x17 => ?_)
    refine sX_aload_n (i := 0) (by decide +kernel) rfl ?_
    refine sX_iconst (n := 0) (v := (0 : Int32)) (by decide +kernel) (by decide) ?_
    refine sX_callVp (As := [.int (0 : Int32)]) (by decide +kernel) lm_X11_388 mf_X11_pairAt mi_X11_pairAt mc_11 (m_X11_pairAt G l v0 ((0 : Int32)) M) (fun _ h => sRc_some h) (by decide) rfl rfl (Nat.le_of_ble_eq_true rfl) (fun x18 => ?_)
    refine sX_putI lf_X11_146 tp_8_0 (by decide +kernel) (by decide) (fun M19 => ?_)
    refine sX_aload_n (i := 0) (by decide +kernel) rfl ?_
    refine sX_getR lf_X11_42 tk_11_5 (by decide +kernel) (fun x20 => ?_)
    refine sX_getI lf_X11_146 tk_8_0 (by decide +kernel) (fun x21 => ?_)
    refine sX_sipush (n := 999) (v := (999 : Int32)) (by decide +kernel) (by decide) ?_
    refine sX_icgt (o := 7) (t := 124) (by decide +kernel) (by decide) (fun _ => ?_) (fun _ => ?_)
    · refine sX_iconst (n := 0) (v := (0 : Int32)) (by decide +kernel) (by decide) ?_
      exact sX.le (xB125 v0 v1 v2 v3 ((0 : Int32)) M19) (sLe_s (sLe_s (sLe_s (sLe_s (sLe_n (sLe_n (sLe_n (sLe_n sLe_e))))))))
    · refine sX_iconst (n := 1) (v := (1 : Int32)) (by decide +kernel) (by decide) ?_
      refine sX_goto (o := 4) (t := 125) (by decide +kernel) (by decide) ?_
      exact sX.le (xB125 v0 v1 v2 v3 ((1 : Int32)) M19) (sLe_s (sLe_s (sLe_s (sLe_s (sLe_n (sLe_n (sLe_n (sLe_n sLe_e))))))))
  refine sX_rc ?_
  refine sX_aload_n (i := 0) (by decide +kernel) rfl ?_
  refine sX_getR lf_X11_28 tk_11_2 (by decide +kernel) (fun x22 => ?_)
  refine sX_getR lf_X11_125 tk_1_1 (by decide +kernel) (fun x23 => ?_)
  refine sX_getI lf_X11_129 tk_9_3 (by decide +kernel) (fun x24 => ?_)
  refine sX_istore_n (i := 1) (ls2 := [some (.ref v0), some (.int x24), none, none, none, none, none, none]) (by decide +kernel) (by decide) rfl ?_
  refine sX_aload_n (i := 0) (by decide +kernel) rfl ?_
  refine sX_getR lf_X11_28 tk_11_2 (by decide +kernel) (fun x25 => ?_)
  refine sX_getR lf_X11_140 tk_1_4 (by decide +kernel) (fun x26 => ?_)
  refine sX_getI lf_X11_129 tk_9_3 (by decide +kernel) (fun x27 => ?_)
  refine sX_istore_n (i := 2) (ls2 := [some (.ref v0), some (.int x24), some (.int x27), none, none, none, none, none]) (by decide +kernel) (by decide) rfl ?_
  refine sX_aload_n (i := 0) (by decide +kernel) rfl ?_
  refine sX_getR lf_X11_28 tk_11_2 (by decide +kernel) (fun x28 => ?_)
  refine sX_getR lf_X11_143 tk_1_5 (by decide +kernel) (fun x29 => ?_)
  refine sX_getI lf_X11_129 tk_9_3 (by decide +kernel) (fun x30 => ?_)
  refine sX_istore_n (i := 3) (ls2 := [some (.ref v0), some (.int x24), some (.int x27), some (.int x30), none, none, none, none]) (by decide +kernel) (by decide) rfl ?_
  refine sX_iconst (n := 2) (v := (2 : Int32)) (by decide +kernel) (by decide) ?_
  refine sX_iload_n (i := 1) (by decide +kernel) rfl ?_
  refine sX_iadd (by decide +kernel) ?_
  refine sX_iload_n (i := 2) (by decide +kernel) rfl ?_
  refine sX_iadd (by decide +kernel) ?_
  refine sX_iconst (n := 4) (v := (4 : Int32)) (by decide +kernel) (by decide) ?_
  refine sX_iload_n (i := 3) (by decide +kernel) rfl ?_
  refine sX_imul (by decide +kernel) ?_
  refine sX_iadd (by decide +kernel) ?_
  refine sX_istore (i := 4) (ls2 := [some (.ref v0), some (.int x24), some (.int x27), some (.int x30), some (.int ((((2 : Int32) + x24) + x27) + ((4 : Int32) * x30))), none, none, none]) (by decide +kernel) (by decide) rfl ?_
  refine sX_aload_n (i := 0) (by decide +kernel) rfl ?_
  refine sX_getR lf_X11_12 tk_11_0 (by decide +kernel) (fun x31 => ?_)
  refine sX_getI lf_X11_89 tk_10_1 (by decide +kernel) (fun x32 => ?_)
  refine sX_iload (i := 4) (by decide +kernel) rfl ?_
  refine sX_iconst (n := 1) (v := (1 : Int32)) (by decide +kernel) (by decide) ?_
  refine sX_iadd (by decide +kernel) ?_
  refine sX_icne (o := 27) (t := 82) (by decide +kernel) (by decide) (fun _ => ?_) (fun _ => ?_)
  · refine sX_aload_n (i := 0) (by decide +kernel) rfl ?_
    refine sX_getR lf_X11_12 tk_11_0 (by decide +kernel) (fun x33 => ?_)
    refine sX_iload (i := 4) (by decide +kernel) rfl ?_
    refine sX_callVp (As := [.int ((((2 : Int32) + x24) + x27) + ((4 : Int32) * x30))]) (by decide +kernel) lm_X11_264 mf_X10_byteAt mi_X10_byteAt mc_10 (m_X10_byteAt G l x33 (((((2 : Int32) + x24) + x27) + ((4 : Int32) * x30))) M0) (fun _ h => sRc_some h) (by decide) rfl rfl (Nat.le_of_ble_eq_true rfl) (fun x34 => ?_)
    refine sX_aload_n (i := 0) (by decide +kernel) rfl ?_
    refine sX_getR lf_X11_12 tk_11_0 (by decide +kernel) (fun x35 => ?_)
    refine sX_getR lf_X11_385 tk_10_0 (by decide +kernel) (fun x36 => ?_)
    refine sX_iload (i := 4) (by decide +kernel) rfl ?_
    refine sX_callSp (As := [.ref x36, .int ((((2 : Int32) + x24) + x27) + ((4 : Int32) * x30))]) (by decide +kernel) lm_X11_333 mf_X11_imageSum ms_X11_imageSum (m_X11_imageSum G l x36 (((((2 : Int32) + x24) + x27) + ((4 : Int32) * x30))) M0) (by decide) rfl rfl (Nat.le_of_ble_eq_true rfl) (fun x37 => ?_)
    refine sX_iceq (o := 5) (t := 84) (by decide +kernel) (by decide) (fun _ => ?_) (fun _ => ?_)
    · refine sX_aload_n (i := 0) (by decide +kernel) rfl ?_
      refine sX_getR lf_X11_42 tk_11_5 (by decide +kernel) (fun x38 => ?_)
      refine sX_aload_n (i := 0) (by decide +kernel) rfl ?_
      refine sX_getR lf_X11_28 tk_11_2 (by decide +kernel) (fun x39 => ?_)
      refine sX_callVv (As := [.ref x39]) (by decide +kernel) lm_X11_107 mf_X8_start mi_X8_start mc_8 (m_X8_start G l x38 x39 M0) (fun _ h => sRc_some h) (by decide) rfl rfl (Nat.le_of_ble_eq_true rfl) (fun M40 => ?_)
      exact sX.le (xB95 v0 x24 x27 x30 M40) (sLe_s (sLe_s (sLe_s (sLe_s (sLe_n (sLe_n (sLe_n (sLe_n sLe_e))))))))
    · refine sX_iconst (n := 0) (v := (0 : Int32)) (by decide +kernel) (by decide) ?_
      exact sX_some (fun h _ => sW_zret (by decide +kernel) rfl (by decide) (hr _ h).1.symm (hr _ h).2.symm)
  · refine sX_iconst (n := 0) (v := (0 : Int32)) (by decide +kernel) (by decide) ?_
    exact sX_some (fun h _ => sW_zret (by decide +kernel) rfl (by decide) (hr _ h).1.symm (hr _ h).2.symm)
def f_X11_on_B19 (v0 : Nat) (s0 : Int32) (M : sMem) : Option (Int32 × sMem) :=
  (gR 11 20 0 M v0).bind fun x1 =>
  (pI 10 10 1 M x1 ((0 : Int32))).bind fun M2 =>
  if s0 = 0 then
    (f_X11_refuse v0 ((5 : Int32)) M2).bind fun (x3, M4) =>
    some (((0 : Int32), M4))
  else
    (gR 11 20 4 M2 v0).bind fun x5 =>
    (gR 11 20 5 M2 v0).bind fun x6 =>
    (f_X8_copy x5 x6 M2).bind fun M7 =>
    (pI 11 20 7 M7 v0 ((0 : Int32))).bind fun M8 =>
    some (((1 : Int32), M8))
def f_X11_on_B18 (v0 : Nat) (M : sMem) : Option (Int32 × sMem) :=
  f_X11_on_B19 v0 ((0 : Int32)) M
def f_X11_on (v0 : Nat) (M0 : sMem) : Option (Int32 × sMem) :=
  sRc 11 20 M0 v0 (
    (f_X11_isTold v0 M0).bind fun x9 =>
    if x9 = 0 then
      f_X11_on_B18 v0 M0
    else
      (f_X11_readImage v0 M0).bind fun (x10, M11) =>
      if x10 = 0 then
        f_X11_on_B18 v0 M11
      else
        f_X11_on_B19 v0 ((1 : Int32)) M11)
set_option maxRecDepth 100000 in
set_option maxHeartbeats 4000000 in
theorem m_X11_on (G : sG) (l : Launch) (v0 : Nat) (M0 : sMem) : sC G l 5 yX11_on cX11_on 2 (some .boolean) [.ref v0] M0 rvI (f_X11_on v0 M0) := by
  refine sC_m (ls := [some (.ref v0), none]) (by decide +kernel) rfl (Nat.le_of_ble_eq_true rfl) (fun r M' K hr => ?_)
  unfold f_X11_on
  have xB19 : ∀ (v0 : Nat) (s0 : Int32) (M : sMem), sX G l 5 yX11_on cX11_on 2 (some .boolean) M0 r M' 19 [some (.ref v0), none] [.int s0] M (f_X11_on_B19 v0 s0 M) K := by
    intro v0 s0 M
    unfold f_X11_on_B19
    refine sX_istore_n (i := 1) (ls2 := [some (.ref v0), some (.int s0)]) (by decide +kernel) (by decide) rfl ?_
    refine sX_aload_n (i := 0) (by decide +kernel) rfl ?_
    refine sX_getR lf_X11_12 tk_11_0 (by decide +kernel) (fun x1 => ?_)
    refine sX_iconst (n := 0) (v := (0 : Int32)) (by decide +kernel) (by decide) ?_
    refine sX_putI lf_X11_89 tp_10_1 (by decide +kernel) (by decide) (fun M2 => ?_)
    refine sX_iload_n (i := 1) (by decide +kernel) rfl ?_
    refine sX_ifne (o := 11) (t := 40) (by decide +kernel) (by decide) (fun _ => ?_) (fun _ => ?_)
    · refine sX_aload_n (i := 0) (by decide +kernel) rfl ?_
      refine sX_iconst (n := 5) (v := (5 : Int32)) (by decide +kernel) (by decide) ?_
      refine sX_callV (As := [.int (5 : Int32)]) (by decide +kernel) lm_X11_92 mf_X11_refuse mi_X11_refuse mc_11 (m_X11_refuse G l v0 ((5 : Int32)) M2) (fun _ h => sRc_some h) (by decide) rfl rfl (Nat.le_of_ble_eq_true rfl) (fun x3 M4 _ => ?_)
      refine sX_pop (by decide +kernel) rfl ?_
      refine sX_iconst (n := 0) (v := (0 : Int32)) (by decide +kernel) (by decide) ?_
      exact sX_some (fun h _ => sW_zret (by decide +kernel) rfl (by decide) (hr _ h).1.symm (hr _ h).2.symm)
    · refine sX_aload_n (i := 0) (by decide +kernel) rfl ?_
      refine sX_getR lf_X11_38 tk_11_4 (by decide +kernel) (fun x5 => ?_)
      refine sX_aload_n (i := 0) (by decide +kernel) rfl ?_
      refine sX_getR lf_X11_42 tk_11_5 (by decide +kernel) (fun x6 => ?_)
      refine sX_callVv (As := [.ref x6]) (by decide +kernel) lm_X11_301 mf_X8_copy mi_X8_copy mc_8 (m_X8_copy G l x5 x6 M2) (fun _ h => sRc_some h) (by decide) rfl rfl (Nat.le_of_ble_eq_true rfl) (fun M7 => ?_)
      refine sX_aload_n (i := 0) (by decide +kernel) rfl ?_
      refine sX_iconst (n := 0) (v := (0 : Int32)) (by decide +kernel) (by decide) ?_
      refine sX_putI lf_X11_110 tp_11_7 (by decide +kernel) (by decide) (fun M8 => ?_)
      refine sX_iconst (n := 1) (v := (1 : Int32)) (by decide +kernel) (by decide) ?_
      exact sX_some (fun h _ => sW_zret (by decide +kernel) rfl (by decide) (hr _ h).1.symm (hr _ h).2.symm)
  have xB18 : ∀ (v0 : Nat) (M : sMem), sX G l 5 yX11_on cX11_on 2 (some .boolean) M0 r M' 18 [some (.ref v0), none] [] M (f_X11_on_B18 v0 M) K := by
    intro v0 M
    unfold f_X11_on_B18
    refine sX_iconst (n := 0) (v := (0 : Int32)) (by decide +kernel) (by decide) ?_
    exact sX.le (xB19 v0 ((0 : Int32)) M) (sLe_s (sLe_n sLe_e))
  refine sX_rc ?_
  refine sX_aload_n (i := 0) (by decide +kernel) rfl ?_
  refine sX_callVp (As := []) (by decide +kernel) lm_X11_249 mf_X11_isTold mi_X11_isTold mc_11 (m_X11_isTold G l v0 M0) (fun _ h => sRc_some h) (by decide) rfl rfl (Nat.le_of_ble_eq_true rfl) (fun x9 => ?_)
  refine sX_ifeq (o := 14) (t := 18) (by decide +kernel) (by decide) (fun _ => ?_) (fun _ => ?_)
  · exact sX.le (xB18 v0 M0) (sLe_s (sLe_n sLe_e))
  · refine sX_aload_n (i := 0) (by decide +kernel) rfl ?_
    refine sX_callV (As := []) (by decide +kernel) lm_X11_337 mf_X11_readImage mi_X11_readImage mc_11 (m_X11_readImage G l v0 M0) (fun _ h => sRc_some h) (by decide) rfl rfl (Nat.le_of_ble_eq_true rfl) (fun x10 M11 _ => ?_)
    refine sX_ifeq (o := 7) (t := 18) (by decide +kernel) (by decide) (fun _ => ?_) (fun _ => ?_)
    · exact sX.le (xB18 v0 M11) (sLe_s (sLe_n sLe_e))
    · refine sX_iconst (n := 1) (v := (1 : Int32)) (by decide +kernel) (by decide) ?_
      refine sX_goto (o := 4) (t := 19) (by decide +kernel) (by decide) ?_
      exact sX.le (xB19 v0 ((1 : Int32)) M11) (sLe_s (sLe_n sLe_e))
def f_X11_status (v0 : Nat) (v1 : Int32) (M0 : sMem) : Option Int32 :=
  sRc 11 20 M0 v0 (
    if v1 < 0 then
      some ((-1 : Int32))
    else
      if (6 : Int32) ≤ v1 then
        some ((-1 : Int32))
      else
        (gR 11 20 18 M0 v0).bind fun x1 =>
        (ldI 14 M0 x1 v1).bind fun x2 =>
        some x2)
set_option maxRecDepth 100000 in
set_option maxHeartbeats 4000000 in
theorem m_X11_status (G : sG) (l : Launch) (v0 : Nat) (v1 : Int32) (M0 : sMem) : sCp G l 1 yX11_status cX11_status 2 (some .int) [.ref v0, .int v1] M0 rvI (f_X11_status v0 v1 M0) := by
  refine sC_p (ls := [some (.ref v0), some (.int v1)]) (by decide +kernel) rfl (Nat.le_of_ble_eq_true rfl) (fun r M' K hr => ?_)
  unfold f_X11_status
  refine sX_rc ?_
  refine sX_iload_n (i := 1) (by decide +kernel) rfl ?_
  refine sX_iflt (o := 18) (t := 19) (by decide +kernel) (by decide) (fun _ => ?_) (fun _ => ?_)
  · refine sX_iconst (n := -1) (v := (-1 : Int32)) (by decide +kernel) (by decide) ?_
    exact sX_some (fun h _ => sW_iret (by decide +kernel) rfl (hr _ h).1.symm (hr _ h).2.symm)
  · refine sX_iload_n (i := 1) (by decide +kernel) rfl ?_
    refine sX_bipush (n := 6) (v := (6 : Int32)) (by decide +kernel) (by decide) ?_
    refine sX_icge (o := 12) (t := 19) (by decide +kernel) (by decide) (fun _ => ?_) (fun _ => ?_)
    · refine sX_iconst (n := -1) (v := (-1 : Int32)) (by decide +kernel) (by decide) ?_
      exact sX_some (fun h _ => sW_iret (by decide +kernel) rfl (hr _ h).1.symm (hr _ h).2.symm)
    · refine sX_aload_n (i := 0) (by decide +kernel) rfl ?_
      refine sX_getR lf_X11_82 tk_11_18 (by decide +kernel) (fun x1 => ?_)
      refine sX_iload_n (i := 1) (by decide +kernel) rfl ?_
      refine sX_iaload (by decide +kernel) (fun x2 => ?_)
      refine sX_goto (o := 4) (t := 20) (by decide +kernel) (by decide) ?_
      exact sX_some (fun h _ => sW_iret (by decide +kernel) rfl (hr _ h).1.symm (hr _ h).2.symm)
