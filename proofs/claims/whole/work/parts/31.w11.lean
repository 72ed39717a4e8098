def f_X12_isIn (v0 : Int64) (v2 : Int64) (v4 : Int64) (M0 : sMem) : Option Int32 :=
  if v0 < v2 then
    some ((0 : Int32))
  else
    if v4 < v0 then
      some ((0 : Int32))
    else
      some ((1 : Int32))
set_option maxRecDepth 100000 in
set_option maxHeartbeats 4000000 in
theorem m_X12_isIn (G : sG) (l : Launch) (v0 : Int64) (v2 : Int64) (v4 : Int64) (M0 : sMem) : sCp G l 1 yX12_isIn cX12_isIn 6 (some .boolean) [.long v0, .long v2, .long v4] M0 rvI (f_X12_isIn v0 v2 v4 M0) := by
  refine sC_p (ls := [some (.long v0), none, some (.long v2), none, some (.long v4), none]) (by decide +kernel) rfl (Nat.le_of_ble_eq_true rfl) (fun r M' K hr => ?_)
  unfold f_X12_isIn
  refine sX_lload_n (i := 0) (by decide +kernel) rfl ?_
  refine sX_lload_n (i := 2) (by decide +kernel) rfl ?_
  refine sX_lclt (o := 14) (t := 17) (by decide +kernel) (by decide +kernel) (by decide) (fun _ => ?_) (fun _ => ?_)
  · refine sX_iconst (n := 0) (v := (0 : Int32)) (by decide +kernel) (by decide) ?_
    exact sX_some (fun h _ => sW_zret (by decide +kernel) rfl (by decide) (hr _ h).1.symm (hr _ h).2.symm)
  · refine sX_lload_n (i := 0) (by decide +kernel) rfl ?_
    refine sX_lload (i := 4) (by decide +kernel) rfl ?_
    refine sX_lcgt (o := 7) (t := 17) (by decide +kernel) (by decide +kernel) (by decide) (fun _ => ?_) (fun _ => ?_)
    · refine sX_iconst (n := 0) (v := (0 : Int32)) (by decide +kernel) (by decide) ?_
      exact sX_some (fun h _ => sW_zret (by decide +kernel) rfl (by decide) (hr _ h).1.symm (hr _ h).2.symm)
    · refine sX_iconst (n := 1) (v := (1 : Int32)) (by decide +kernel) (by decide) ?_
      refine sX_goto (o := 4) (t := 18) (by decide +kernel) (by decide) ?_
      exact sX_some (fun h _ => sW_zret (by decide +kernel) rfl (by decide) (hr _ h).1.symm (hr _ h).2.symm)
def f_X12_cut (v0 : Int64) (v2 : Int32) (M0 : sMem) : Option Int32 :=
  if (0 : Int64) ≤ v0 then
    if v0 ≤ v2.toInt64 then
      some v0.toInt32
    else
      some v2
  else
    some ((0 : Int32))
set_option maxRecDepth 100000 in
set_option maxHeartbeats 4000000 in
theorem m_X12_cut (G : sG) (l : Launch) (v0 : Int64) (v2 : Int32) (M0 : sMem) : sCp G l 1 yX12_cut cX12_cut 3 (some .int) [.long v0, .int v2] M0 rvI (f_X12_cut v0 v2 M0) := by
  refine sC_p (ls := [some (.long v0), none, some (.int v2)]) (by decide +kernel) rfl (Nat.le_of_ble_eq_true rfl) (fun r M' K hr => ?_)
  unfold f_X12_cut
  refine sX_lload_n (i := 0) (by decide +kernel) rfl ?_
  refine sX_lconst (n := 0) (v := (0 : Int64)) (by decide +kernel) (by decide) ?_
  refine sX_lcge (o := 7) (t := 10) (by decide +kernel) (by decide +kernel) (by decide) (fun _ => ?_) (fun _ => ?_)
  · refine sX_lload_n (i := 0) (by decide +kernel) rfl ?_
    refine sX_iload_n (i := 2) (by decide +kernel) rfl ?_
    refine sX_i2l (by decide +kernel) ?_
    refine sX_lcle (o := 7) (t := 21) (by decide +kernel) (by decide +kernel) (by decide) (fun _ => ?_) (fun _ => ?_)
    · refine sX_lload_n (i := 0) (by decide +kernel) rfl ?_
      refine sX_l2i (by decide +kernel) ?_
      exact sX_some (fun h _ => sW_iret (by decide +kernel) rfl (hr _ h).1.symm (hr _ h).2.symm)
    · refine sX_iload_n (i := 2) (by decide +kernel) rfl ?_
      refine sX_goto (o := 5) (t := 23) (by decide +kernel) (by decide) ?_
      exact sX_some (fun h _ => sW_iret (by decide +kernel) rfl (hr _ h).1.symm (hr _ h).2.symm)
  · refine sX_iconst (n := 0) (v := (0 : Int32)) (by decide +kernel) (by decide) ?_
    refine sX_goto (o := 16) (t := 23) (by decide +kernel) (by decide) ?_
    exact sX_some (fun h _ => sW_iret (by decide +kernel) rfl (hr _ h).1.symm (hr _ h).2.symm)
def f_X12_feed_B124 (v0 : Nat) (M : sMem) : Option (Int32 × sMem) :=
  (gI 12 127 1 M v0).bind fun x1 =>
  some ((x1, M))
def f_X12_feed_B81 (v0 : Nat) (v1 : Int32) (v2 : Int32) (v3 : Int32) (v4 : Int32) (v5 : Int32) (v6 : Int32) (s0 : Int32) (M : sMem) : Option ((Int32 × sMem) ⊕ ((sMem))) :=
  (gR 12 127 0 M v0).bind fun x2 =>
  (gI 12 127 1 M v0).bind fun x3 =>
  (stI M x2 x3 (((s0 >>> (((8 : Int32) * ((3 : Int32) - (v6 - v6 / (4 : Int32) * (4 : Int32)))) &&& 31)) &&& (255 : Int32)))).bind fun M4 =>
  (gI 12 127 1 M4 v0).bind fun x5 =>
  (pI 12 127 1 M4 v0 ((x5 + (1 : Int32)))).bind fun M6 =>
  some (.inl ((((v6 + (1 : Int32))), M6)))
def f_X12_feed_K28 (v0 : Nat) (v1 : Int32) (v2 : Int32) (v3 : Int32) (v4 : Int32) (v5 : Int32) (v6 : Int32) (M : sMem) : Option ((Int32 × sMem) ⊕ ((sMem))) :=
  if (20 : Int32) ≤ v6 then
    some (.inr M)
  else
    if (4 : Int32) ≤ v6 then
      if (8 : Int32) ≤ v6 then
        if (12 : Int32) ≤ v6 then
          if (16 : Int32) ≤ v6 then
            f_X12_feed_B81 v0 v1 v2 v3 v4 v5 v6 v5 M
          else
            f_X12_feed_B81 v0 v1 v2 v3 v4 v5 v6 v4 M
        else
          f_X12_feed_B81 v0 v1 v2 v3 v4 v5 v6 v3 M
      else
        f_X12_feed_B81 v0 v1 v2 v3 v4 v5 v6 v2 M
    else
      f_X12_feed_B81 v0 v1 v2 v3 v4 v5 v6 v1 M
def f_X12_feed_L28 (v0 : Nat) (v1 : Int32) (v2 : Int32) (v3 : Int32) (v4 : Int32) (v5 : Int32) (v6 : Int32) (M : sMem) : Option (Int32 × sMem) :=
  (sItr (fun a : (Int32 × sMem) => f_X12_feed_K28 v0 v1 v2 v3 v4 v5 a.1 a.2) sFuel (v6, M)).bind (fun b => f_X12_feed_B124 v0 b)
def f_X12_feed (v0 : Nat) (v1 : Int32) (v2 : Int32) (v3 : Int32) (v4 : Int32) (v5 : Int32) (M0 : sMem) : Option (Int32 × sMem) :=
  sRc 12 127 M0 v0 (
    (gI 12 127 1 M0 v0).bind fun x7 =>
    if (x7 + (20 : Int32)) ≤ (1600 : Int32) then
      f_X12_feed_L28 v0 v1 v2 v3 v4 v5 ((0 : Int32)) M0
    else
      (gR 12 127 9 M0 v0).bind fun x8 =>
      (ldI 14 M0 x8 ((0 : Int32))).bind fun x9 =>
      (stI M0 x8 ((0 : Int32)) ((x9 + (1 : Int32)))).bind fun M10 =>
      some (((-1 : Int32), M10)))
set_option maxRecDepth 100000 in
set_option maxHeartbeats 4000000 in
theorem m_X12_feed (G : sG) (l : Launch) (v0 : Nat) (v1 : Int32) (v2 : Int32) (v3 : Int32) (v4 : Int32) (v5 : Int32) (M0 : sMem) : sC G l 1 yX12_feed cX12_feed 8 (some .int) [.ref v0, .int v1, .int v2, .int v3, .int v4, .int v5] M0 rvI (f_X12_feed v0 v1 v2 v3 v4 v5 M0) := by
  refine sC_m (ls := [some (.ref v0), some (.int v1), some (.int v2), some (.int v3), some (.int v4), some (.int v5), none, none]) (by decide +kernel) rfl (Nat.le_of_ble_eq_true rfl) (fun r M' K hr => ?_)
  unfold f_X12_feed
  have xB124 : ∀ (v0 : Nat) (M : sMem), sX G l 1 yX12_feed cX12_feed 8 (some .int) M0 r M' 124 [some (.ref v0), none, none, none, none, none, none, none] [] M (f_X12_feed_B124 v0 M) K := by
    intro v0 M
    unfold f_X12_feed_B124
    refine sX_aload_n (i := 0) (by decide +kernel) rfl ?_
    refine sX_getI lf_X12_297 tk_12_1 (by decide +kernel) (fun x1 => ?_)
    exact sX_some (fun h _ => sW_iret (by decide +kernel) rfl (hr _ h).1.symm (hr _ h).2.symm)
  have xL28 : ∀ (v0 : Nat) (v1 : Int32) (v2 : Int32) (v3 : Int32) (v4 : Int32) (v5 : Int32) (v6 : Int32) (M : sMem), sX G l 1 yX12_feed cX12_feed 8 (some .int) M0 r M' 28 [some (.ref v0), some (.int v1), some (.int v2), some (.int v3), some (.int v4), some (.int v5), some (.int v6), none] [] M (f_X12_feed_L28 v0 v1 v2 v3 v4 v5 v6 M) K := by
    intro v0 v1 v2 v3 v4 v5 v6 M
    unfold f_X12_feed_L28
    refine sX_bind ?_
    refine sX_loop (LS := fun a : (Int32 × sMem) => [some (.ref v0), some (.int v1), some (.int v2), some (.int v3), some (.int v4), some (.int v5), some (.int a.1), none]) (MM := fun a => a.2) (fun K1 hb1 he1 => ?_) sFuel ((v6, M))
    have xB81 : ∀ (v6 : Int32) (s0 : Int32) (M : sMem), sX G l 1 yX12_feed cX12_feed 8 (some .int) M0 r M' 81 [some (.ref v0), some (.int v1), some (.int v2), some (.int v3), some (.int v4), some (.int v5), some (.int v6), none] [.int s0] M (f_X12_feed_B81 v0 v1 v2 v3 v4 v5 v6 s0 M) K1 := by
      intro v6 s0 M
      unfold f_X12_feed_B81
      refine sX_istore (i := 7) (ls2 := [some (.ref v0), some (.int v1), some (.int v2), some (.int v3), some (.int v4), some (.int v5), some (.int v6), some (.int s0)]) (by decide +kernel) (by decide) rfl ?_
      refine sX_aload_n (i := 0) (by decide +kernel) rfl ?_
      refine sX_getR lf_X12_7 tk_12_0 (by decide +kernel) (fun x2 => ?_)
      refine sX_aload_n (i := 0) (by decide +kernel) rfl ?_
      refine sX_getI lf_X12_297 tk_12_1 (by decide +kernel) (fun x3 => ?_)
      refine sX_iload (i := 7) (by decide +kernel) rfl ?_
      refine sX_bipush (n := 8) (v := (8 : Int32)) (by decide +kernel) (by decide) ?_
      refine sX_iconst (n := 3) (v := (3 : Int32)) (by decide +kernel) (by decide) ?_
      refine sX_iload (i := 6) (by decide +kernel) rfl ?_
      refine sX_iconst (n := 4) (v := (4 : Int32)) (by decide +kernel) (by decide) ?_
      refine sX_irem (by decide +kernel) (by decide) ?_
      refine sX_isub (by decide +kernel) ?_
      refine sX_imul (by decide +kernel) ?_
      refine sX_ishr (by decide +kernel) ?_
      refine sX_sipush (n := 255) (v := (255 : Int32)) (by decide +kernel) (by decide) ?_
      refine sX_iand (by decide +kernel) ?_
      refine sX_iastore (by decide +kernel) (by decide) (fun M4 => ?_)
      refine sX_aload_n (i := 0) (by decide +kernel) rfl ?_
      refine sX_dup (by decide +kernel) rfl ?_
      refine sX_getI lf_X12_297 tk_12_1 (by decide +kernel) (fun x5 => ?_)
      refine sX_iconst (n := 1) (v := (1 : Int32)) (by decide +kernel) (by decide) ?_
      refine sX_iadd (by decide +kernel) ?_
      refine sX_putI lf_X12_297 tp_12_1 (by decide +kernel) (by decide) (fun M6 => ?_)
      refine sX_iinc (i := 6) (n := 1) (v := v6 + (1 : Int32)) (ls2 := [some (.ref v0), some (.int v1), some (.int v2), some (.int v3), some (.int v4), some (.int v5), some (.int (v6 + (1 : Int32))), some (.int s0)]) (by decide +kernel) rfl rfl (by decide) rfl ?_
      refine sX_goto (o := -93) (t := 28) (by decide +kernel) (by decide) ?_
      exact sX_back (a := (((v6 + (1 : Int32))), M6)) hb1 rfl (sLe_s (sLe_s (sLe_s (sLe_s (sLe_s (sLe_s (sLe_s (sLe_n sLe_e))))))))
    have xK28 : ∀ (v6 : Int32) (M : sMem), sX G l 1 yX12_feed cX12_feed 8 (some .int) M0 r M' 28 [some (.ref v0), some (.int v1), some (.int v2), some (.int v3), some (.int v4), some (.int v5), some (.int v6), none] [] M (f_X12_feed_K28 v0 v1 v2 v3 v4 v5 v6 M) K1 := by
      intro v6 M
      unfold f_X12_feed_K28
      refine sX_iload (i := 6) (by decide +kernel) rfl ?_
      refine sX_bipush (n := 20) (v := (20 : Int32)) (by decide +kernel) (by decide) ?_
      refine sX_icge (o := 92) (t := 124) (by decide +kernel) (by decide) (fun _ => ?_) (fun _ => ?_)
      · refine sX_exit he1 ?_
        exact sX.le (xB124 v0 M) (sLe_s (sLe_n (sLe_n (sLe_n (sLe_n (sLe_n (sLe_n (sLe_n sLe_e))))))))
      · refine sX_iload (i := 6) (by decide +kernel) rfl ?_
        refine sX_iconst (n := 4) (v := (4 : Int32)) (by decide +kernel) (by decide) ?_
        refine sX_icge (o := 7) (t := 45) (by decide +kernel) (by decide) (fun _ => ?_) (fun _ => ?_)
        · refine sX_iload (i := 6) (by decide +kernel) rfl ?_
          refine sX_bipush (n := 8) (v := (8 : Int32)) (by decide +kernel) (by decide) ?_
          refine sX_icge (o := 7) (t := 56) (by decide +kernel) (by decide) (fun _ => ?_) (fun _ => ?_)
          · refine sX_iload (i := 6) (by decide +kernel) rfl ?_
            refine sX_bipush (n := 12) (v := (12 : Int32)) (by decide +kernel) (by decide) ?_
            refine sX_icge (o := 7) (t := 67) (by decide +kernel) (by decide) (fun _ => ?_) (fun _ => ?_)
            · refine sX_iload (i := 6) (by decide +kernel) rfl ?_
              refine sX_bipush (n := 16) (v := (16 : Int32)) (by decide +kernel) (by decide) ?_
              refine sX_icge (o := 8) (t := 79) (by decide +kernel) (by decide) (fun _ => ?_) (fun _ => ?_)
              · refine sX_iload (i := 5) (by decide +kernel) rfl ?_
                exact sX.le (xB81 v6 v5 M) (sLe_s (sLe_s (sLe_s (sLe_s (sLe_s (sLe_s (sLe_s (sLe_n sLe_e))))))))
              · refine sX_iload (i := 4) (by decide +kernel) rfl ?_
                refine sX_goto (o := 5) (t := 81) (by decide +kernel) (by decide) ?_
                exact sX.le (xB81 v6 v4 M) (sLe_s (sLe_s (sLe_s (sLe_s (sLe_s (sLe_s (sLe_s (sLe_n sLe_e))))))))
            · refine sX_iload_n (i := 3) (by decide +kernel) rfl ?_
              refine sX_goto (o := 17) (t := 81) (by decide +kernel) (by decide) ?_
              exact sX.le (xB81 v6 v3 M) (sLe_s (sLe_s (sLe_s (sLe_s (sLe_s (sLe_s (sLe_s (sLe_n sLe_e))))))))
          · refine sX_iload_n (i := 2) (by decide +kernel) rfl ?_
            refine sX_goto (o := 28) (t := 81) (by decide +kernel) (by decide) ?_
            exact sX.le (xB81 v6 v2 M) (sLe_s (sLe_s (sLe_s (sLe_s (sLe_s (sLe_s (sLe_s (sLe_n sLe_e))))))))
        · refine sX_iload_n (i := 1) (by decide +kernel) rfl ?_
          refine sX_goto (o := 39) (t := 81) (by decide +kernel) (by decide) ?_
          exact sX.le (xB81 v6 v1 M) (sLe_s (sLe_s (sLe_s (sLe_s (sLe_s (sLe_s (sLe_s (sLe_n sLe_e))))))))
    exact fun a => xK28 a.1 a.2
  refine sX_rc ?_
  refine sX_aload_n (i := 0) (by decide +kernel) rfl ?_
  refine sX_getI lf_X12_297 tk_12_1 (by decide +kernel) (fun x7 => ?_)
  refine sX_bipush (n := 20) (v := (20 : Int32)) (by decide +kernel) (by decide) ?_
  refine sX_iadd (by decide +kernel) ?_
  refine sX_sipush (n := 1600) (v := (1600 : Int32)) (by decide +kernel) (by decide) ?_
  refine sX_icle (o := 15) (t := 25) (by decide +kernel) (by decide) (fun _ => ?_) (fun _ => ?_)
  · refine sX_iconst (n := 0) (v := (0 : Int32)) (by decide +kernel) (by decide) ?_
    refine sX_istore (i := 6) (ls2 := [some (.ref v0), some (.int v1), some (.int v2), some (.int v3), some (.int v4), some (.int v5), some (.int (0 : Int32)), none]) (by decide +kernel) (by decide) rfl ?_
    exact sX.le (xL28 v0 v1 v2 v3 v4 v5 ((0 : Int32)) M0) (sLe_s (sLe_s (sLe_s (sLe_s (sLe_s (sLe_s (sLe_s (sLe_n sLe_e))))))))
  · refine sX_aload_n (i := 0) (by decide +kernel) rfl ?_
    refine sX_getR lf_X12_17 tk_12_9 (by decide +kernel) (fun x8 => ?_)
    refine sX_iconst (n := 0) (v := (0 : Int32)) (by decide +kernel) (by decide) ?_
    refine sX_dup2 (by decide +kernel) rfl rfl ?_
    refine sX_iaload (by decide +kernel) (fun x9 => ?_)
    refine sX_iconst (n := 1) (v := (1 : Int32)) (by decide +kernel) (by decide) ?_
    refine sX_iadd (by decide +kernel) ?_
    refine sX_iastore (by decide +kernel) (by decide) (fun M10 => ?_)
    refine sX_iconst (n := -1) (v := (-1 : Int32)) (by decide +kernel) (by decide) ?_
    exact sX_some (fun h _ => sW_iret (by decide +kernel) rfl (hr _ h).1.symm (hr _ h).2.symm)
def f_X12_end_B12 (v0 : Nat) (M : sMem) : Option (Int32 × sMem) :=
  (gR 12 127 9 M v0).bind fun x1 =>
  (ldI 14 M x1 ((0 : Int32))).bind fun x2 =>
  (stI M x1 ((0 : Int32)) ((x2 + (1 : Int32)))).bind fun M3 =>
  some (((0 : Int32), M3))
def f_X12_end (v0 : Nat) (v1 : Int32) (M0 : sMem) : Option (Int32 × sMem) :=
  sRc 12 127 M0 v0 (
    if v1 < 0 then
      f_X12_end_B12 v0 M0
    else
      (gI 12 127 1 M0 v0).bind fun x4 =>
      if v1 ≤ x4 then
        (pI 12 127 1 M0 v0 v1).bind fun M5 =>
        some (((1 : Int32), M5))
      else
        f_X12_end_B12 v0 M0)
set_option maxRecDepth 100000 in
set_option maxHeartbeats 4000000 in
theorem m_X12_end (G : sG) (l : Launch) (v0 : Nat) (v1 : Int32) (M0 : sMem) : sC G l 1 yX12_end cX12_end 2 (some .boolean) [.ref v0, .int v1] M0 rvI (f_X12_end v0 v1 M0) := by
  refine sC_m (ls := [some (.ref v0), some (.int v1)]) (by decide +kernel) rfl (Nat.le_of_ble_eq_true rfl) (fun r M' K hr => ?_)
  unfold f_X12_end
  have xB12 : ∀ (v0 : Nat) (M : sMem), sX G l 1 yX12_end cX12_end 2 (some .boolean) M0 r M' 12 [some (.ref v0), none] [] M (f_X12_end_B12 v0 M) K := by
    intro v0 M
    unfold f_X12_end_B12
    refine sX_aload_n (i := 0) (by decide +kernel) rfl ?_
    refine sX_getR lf_X12_17 tk_12_9 (by decide +kernel) (fun x1 => ?_)
    refine sX_iconst (n := 0) (v := (0 : Int32)) (by decide +kernel) (by decide) ?_
    refine sX_dup2 (by decide +kernel) rfl rfl ?_
    refine sX_iaload (by decide +kernel) (fun x2 => ?_)
    refine sX_iconst (n := 1) (v := (1 : Int32)) (by decide +kernel) (by decide) ?_
    refine sX_iadd (by decide +kernel) ?_
    refine sX_iastore (by decide +kernel) (by decide) (fun M3 => ?_)
    refine sX_iconst (n := 0) (v := (0 : Int32)) (by decide +kernel) (by decide) ?_
    exact sX_some (fun h _ => sW_zret (by decide +kernel) rfl (by decide) (hr _ h).1.symm (hr _ h).2.symm)
  refine sX_rc ?_
  refine sX_iload_n (i := 1) (by decide +kernel) rfl ?_
  refine sX_iflt (o := 11) (t := 12) (by decide +kernel) (by decide) (fun _ => ?_) (fun _ => ?_)
  · exact sX.le (xB12 v0 M0) (sLe_s (sLe_n sLe_e))
  · refine sX_iload_n (i := 1) (by decide +kernel) rfl ?_
    refine sX_aload_n (i := 0) (by decide +kernel) rfl ?_
    refine sX_getI lf_X12_297 tk_12_1 (by decide +kernel) (fun x4 => ?_)
    refine sX_icle (o := 15) (t := 24) (by decide +kernel) (by decide) (fun _ => ?_) (fun _ => ?_)
    · refine sX_aload_n (i := 0) (by decide +kernel) rfl ?_
      refine sX_iload_n (i := 1) (by decide +kernel) rfl ?_
      refine sX_putI lf_X12_297 tp_12_1 (by decide +kernel) (by decide) (fun M5 => ?_)
      refine sX_iconst (n := 1) (v := (1 : Int32)) (by decide +kernel) (by decide) ?_
      exact sX_some (fun h _ => sW_zret (by decide +kernel) rfl (by decide) (hr _ h).1.symm (hr _ h).2.symm)
    · exact sX.le (xB12 v0 M0) (sLe_s (sLe_n sLe_e))
def f_X12_fail (v0 : Nat) (v1 : Int32) (v2 : Int32) (M0 : sMem) : Option sMem :=
  sRc 12 127 M0 v0 (
    (gI 12 127 5 M0 v0).bind fun x1 =>
    if x1 = 0 then
      (pI 12 127 5 M0 v0 v1).bind fun M2 =>
      (pI 12 127 6 M2 v0 v2).bind fun M3 =>
      some M3
    else
      some M0)
set_option maxRecDepth 100000 in
set_option maxHeartbeats 4000000 in
theorem m_X12_fail (G : sG) (l : Launch) (v0 : Nat) (v1 : Int32) (v2 : Int32) (M0 : sMem) : sCv G l 1 yX12_fail cX12_fail 3 none [.ref v0, .int v1, .int v2] M0 (f_X12_fail v0 v1 v2 M0) := by
  refine sC_v (ls := [some (.ref v0), some (.int v1), some (.int v2)]) (by decide +kernel) rfl (Nat.le_of_ble_eq_true rfl) (fun r M' K hr => ?_)
  unfold f_X12_fail
  refine sX_rc ?_
  refine sX_aload_n (i := 0) (by decide +kernel) rfl ?_
  refine sX_getI lf_X12_300 tk_12_5 (by decide +kernel) (fun x1 => ?_)
  refine sX_ifeq (o := 4) (t := 8) (by decide +kernel) (by decide) (fun _ => ?_) (fun _ => ?_)
  · refine sX_aload_n (i := 0) (by decide +kernel) rfl ?_
    refine sX_iload_n (i := 1) (by decide +kernel) rfl ?_
    refine sX_putI lf_X12_300 tp_12_5 (by decide +kernel) (by decide) (fun M2 => ?_)
    refine sX_aload_n (i := 0) (by decide +kernel) rfl ?_
    refine sX_iload_n (i := 2) (by decide +kernel) rfl ?_
    refine sX_putI lf_X12_303 tp_12_6 (by decide +kernel) (by decide) (fun M3 => ?_)
    exact sX_some (fun h _ => sW_vret (by decide +kernel) rfl (hr _ h).1.symm (hr _ h).2.symm)
  · exact sX_some (fun h _ => sW_vret (by decide +kernel) rfl (hr _ h).1.symm (hr _ h).2.symm)
def f_X12_isLetter (v0 : Int32) (M0 : sMem) : Option Int32 :=
  if v0 < (97 : Int32) then
    some ((0 : Int32))
  else
    if (122 : Int32) < v0 then
      some ((0 : Int32))
    else
      some ((1 : Int32))
set_option maxRecDepth 100000 in
set_option maxHeartbeats 4000000 in
theorem m_X12_isLetter (G : sG) (l : Launch) (v0 : Int32) (M0 : sMem) : sCp G l 1 yX12_isLetter cX12_isLetter 1 (some .boolean) [.int v0] M0 rvI (f_X12_isLetter v0 M0) := by
  refine sC_p (ls := [some (.int v0)]) (by decide +kernel) rfl (Nat.le_of_ble_eq_true rfl) (fun r M' K hr => ?_)
  unfold f_X12_isLetter
  refine sX_iload_n (i := 0) (by decide +kernel) rfl ?_
  refine sX_bipush (n := 97) (v := (97 : Int32)) (by decide +kernel) (by decide) ?_
  refine sX_iclt (o := 13) (t := 16) (by decide +kernel) (by decide) (fun _ => ?_) (fun _ => ?_)
  · refine sX_iconst (n := 0) (v := (0 : Int32)) (by decide +kernel) (by decide) ?_
    exact sX_some (fun h _ => sW_zret (by decide +kernel) rfl (by decide) (hr _ h).1.symm (hr _ h).2.symm)
  · refine sX_iload_n (i := 0) (by decide +kernel) rfl ?_
    refine sX_bipush (n := 122) (v := (122 : Int32)) (by decide +kernel) (by decide) ?_
    refine sX_icgt (o := 7) (t := 16) (by decide +kernel) (by decide) (fun _ => ?_) (fun _ => ?_)
    · refine sX_iconst (n := 0) (v := (0 : Int32)) (by decide +kernel) (by decide) ?_
      exact sX_some (fun h _ => sW_zret (by decide +kernel) rfl (by decide) (hr _ h).1.symm (hr _ h).2.symm)
    · refine sX_iconst (n := 1) (v := (1 : Int32)) (by decide +kernel) (by decide) ?_
      refine sX_goto (o := 4) (t := 17) (by decide +kernel) (by decide) ?_
      exact sX_some (fun h _ => sW_zret (by decide +kernel) rfl (by decide) (hr _ h).1.symm (hr _ h).2.symm)
def f_X12_isDigit (v0 : Int32) (M0 : sMem) : Option Int32 :=
  if v0 < (48 : Int32) then
    some ((0 : Int32))
  else
    if (57 : Int32) < v0 then
      some ((0 : Int32))
    else
      some ((1 : Int32))
set_option maxRecDepth 100000 in
set_option maxHeartbeats 4000000 in
theorem m_X12_isDigit (G : sG) (l : Launch) (v0 : Int32) (M0 : sMem) : sCp G l 1 yX12_isDigit cX12_isDigit 1 (some .boolean) [.int v0] M0 rvI (f_X12_isDigit v0 M0) := by
  refine sC_p (ls := [some (.int v0)]) (by decide +kernel) rfl (Nat.le_of_ble_eq_true rfl) (fun r M' K hr => ?_)
  unfold f_X12_isDigit
  refine sX_iload_n (i := 0) (by decide +kernel) rfl ?_
  refine sX_bipush (n := 48) (v := (48 : Int32)) (by decide +kernel) (by decide) ?_
  refine sX_iclt (o := 13) (t := 16) (by decide +kernel) (by decide) (fun _ => ?_) (fun _ => ?_)
  · refine sX_iconst (n := 0) (v := (0 : Int32)) (by decide +kernel) (by decide) ?_
    exact sX_some (fun h _ => sW_zret (by decide +kernel) rfl (by decide) (hr _ h).1.symm (hr _ h).2.symm)
  · refine sX_iload_n (i := 0) (by decide +kernel) rfl ?_
    refine sX_bipush (n := 57) (v := (57 : Int32)) (by decide +kernel) (by decide) ?_
    refine sX_icgt (o := 7) (t := 16) (by decide +kernel) (by decide) (fun _ => ?_) (fun _ => ?_)
    · refine sX_iconst (n := 0) (v := (0 : Int32)) (by decide +kernel) (by decide) ?_
      exact sX_some (fun h _ => sW_zret (by decide +kernel) rfl (by decide) (hr _ h).1.symm (hr _ h).2.symm)
    · refine sX_iconst (n := 1) (v := (1 : Int32)) (by decide +kernel) (by decide) ?_
      refine sX_goto (o := 4) (t := 17) (by decide +kernel) (by decide) ?_
      exact sX_some (fun h _ => sW_zret (by decide +kernel) rfl (by decide) (hr _ h).1.symm (hr _ h).2.symm)
def f_X12_look_B52 (v0 : Nat) (M : sMem) : Option (Int32 × sMem) :=
  (gI 12 127 2 M v0).bind fun x1 =>
  (gI 12 127 3 M v0).bind fun x2 =>
  if x2 ≤ x1 then
    some (((-1 : Int32), M))
  else
    (gR 12 127 0 M v0).bind fun x3 =>
    (gI 12 127 2 M v0).bind fun x4 =>
    (ldI 14 M x3 x4).bind fun x5 =>
    some ((x5, M))
def f_X12_look_B39 (v0 : Nat) (M : sMem) : Option ((sMem) ⊕ ((sMem))) :=
  (gI 12 127 2 M v0).bind fun x6 =>
  (pI 12 127 2 M v0 ((x6 + (1 : Int32)))).bind fun M7 =>
  some (.inl M7)
def f_X12_look_K0 (v0 : Nat) (M : sMem) : Option ((sMem) ⊕ ((sMem))) :=
  (gI 12 127 2 M v0).bind fun x8 =>
  (gI 12 127 3 M v0).bind fun x9 =>
  if x9 ≤ x8 then
    some (.inr M)
  else
    (gR 12 127 0 M v0).bind fun x10 =>
    (gI 12 127 2 M v0).bind fun x11 =>
    (ldI 14 M x10 x11).bind fun x12 =>
    if x12 = (10 : Int32) then
      f_X12_look_B39 v0 M
    else
      (gR 12 127 0 M v0).bind fun x13 =>
      (gI 12 127 2 M v0).bind fun x14 =>
      (ldI 14 M x13 x14).bind fun x15 =>
      if x15 = (32 : Int32) then
        f_X12_look_B39 v0 M
      else
        some (.inr M)
def f_X12_look_L0 (v0 : Nat) (M : sMem) : Option (Int32 × sMem) :=
  (sItr (fun a : (sMem) => f_X12_look_K0 v0 a) sFuel M).bind (fun b => f_X12_look_B52 v0 b)
def f_X12_look (v0 : Nat) (M0 : sMem) : Option (Int32 × sMem) :=
  sRc 12 127 M0 v0 (
    f_X12_look_L0 v0 M0)
set_option maxRecDepth 100000 in
set_option maxHeartbeats 4000000 in
theorem m_X12_look (G : sG) (l : Launch) (v0 : Nat) (M0 : sMem) : sC G l 1 yX12_look cX12_look 1 (some .int) [.ref v0] M0 rvI (f_X12_look v0 M0) := by
  refine sC_m (ls := [some (.ref v0)]) (by decide +kernel) rfl (Nat.le_of_ble_eq_true rfl) (fun r M' K hr => ?_)
  unfold f_X12_look
  have xB52 : ∀ (v0 : Nat) (M : sMem), sX G l 1 yX12_look cX12_look 1 (some .int) M0 r M' 52 [some (.ref v0)] [] M (f_X12_look_B52 v0 M) K := by
    intro v0 M
    unfold f_X12_look_B52
    refine sX_aload_n (i := 0) (by decide +kernel) rfl ?_
    refine sX_getI lf_X12_306 tk_12_2 (by decide +kernel) (fun x1 => ?_)
    refine sX_aload_n (i := 0) (by decide +kernel) rfl ?_
    refine sX_getI lf_X12_309 tk_12_3 (by decide +kernel) (fun x2 => ?_)
    refine sX_icge (o := 15) (t := 75) (by decide +kernel) (by decide) (fun _ => ?_) (fun _ => ?_)
    · refine sX_iconst (n := -1) (v := (-1 : Int32)) (by decide +kernel) (by decide) ?_
      exact sX_some (fun h _ => sW_iret (by decide +kernel) rfl (hr _ h).1.symm (hr _ h).2.symm)
    · refine sX_aload_n (i := 0) (by decide +kernel) rfl ?_
      refine sX_getR lf_X12_7 tk_12_0 (by decide +kernel) (fun x3 => ?_)
      refine sX_aload_n (i := 0) (by decide +kernel) rfl ?_
      refine sX_getI lf_X12_306 tk_12_2 (by decide +kernel) (fun x4 => ?_)
      refine sX_iaload (by decide +kernel) (fun x5 => ?_)
      refine sX_goto (o := 4) (t := 76) (by decide +kernel) (by decide) ?_
      exact sX_some (fun h _ => sW_iret (by decide +kernel) rfl (hr _ h).1.symm (hr _ h).2.symm)
  have xL0 : ∀ (v0 : Nat) (M : sMem), sX G l 1 yX12_look cX12_look 1 (some .int) M0 r M' 0 [some (.ref v0)] [] M (f_X12_look_L0 v0 M) K := by
    intro v0 M
    unfold f_X12_look_L0
    refine sX_bind ?_
    refine sX_loop (LS := fun a : (sMem) => [some (.ref v0)]) (MM := fun a => a) (fun K1 hb1 he1 => ?_) sFuel M
    have xB39 : ∀ (M : sMem), sX G l 1 yX12_look cX12_look 1 (some .int) M0 r M' 39 [some (.ref v0)] [] M (f_X12_look_B39 v0 M) K1 := by
      intro M
      unfold f_X12_look_B39
      refine sX_aload_n (i := 0) (by decide +kernel) rfl ?_
      refine sX_dup (by decide +kernel) rfl ?_
      refine sX_getI lf_X12_306 tk_12_2 (by decide +kernel) (fun x6 => ?_)
      refine sX_iconst (n := 1) (v := (1 : Int32)) (by decide +kernel) (by decide) ?_
      refine sX_iadd (by decide +kernel) ?_
      refine sX_putI lf_X12_306 tp_12_2 (by decide +kernel) (by decide) (fun M7 => ?_)
      refine sX_goto (o := -49) (t := 0) (by decide +kernel) (by decide) ?_
      exact sX_back (a := M7) hb1 rfl (sLe_s sLe_e)
    have xK0 : ∀  (M : sMem), sX G l 1 yX12_look cX12_look 1 (some .int) M0 r M' 0 [some (.ref v0)] [] M (f_X12_look_K0 v0 M) K1 := by
      intro M
      unfold f_X12_look_K0
      refine sX_aload_n (i := 0) (by decide +kernel) rfl ?_
      refine sX_getI lf_X12_306 tk_12_2 (by decide +kernel) (fun x8 => ?_)
      refine sX_aload_n (i := 0) (by decide +kernel) rfl ?_
      refine sX_getI lf_X12_309 tk_12_3 (by decide +kernel) (fun x9 => ?_)
      refine sX_icge (o := 44) (t := 52) (by decide +kernel) (by decide) (fun _ => ?_) (fun _ => ?_)
      · refine sX_exit he1 ?_
        exact sX.le (xB52 v0 M) (sLe_s sLe_e)
      · refine sX_aload_n (i := 0) (by decide +kernel) rfl ?_
        refine sX_getR lf_X12_7 tk_12_0 (by decide +kernel) (fun x10 => ?_)
        refine sX_aload_n (i := 0) (by decide +kernel) rfl ?_
        refine sX_getI lf_X12_306 tk_12_2 (by decide +kernel) (fun x11 => ?_)
        refine sX_iaload (by decide +kernel) (fun x12 => ?_)
        refine sX_bipush (n := 10) (v := (10 : Int32)) (by decide +kernel) (by decide) ?_
        refine sX_iceq (o := 17) (t := 39) (by decide +kernel) (by decide) (fun _ => ?_) (fun _ => ?_)
        · exact sX.le (xB39 M) (sLe_s sLe_e)
        · refine sX_aload_n (i := 0) (by decide +kernel) rfl ?_
          refine sX_getR lf_X12_7 tk_12_0 (by decide +kernel) (fun x13 => ?_)
          refine sX_aload_n (i := 0) (by decide +kernel) rfl ?_
          refine sX_getI lf_X12_306 tk_12_2 (by decide +kernel) (fun x14 => ?_)
          refine sX_iaload (by decide +kernel) (fun x15 => ?_)
          refine sX_bipush (n := 32) (v := (32 : Int32)) (by decide +kernel) (by decide) ?_
          refine sX_icne (o := 16) (t := 52) (by decide +kernel) (by decide) (fun _ => ?_) (fun _ => ?_)
          · exact sX.le (xB39 M) (sLe_s sLe_e)
          · refine sX_exit he1 ?_
            exact sX.le (xB52 v0 M) (sLe_s sLe_e)
    exact fun a => xK0 a
  refine sX_rc ?_
  exact sX.le (xL0 v0 M0) (sLe_s sLe_e)
def f_X12_isHere_K76 (v0 : Nat) (v1 : Nat) (v3 : Int32) (M : sMem) : Option ((Int32) ⊕ (((Int32 × sMem)))) :=
  (aL 13 M v1).bind fun x1 =>
  if x1 ≤ v3 then
    some (.inr (((1 : Int32), M)))
  else
    (gR 12 127 0 M v0).bind fun x2 =>
    (gI 12 127 2 M v0).bind fun x3 =>
    (ldI 14 M x2 ((x3 + v3))).bind fun x4 =>
    (ldI 13 M v1 v3).bind fun x5 =>
    if x4 = x5 then
      some (.inl (((v3 + (1 : Int32)))))
    else
      some (.inr (((0 : Int32), M)))
def f_X12_isHere_L76 (v0 : Nat) (v1 : Nat) (v3 : Int32) (M : sMem) : Option (Int32 × sMem) :=
  (sItr (fun a : (Int32) => f_X12_isHere_K76 v0 v1 a M) sFuel v3).bind (fun b => some b)
def f_X12_isHere_B61 (v0 : Nat) (v1 : Nat) (v2 : Int32) (M : sMem) : Option (Int32 × sMem) :=
  (gI 12 127 2 M v0).bind fun x6 =>
  (aL 13 M v1).bind fun x7 =>
  if (v2 - x6) = x7 then
    f_X12_isHere_L76 v0 v1 ((0 : Int32)) M
  else
    some (((0 : Int32), M))
def f_X12_isHere_K35 (v0 : Nat) (v1 : Nat) (v2 : Int32) (M : sMem) : Option ((Int32) ⊕ ((Int32))) :=
  (gI 12 127 3 M v0).bind fun x8 =>
  if x8 ≤ v2 then
    some (.inr v2)
  else
    (gR 12 127 0 M v0).bind fun x9 =>
    (ldI 14 M x9 v2).bind fun x10 =>
    (f_X12_isLetter x10 M).bind fun x11 =>
    if x11 = 0 then
      some (.inr v2)
    else
      some (.inl (((v2 + (1 : Int32)))))
def f_X12_isHere_L35 (v0 : Nat) (v1 : Nat) (v2 : Int32) (M : sMem) : Option (Int32 × sMem) :=
  (sItr (fun a : (Int32) => f_X12_isHere_K35 v0 v1 a M) sFuel v2).bind (fun b => f_X12_isHere_B61 v0 v1 b M)
def f_X12_isHere (v0 : Nat) (v1 : Nat) (M0 : sMem) : Option (Int32 × sMem) :=
  sRc 12 127 M0 v0 (
    (gI 12 127 5 M0 v0).bind fun x12 =>
    if x12 = 0 then
      (f_X12_look v0 M0).bind fun (x13, M14) =>
      (f_X12_isLetter x13 M14).bind fun x15 =>
      if x15 = 0 then
        some (((0 : Int32), M14))
      else
        (gI 12 127 2 M14 v0).bind fun x16 =>
        (gI 12 127 4 M14 v0).bind fun x17 =>
        if x16 = x17 then
          some (((0 : Int32), M14))
        else
          (gI 12 127 2 M14 v0).bind fun x18 =>
          f_X12_isHere_L35 v0 v1 x18 M14
    else
      some (((0 : Int32), M0)))
set_option maxRecDepth 100000 in
set_option maxHeartbeats 4000000 in
theorem m_X12_isHere (G : sG) (l : Launch) (v0 : Nat) (v1 : Nat) (M0 : sMem) : sC G l 2 yX12_isHere cX12_isHere 4 (some .boolean) [.ref v0, .ref v1] M0 rvI (f_X12_isHere v0 v1 M0) := by
  refine sC_m (ls := [some (.ref v0), some (.ref v1), none, none]) (by decide +kernel) rfl (Nat.le_of_ble_eq_true rfl) (fun r M' K hr => ?_)
  unfold f_X12_isHere
  have xL76 : ∀ (v0 : Nat) (v1 : Nat) (v3 : Int32) (M : sMem), sX G l 2 yX12_isHere cX12_isHere 4 (some .boolean) M0 r M' 76 [some (.ref v0), some (.ref v1), none, some (.int v3)] [] M (f_X12_isHere_L76 v0 v1 v3 M) K := by
    intro v0 v1 v3 M
    unfold f_X12_isHere_L76
    refine sX_bind ?_
    refine sX_loop (LS := fun a : (Int32) => [some (.ref v0), some (.ref v1), none, some (.int a)]) (MM := fun a => M) (fun K1 hb1 he1 => ?_) sFuel v3
    have xK76 : ∀ (v3 : Int32), sX G l 2 yX12_isHere cX12_isHere 4 (some .boolean) M0 r M' 76 [some (.ref v0), some (.ref v1), none, some (.int v3)] [] M (f_X12_isHere_K76 v0 v1 v3 M) K1 := by
      intro v3
      unfold f_X12_isHere_K76
      refine sX_iload_n (i := 3) (by decide +kernel) rfl ?_
      refine sX_aload_n (i := 1) (by decide +kernel) rfl ?_
      refine sX_alen (by decide) (by decide) (by decide +kernel) (fun x1 => ?_)
      refine sX_icge (o := 28) (t := 107) (by decide +kernel) (by decide) (fun _ => ?_) (fun _ => ?_)
      · refine sX_iconst (n := 1) (v := (1 : Int32)) (by decide +kernel) (by decide) ?_
        refine sX_exit he1 ?_
        exact sX_some (fun h _ => sW_zret (by decide +kernel) rfl (by decide) (hr _ h).1.symm (hr _ h).2.symm)
      · refine sX_aload_n (i := 0) (by decide +kernel) rfl ?_
        refine sX_getR lf_X12_7 tk_12_0 (by decide +kernel) (fun x2 => ?_)
        refine sX_aload_n (i := 0) (by decide +kernel) rfl ?_
        refine sX_getI lf_X12_306 tk_12_2 (by decide +kernel) (fun x3 => ?_)
        refine sX_iload_n (i := 3) (by decide +kernel) rfl ?_
        refine sX_iadd (by decide +kernel) ?_
        refine sX_iaload (by decide +kernel) (fun x4 => ?_)
        refine sX_aload_n (i := 1) (by decide +kernel) rfl ?_
        refine sX_iload_n (i := 3) (by decide +kernel) rfl ?_
        refine sX_caload (by decide +kernel) (fun x5 => ?_)
        refine sX_iceq (o := 5) (t := 101) (by decide +kernel) (by decide) (fun _ => ?_) (fun _ => ?_)
        · refine sX_iinc (i := 3) (n := 1) (v := v3 + (1 : Int32)) (ls2 := [some (.ref v0), some (.ref v1), none, some (.int (v3 + (1 : Int32)))]) (by decide +kernel) rfl rfl (by decide) rfl ?_
          refine sX_goto (o := -28) (t := 76) (by decide +kernel) (by decide) ?_
          exact sX_back (a := ((v3 + (1 : Int32)))) hb1 rfl (sLe_s (sLe_s (sLe_n (sLe_s sLe_e))))
        · refine sX_iconst (n := 0) (v := (0 : Int32)) (by decide +kernel) (by decide) ?_
          refine sX_exit he1 ?_
          exact sX_some (fun h _ => sW_zret (by decide +kernel) rfl (by decide) (hr _ h).1.symm (hr _ h).2.symm)
    exact fun a => xK76 a
  have xB61 : ∀ (v0 : Nat) (v1 : Nat) (v2 : Int32) (M : sMem), sX G l 2 yX12_isHere cX12_isHere 4 (some .boolean) M0 r M' 61 [some (.ref v0), some (.ref v1), some (.int v2), none] [] M (f_X12_isHere_B61 v0 v1 v2 M) K := by
    intro v0 v1 v2 M
    unfold f_X12_isHere_B61
    refine sX_iload_n (i := 2) (by decide +kernel) rfl ?_
    refine sX_aload_n (i := 0) (by decide +kernel) rfl ?_
    refine sX_getI lf_X12_306 tk_12_2 (by decide +kernel) (fun x6 => ?_)
    refine sX_isub (by decide +kernel) ?_
    refine sX_aload_n (i := 1) (by decide +kernel) rfl ?_
    refine sX_alen (by decide) (by decide) (by decide +kernel) (fun x7 => ?_)
    refine sX_iceq (o := 5) (t := 74) (by decide +kernel) (by decide) (fun _ => ?_) (fun _ => ?_)
    · refine sX_iconst (n := 0) (v := (0 : Int32)) (by decide +kernel) (by decide) ?_
      refine sX_istore_n (i := 3) (ls2 := [some (.ref v0), some (.ref v1), some (.int v2), some (.int (0 : Int32))]) (by decide +kernel) (by decide) rfl ?_
      exact sX.le (xL76 v0 v1 ((0 : Int32)) M) (sLe_s (sLe_s (sLe_n (sLe_s sLe_e))))
    · refine sX_iconst (n := 0) (v := (0 : Int32)) (by decide +kernel) (by decide) ?_
      exact sX_some (fun h _ => sW_zret (by decide +kernel) rfl (by decide) (hr _ h).1.symm (hr _ h).2.symm)
  have xL35 : ∀ (v0 : Nat) (v1 : Nat) (v2 : Int32) (M : sMem), sX G l 2 yX12_isHere cX12_isHere 4 (some .boolean) M0 r M' 35 [some (.ref v0), some (.ref v1), some (.int v2), none] [] M (f_X12_isHere_L35 v0 v1 v2 M) K := by
    intro v0 v1 v2 M
    unfold f_X12_isHere_L35
    refine sX_bind ?_
    refine sX_loop (LS := fun a : (Int32) => [some (.ref v0), some (.ref v1), some (.int a), none]) (MM := fun a => M) (fun K1 hb1 he1 => ?_) sFuel v2
    have xK35 : ∀ (v2 : Int32), sX G l 2 yX12_isHere cX12_isHere 4 (some .boolean) M0 r M' 35 [some (.ref v0), some (.ref v1), some (.int v2), none] [] M (f_X12_isHere_K35 v0 v1 v2 M) K1 := by
      intro v2
      unfold f_X12_isHere_K35
      refine sX_iload_n (i := 2) (by decide +kernel) rfl ?_
      refine sX_aload_n (i := 0) (by decide +kernel) rfl ?_
      refine sX_getI lf_X12_309 tk_12_3 (by decide +kernel) (fun x8 => ?_)
      refine sX_icge (o := 21) (t := 61) (by decide +kernel) (by decide) (fun _ => ?_) (fun _ => ?_)
      · refine sX_exit he1 ?_
        exact sX.le (xB61 v0 v1 v2 M) (sLe_s (sLe_s (sLe_s (sLe_n sLe_e))))
      · refine sX_aload_n (i := 0) (by decide +kernel) rfl ?_
        refine sX_getR lf_X12_7 tk_12_0 (by decide +kernel) (fun x9 => ?_)
        refine sX_iload_n (i := 2) (by decide +kernel) rfl ?_
        refine sX_iaload (by decide +kernel) (fun x10 => ?_)
        refine sX_callSp (As := [.int x10]) (by decide +kernel) lm_X12_316 mf_X12_isLetter ms_X12_isLetter (m_X12_isLetter G l x10 M) (by decide) rfl rfl (Nat.le_of_ble_eq_true rfl) (fun x11 => ?_)
        refine sX_ifeq (o := 9) (t := 61) (by decide +kernel) (by decide) (fun _ => ?_) (fun _ => ?_)
        · refine sX_exit he1 ?_
          exact sX.le (xB61 v0 v1 v2 M) (sLe_s (sLe_s (sLe_s (sLe_n sLe_e))))
        · refine sX_iinc (i := 2) (n := 1) (v := v2 + (1 : Int32)) (ls2 := [some (.ref v0), some (.ref v1), some (.int (v2 + (1 : Int32))), none]) (by decide +kernel) rfl rfl (by decide) rfl ?_
          refine sX_goto (o := -23) (t := 35) (by decide +kernel) (by decide) ?_
          exact sX_back (a := ((v2 + (1 : Int32)))) hb1 rfl (sLe_s (sLe_s (sLe_s (sLe_n sLe_e))))
    exact fun a => xK35 a
  refine sX_rc ?_
  refine sX_aload_n (i := 0) (by decide +kernel) rfl ?_
  refine sX_getI lf_X12_300 tk_12_5 (by decide +kernel) (fun x12 => ?_)
  refine sX_ifne (o := 24) (t := 28) (by decide +kernel) (by decide) (fun _ => ?_) (fun _ => ?_)
  · refine sX_aload_n (i := 0) (by decide +kernel) rfl ?_
    refine sX_callV (As := []) (by decide +kernel) lm_X12_312 mf_X12_look mi_X12_look mc_12 (m_X12_look G l v0 M0) (fun _ h => sRc_some h) (by decide) rfl rfl (Nat.le_of_ble_eq_true rfl) (fun x13 M14 _ => ?_)
    refine sX_callSp (As := [.int x13]) (by decide +kernel) lm_X12_316 mf_X12_isLetter ms_X12_isLetter (m_X12_isLetter G l x13 M14) (by decide) rfl rfl (Nat.le_of_ble_eq_true rfl) (fun x15 => ?_)
    refine sX_ifeq (o := 14) (t := 28) (by decide +kernel) (by decide) (fun _ => ?_) (fun _ => ?_)
    · refine sX_iconst (n := 0) (v := (0 : Int32)) (by decide +kernel) (by decide) ?_
      exact sX_some (fun h _ => sW_zret (by decide +kernel) rfl (by decide) (hr _ h).1.symm (hr _ h).2.symm)
    · refine sX_aload_n (i := 0) (by decide +kernel) rfl ?_
      refine sX_getI lf_X12_306 tk_12_2 (by decide +kernel) (fun x16 => ?_)
      refine sX_aload_n (i := 0) (by decide +kernel) rfl ?_
      refine sX_getI lf_X12_320 tk_12_4 (by decide +kernel) (fun x17 => ?_)
      refine sX_icne (o := 5) (t := 30) (by decide +kernel) (by decide) (fun _ => ?_) (fun _ => ?_)
      · refine sX_iconst (n := 0) (v := (0 : Int32)) (by decide +kernel) (by decide) ?_
        exact sX_some (fun h _ => sW_zret (by decide +kernel) rfl (by decide) (hr _ h).1.symm (hr _ h).2.symm)
      · refine sX_aload_n (i := 0) (by decide +kernel) rfl ?_
        refine sX_getI lf_X12_306 tk_12_2 (by decide +kernel) (fun x18 => ?_)
        refine sX_istore_n (i := 2) (ls2 := [some (.ref v0), some (.ref v1), some (.int x18), none]) (by decide +kernel) (by decide) rfl ?_
        exact sX.le (xL35 v0 v1 x18 M14) (sLe_s (sLe_s (sLe_s (sLe_n sLe_e))))
  · refine sX_iconst (n := 0) (v := (0 : Int32)) (by decide +kernel) (by decide) ?_
    exact sX_some (fun h _ => sW_zret (by decide +kernel) rfl (by decide) (hr _ h).1.symm (hr _ h).2.symm)
def f_X12_takes (v0 : Nat) (v1 : Nat) (M0 : sMem) : Option (Int32 × sMem) :=
  sRc 12 127 M0 v0 (
    (f_X12_isHere v0 v1 M0).bind fun (x1, M2) =>
    if x1 = 0 then
      some (((0 : Int32), M2))
    else
      (gI 12 127 2 M2 v0).bind fun x3 =>
      (aL 13 M2 v1).bind fun x4 =>
      (pI 12 127 2 M2 v0 ((x3 + x4))).bind fun M5 =>
      (gI 12 127 2 M5 v0).bind fun x6 =>
      (pI 12 127 4 M5 v0 x6).bind fun M7 =>
      some (((1 : Int32), M7)))
set_option maxRecDepth 100000 in
set_option maxHeartbeats 4000000 in
theorem m_X12_takes (G : sG) (l : Launch) (v0 : Nat) (v1 : Nat) (M0 : sMem) : sC G l 3 yX12_takes cX12_takes 2 (some .boolean) [.ref v0, .ref v1] M0 rvI (f_X12_takes v0 v1 M0) := by
  refine sC_m (ls := [some (.ref v0), some (.ref v1)]) (by decide +kernel) rfl (Nat.le_of_ble_eq_true rfl) (fun r M' K hr => ?_)
  unfold f_X12_takes
  refine sX_rc ?_
  refine sX_aload_n (i := 0) (by decide +kernel) rfl ?_
  refine sX_aload_n (i := 1) (by decide +kernel) rfl ?_
  refine sX_callV (As := [.ref v1]) (by decide +kernel) lm_X12_323 mf_X12_isHere mi_X12_isHere mc_12 (m_X12_isHere G l v0 v1 M0) (fun _ h => sRc_some h) (by decide) rfl rfl (Nat.le_of_ble_eq_true rfl) (fun x1 M2 _ => ?_)
  refine sX_ifne (o := 5) (t := 10) (by decide +kernel) (by decide) (fun _ => ?_) (fun _ => ?_)
  · refine sX_iconst (n := 0) (v := (0 : Int32)) (by decide +kernel) (by decide) ?_
    exact sX_some (fun h _ => sW_zret (by decide +kernel) rfl (by decide) (hr _ h).1.symm (hr _ h).2.symm)
  · refine sX_aload_n (i := 0) (by decide +kernel) rfl ?_
    refine sX_dup (by decide +kernel) rfl ?_
    refine sX_getI lf_X12_306 tk_12_2 (by decide +kernel) (fun x3 => ?_)
    refine sX_aload_n (i := 1) (by decide +kernel) rfl ?_
    refine sX_alen (by decide) (by decide) (by decide +kernel) (fun x4 => ?_)
    refine sX_iadd (by decide +kernel) ?_
    refine sX_putI lf_X12_306 tp_12_2 (by decide +kernel) (by decide) (fun M5 => ?_)
    refine sX_aload_n (i := 0) (by decide +kernel) rfl ?_
    refine sX_aload_n (i := 0) (by decide +kernel) rfl ?_
    refine sX_getI lf_X12_306 tk_12_2 (by decide +kernel) (fun x6 => ?_)
    refine sX_putI lf_X12_320 tp_12_4 (by decide +kernel) (by decide) (fun M7 => ?_)
    refine sX_iconst (n := 1) (v := (1 : Int32)) (by decide +kernel) (by decide) ?_
    exact sX_some (fun h _ => sW_zret (by decide +kernel) rfl (by decide) (hr _ h).1.symm (hr _ h).2.symm)
def f_X12_asks (v0 : Nat) (v1 : Nat) (M0 : sMem) : Option sMem :=
  sRc 12 127 M0 v0 (
    (gI 12 127 5 M0 v0).bind fun x1 =>
    if x1 = 0 then
      (f_X12_takes v0 v1 M0).bind fun (x2, M3) =>
      if x2 = 0 then
        (gI 12 127 2 M3 v0).bind fun x4 =>
        (f_X12_fail v0 ((1 : Int32)) x4 M3).bind fun M5 =>
        some M5
      else
        some M3
    else
      some M0)
set_option maxRecDepth 100000 in
set_option maxHeartbeats 4000000 in
theorem m_X12_asks (G : sG) (l : Launch) (v0 : Nat) (v1 : Nat) (M0 : sMem) : sCv G l 4 yX12_asks cX12_asks 2 none [.ref v0, .ref v1] M0 (f_X12_asks v0 v1 M0) := by
  refine sC_v (ls := [some (.ref v0), some (.ref v1)]) (by decide +kernel) rfl (Nat.le_of_ble_eq_true rfl) (fun r M' K hr => ?_)
  unfold f_X12_asks
  refine sX_rc ?_
  refine sX_aload_n (i := 0) (by decide +kernel) rfl ?_
  refine sX_getI lf_X12_300 tk_12_5 (by decide +kernel) (fun x1 => ?_)
  refine sX_ifne (o := 20) (t := 24) (by decide +kernel) (by decide) (fun _ => ?_) (fun _ => ?_)
  · refine sX_aload_n (i := 0) (by decide +kernel) rfl ?_
    refine sX_aload_n (i := 1) (by decide +kernel) rfl ?_
    refine sX_callV (As := [.ref v1]) (by decide +kernel) lm_X12_327 mf_X12_takes mi_X12_takes mc_12 (m_X12_takes G l v0 v1 M0) (fun _ h => sRc_some h) (by decide) rfl rfl (Nat.le_of_ble_eq_true rfl) (fun x2 M3 _ => ?_)
    refine sX_ifne (o := 12) (t := 24) (by decide +kernel) (by decide) (fun _ => ?_) (fun _ => ?_)
    · refine sX_aload_n (i := 0) (by decide +kernel) rfl ?_
      refine sX_iconst (n := 1) (v := (1 : Int32)) (by decide +kernel) (by decide) ?_
      refine sX_aload_n (i := 0) (by decide +kernel) rfl ?_
      refine sX_getI lf_X12_306 tk_12_2 (by decide +kernel) (fun x4 => ?_)
      refine sX_callVv (As := [.int (1 : Int32), .int x4]) (by decide +kernel) lm_X12_330 mf_X12_fail mi_X12_fail mc_12 (m_X12_fail G l v0 ((1 : Int32)) x4 M3) (fun _ h => sRc_some h) (by decide) rfl rfl (Nat.le_of_ble_eq_true rfl) (fun M5 => ?_)
      exact sX_some (fun h _ => sW_vret (by decide +kernel) rfl (hr _ h).1.symm (hr _ h).2.symm)
    · exact sX_some (fun h _ => sW_vret (by decide +kernel) rfl (hr _ h).1.symm (hr _ h).2.symm)
  · exact sX_some (fun h _ => sW_vret (by decide +kernel) rfl (hr _ h).1.symm (hr _ h).2.symm)
def f_X12_takesSign (v0 : Nat) (v1 : Int32) (M0 : sMem) : Option (Int32 × sMem) :=
  sRc 12 127 M0 v0 (
    (gI 12 127 5 M0 v0).bind fun x1 =>
    if x1 = 0 then
      (f_X12_look v0 M0).bind fun (x2, M3) =>
      if x2 = v1 then
        (gI 12 127 2 M3 v0).bind fun x4 =>
        (pI 12 127 2 M3 v0 ((x4 + (1 : Int32)))).bind fun M5 =>
        some (((1 : Int32), M5))
      else
        some (((0 : Int32), M3))
    else
      some (((0 : Int32), M0)))
set_option maxRecDepth 100000 in
set_option maxHeartbeats 4000000 in
theorem m_X12_takesSign (G : sG) (l : Launch) (v0 : Nat) (v1 : Int32) (M0 : sMem) : sC G l 2 yX12_takesSign cX12_takesSign 2 (some .boolean) [.ref v0, .int v1] M0 rvI (f_X12_takesSign v0 v1 M0) := by
  refine sC_m (ls := [some (.ref v0), some (.int v1)]) (by decide +kernel) rfl (Nat.le_of_ble_eq_true rfl) (fun r M' K hr => ?_)
  unfold f_X12_takesSign
  refine sX_rc ?_
  refine sX_aload_n (i := 0) (by decide +kernel) rfl ?_
  refine sX_getI lf_X12_300 tk_12_5 (by decide +kernel) (fun x1 => ?_)
  refine sX_ifne (o := 11) (t := 15) (by decide +kernel) (by decide) (fun _ => ?_) (fun _ => ?_)
  · refine sX_aload_n (i := 0) (by decide +kernel) rfl ?_
    refine sX_callV (As := []) (by decide +kernel) lm_X12_312 mf_X12_look mi_X12_look mc_12 (m_X12_look G l v0 M0) (fun _ h => sRc_some h) (by decide) rfl rfl (Nat.le_of_ble_eq_true rfl) (fun x2 M3 _ => ?_)
    refine sX_iload_n (i := 1) (by decide +kernel) rfl ?_
    refine sX_iceq (o := 5) (t := 17) (by decide +kernel) (by decide) (fun _ => ?_) (fun _ => ?_)
    · refine sX_aload_n (i := 0) (by decide +kernel) rfl ?_
      refine sX_dup (by decide +kernel) rfl ?_
      refine sX_getI lf_X12_306 tk_12_2 (by decide +kernel) (fun x4 => ?_)
      refine sX_iconst (n := 1) (v := (1 : Int32)) (by decide +kernel) (by decide) ?_
      refine sX_iadd (by decide +kernel) ?_
      refine sX_putI lf_X12_306 tp_12_2 (by decide +kernel) (by decide) (fun M5 => ?_)
      refine sX_iconst (n := 1) (v := (1 : Int32)) (by decide +kernel) (by decide) ?_
      exact sX_some (fun h _ => sW_zret (by decide +kernel) rfl (by decide) (hr _ h).1.symm (hr _ h).2.symm)
    · refine sX_iconst (n := 0) (v := (0 : Int32)) (by decide +kernel) (by decide) ?_
      exact sX_some (fun h _ => sW_zret (by decide +kernel) rfl (by decide) (hr _ h).1.symm (hr _ h).2.symm)
  · refine sX_iconst (n := 0) (v := (0 : Int32)) (by decide +kernel) (by decide) ?_
    exact sX_some (fun h _ => sW_zret (by decide +kernel) rfl (by decide) (hr _ h).1.symm (hr _ h).2.symm)
def f_X12_asksSign (v0 : Nat) (v1 : Int32) (M0 : sMem) : Option sMem :=
  sRc 12 127 M0 v0 (
    (gI 12 127 5 M0 v0).bind fun x1 =>
    if x1 = 0 then
      (f_X12_takesSign v0 v1 M0).bind fun (x2, M3) =>
      if x2 = 0 then
        (gI 12 127 2 M3 v0).bind fun x4 =>
        (f_X12_fail v0 ((1 : Int32)) x4 M3).bind fun M5 =>
        some M5
      else
        some M3
    else
      some M0)
set_option maxRecDepth 100000 in
set_option maxHeartbeats 4000000 in
theorem m_X12_asksSign (G : sG) (l : Launch) (v0 : Nat) (v1 : Int32) (M0 : sMem) : sCv G l 3 yX12_asksSign cX12_asksSign 2 none [.ref v0, .int v1] M0 (f_X12_asksSign v0 v1 M0) := by
  refine sC_v (ls := [some (.ref v0), some (.int v1)]) (by decide +kernel) rfl (Nat.le_of_ble_eq_true rfl) (fun r M' K hr => ?_)
  unfold f_X12_asksSign
  refine sX_rc ?_
  refine sX_aload_n (i := 0) (by decide +kernel) rfl ?_
  refine sX_getI lf_X12_300 tk_12_5 (by decide +kernel) (fun x1 => ?_)
  refine sX_ifne (o := 20) (t := 24) (by decide +kernel) (by decide) (fun _ => ?_) (fun _ => ?_)
  · refine sX_aload_n (i := 0) (by decide +kernel) rfl ?_
    refine sX_iload_n (i := 1) (by decide +kernel) rfl ?_
    refine sX_callV (As := [.int v1]) (by decide +kernel) lm_X12_334 mf_X12_takesSign mi_X12_takesSign mc_12 (m_X12_takesSign G l v0 v1 M0) (fun _ h => sRc_some h) (by decide) rfl rfl (Nat.le_of_ble_eq_true rfl) (fun x2 M3 _ => ?_)
    refine sX_ifne (o := 12) (t := 24) (by decide +kernel) (by decide) (fun _ => ?_) (fun _ => ?_)
    · refine sX_aload_n (i := 0) (by decide +kernel) rfl ?_
      refine sX_iconst (n := 1) (v := (1 : Int32)) (by decide +kernel) (by decide) ?_
      refine sX_aload_n (i := 0) (by decide +kernel) rfl ?_
      refine sX_getI lf_X12_306 tk_12_2 (by decide +kernel) (fun x4 => ?_)
      refine sX_callVv (As := [.int (1 : Int32), .int x4]) (by decide +kernel) lm_X12_330 mf_X12_fail mi_X12_fail mc_12 (m_X12_fail G l v0 ((1 : Int32)) x4 M3) (fun _ h => sRc_some h) (by decide) rfl rfl (Nat.le_of_ble_eq_true rfl) (fun M5 => ?_)
      exact sX_some (fun h _ => sW_vret (by decide +kernel) rfl (hr _ h).1.symm (hr _ h).2.symm)
    · exact sX_some (fun h _ => sW_vret (by decide +kernel) rfl (hr _ h).1.symm (hr _ h).2.symm)
  · exact sX_some (fun h _ => sW_vret (by decide +kernel) rfl (hr _ h).1.symm (hr _ h).2.symm)
def f_X12_number_B30 (v0 : Nat) (M : sMem) : Option (Int32 × sMem) :=
  (gI 12 127 2 M v0).bind fun x1 =>
  (f_X12_fail v0 ((1 : Int32)) x1 M).bind fun M2 =>
  some (((0 : Int32), M2))
def f_X12_number_B129 (v0 : Nat) (v1 : Int32) (v2 : Int32) (v3 : Int32) (v4 : Int32) (M : sMem) : Option (Int32 × sMem) :=
  (gI 12 127 2 M v0).bind fun x3 =>
  (pI 12 127 4 M v0 x3).bind fun M4 =>
  (pI 12 127 10 M4 v0 v3).bind fun M5 =>
  (f_X12_isIn v4.toInt64 v1.toInt64 v2.toInt64 M5).bind fun x6 =>
  if x6 = 0 then
    (gI 12 127 10 M5 v0).bind fun x7 =>
    (f_X12_fail v0 ((2 : Int32)) x7 M5).bind fun M8 =>
    some ((v4, M8))
  else
    some ((v4, M5))
def f_X12_number_B85 (v0 : Nat) (M : sMem) : Option (Int32 × sMem) :=
  (gI 12 127 2 M v0).bind fun x9 =>
  (f_X12_fail v0 ((1 : Int32)) x9 M).bind fun M10 =>
  some (((0 : Int32), M10))
def f_X12_number_K49 (v0 : Nat) (v1 : Int32) (v2 : Int32) (v3 : Int32) (v4 : Int32) (M : sMem) : Option ((Int32 × sMem) ⊕ ((sMem) ⊕ ((Int32 × sMem)))) :=
  (gI 12 127 2 M v0).bind fun x11 =>
  (gI 12 127 3 M v0).bind fun x12 =>
  if x12 ≤ x11 then
    some (.inr (.inr ((v4, M))))
  else
    (gR 12 127 0 M v0).bind fun x13 =>
    (gI 12 127 2 M v0).bind fun x14 =>
    (ldI 14 M x13 x14).bind fun x15 =>
    (f_X12_isDigit x15 M).bind fun x16 =>
    if x16 = 0 then
      some (.inr (.inr ((v4, M))))
    else
      (gI 12 127 2 M v0).bind fun x17 =>
      if (x17 - v3) = (4 : Int32) then
        some (.inr (.inl (M)))
      else
        (gR 12 127 0 M v0).bind fun x18 =>
        (gI 12 127 2 M v0).bind fun x19 =>
        (ldI 14 M x18 x19).bind fun x20 =>
        (gI 12 127 2 M v0).bind fun x21 =>
        (pI 12 127 2 M v0 ((x21 + (1 : Int32)))).bind fun M22 =>
        some (.inl (((((((10 : Int32) * v4) + x20) - (48 : Int32))), M22)))
def f_X12_number_L49 (v0 : Nat) (v1 : Int32) (v2 : Int32) (v3 : Int32) (v4 : Int32) (M : sMem) : Option (Int32 × sMem) :=
  (sItr (fun a : (Int32 × sMem) => f_X12_number_K49 v0 v1 v2 v3 a.1 a.2) sFuel (v4, M)).bind (fun b => match b with
    | .inl (b) => f_X12_number_B85 v0 b
    | .inr (b) => f_X12_number_B129 v0 v1 v2 v3 b.1 b.2)
def f_X12_number (v0 : Nat) (v1 : Int32) (v2 : Int32) (M0 : sMem) : Option (Int32 × sMem) :=
  sRc 12 127 M0 v0 (
    (gI 12 127 5 M0 v0).bind fun x23 =>
    if x23 = 0 then
      (f_X12_look v0 M0).bind fun (x24, M25) =>
      (f_X12_isDigit x24 M25).bind fun x26 =>
      if x26 = 0 then
        f_X12_number_B30 v0 M25
      else
        (gI 12 127 2 M25 v0).bind fun x27 =>
        (gI 12 127 4 M25 v0).bind fun x28 =>
        if x27 = x28 then
          f_X12_number_B30 v0 M25
        else
          (gI 12 127 2 M25 v0).bind fun x29 =>
          f_X12_number_L49 v0 v1 v2 x29 ((0 : Int32)) M25
    else
      some (((0 : Int32), M0)))
set_option maxRecDepth 100000 in
set_option maxHeartbeats 4000000 in
theorem m_X12_number (G : sG) (l : Launch) (v0 : Nat) (v1 : Int32) (v2 : Int32) (M0 : sMem) : sC G l 2 yX12_number cX12_number 5 (some .int) [.ref v0, .int v1, .int v2] M0 rvI (f_X12_number v0 v1 v2 M0) := by
  refine sC_m (ls := [some (.ref v0), some (.int v1), some (.int v2), none, none]) (by decide +kernel) rfl (Nat.le_of_ble_eq_true rfl) (fun r M' K hr => ?_)
  unfold f_X12_number
  have xB30 : ∀ (v0 : Nat) (M : sMem), sX G l 2 yX12_number cX12_number 5 (some .int) M0 r M' 30 [some (.ref v0), none, none, none, none] [] M (f_X12_number_B30 v0 M) K := by
    intro v0 M
    unfold f_X12_number_B30
    refine sX_aload_n (i := 0) (by decide +kernel) rfl ?_
    refine sX_iconst (n := 1) (v := (1 : Int32)) (by decide +kernel) (by decide) ?_
    refine sX_aload_n (i := 0) (by decide +kernel) rfl ?_
    refine sX_getI lf_X12_306 tk_12_2 (by decide +kernel) (fun x1 => ?_)
    refine sX_callVv (As := [.int (1 : Int32), .int x1]) (by decide +kernel) lm_X12_330 mf_X12_fail mi_X12_fail mc_12 (m_X12_fail G l v0 ((1 : Int32)) x1 M) (fun _ h => sRc_some h) (by decide) rfl rfl (Nat.le_of_ble_eq_true rfl) (fun M2 => ?_)
    refine sX_iconst (n := 0) (v := (0 : Int32)) (by decide +kernel) (by decide) ?_
    exact sX_some (fun h _ => sW_iret (by decide +kernel) rfl (hr _ h).1.symm (hr _ h).2.symm)
  have xB129 : ∀ (v0 : Nat) (v1 : Int32) (v2 : Int32) (v3 : Int32) (v4 : Int32) (M : sMem), sX G l 2 yX12_number cX12_number 5 (some .int) M0 r M' 129 [some (.ref v0), some (.int v1), some (.int v2), some (.int v3), some (.int v4)] [] M (f_X12_number_B129 v0 v1 v2 v3 v4 M) K := by
    intro v0 v1 v2 v3 v4 M
    unfold f_X12_number_B129
    refine sX_aload_n (i := 0) (by decide +kernel) rfl ?_
    refine sX_aload_n (i := 0) (by decide +kernel) rfl ?_
    refine sX_getI lf_X12_306 tk_12_2 (by decide +kernel) (fun x3 => ?_)
    refine sX_putI lf_X12_320 tp_12_4 (by decide +kernel) (by decide) (fun M4 => ?_)
    refine sX_aload_n (i := 0) (by decide +kernel) rfl ?_
    refine sX_iload_n (i := 3) (by decide +kernel) rfl ?_
    refine sX_putI lf_X12_340 tp_12_10 (by decide +kernel) (by decide) (fun M5 => ?_)
    refine sX_iload (i := 4) (by decide +kernel) rfl ?_
    refine sX_i2l (by decide +kernel) ?_
    refine sX_iload_n (i := 1) (by decide +kernel) rfl ?_
    refine sX_i2l (by decide +kernel) ?_
    refine sX_iload_n (i := 2) (by decide +kernel) rfl ?_
    refine sX_i2l (by decide +kernel) ?_
    refine sX_callSp (As := [.long v4.toInt64, .long v1.toInt64, .long v2.toInt64]) (by decide +kernel) lm_X12_343 mf_X12_isIn ms_X12_isIn (m_X12_isIn G l v4.toInt64 v1.toInt64 v2.toInt64 M5) (by decide) rfl rfl (Nat.le_of_ble_eq_true rfl) (fun x6 => ?_)
    refine sX_ifne (o := 12) (t := 164) (by decide +kernel) (by decide) (fun _ => ?_) (fun _ => ?_)
    · refine sX_aload_n (i := 0) (by decide +kernel) rfl ?_
      refine sX_iconst (n := 2) (v := (2 : Int32)) (by decide +kernel) (by decide) ?_
      refine sX_aload_n (i := 0) (by decide +kernel) rfl ?_
      refine sX_getI lf_X12_340 tk_12_10 (by decide +kernel) (fun x7 => ?_)
      refine sX_callVv (As := [.int (2 : Int32), .int x7]) (by decide +kernel) lm_X12_330 mf_X12_fail mi_X12_fail mc_12 (m_X12_fail G l v0 ((2 : Int32)) x7 M5) (fun _ h => sRc_some h) (by decide) rfl rfl (Nat.le_of_ble_eq_true rfl) (fun M8 => ?_)
      refine sX_iload (i := 4) (by decide +kernel) rfl ?_
      exact sX_some (fun h _ => sW_iret (by decide +kernel) rfl (hr _ h).1.symm (hr _ h).2.symm)
    · refine sX_iload (i := 4) (by decide +kernel) rfl ?_
      exact sX_some (fun h _ => sW_iret (by decide +kernel) rfl (hr _ h).1.symm (hr _ h).2.symm)
  have xB85 : ∀ (v0 : Nat) (M : sMem), sX G l 2 yX12_number cX12_number 5 (some .int) M0 r M' 85 [some (.ref v0), none, none, none, none] [] M (f_X12_number_B85 v0 M) K := by
    intro v0 M
    unfold f_X12_number_B85
    refine sX_aload_n (i := 0) (by decide +kernel) rfl ?_
    refine sX_iconst (n := 1) (v := (1 : Int32)) (by decide +kernel) (by decide) ?_
    refine sX_aload_n (i := 0) (by decide +kernel) rfl ?_
    refine sX_getI lf_X12_306 tk_12_2 (by decide +kernel) (fun x9 => ?_)
    refine sX_callVv (As := [.int (1 : Int32), .int x9]) (by decide +kernel) lm_X12_330 mf_X12_fail mi_X12_fail mc_12 (m_X12_fail G l v0 ((1 : Int32)) x9 M) (fun _ h => sRc_some h) (by decide) rfl rfl (Nat.le_of_ble_eq_true rfl) (fun M10 => ?_)
    refine sX_iconst (n := 0) (v := (0 : Int32)) (by decide +kernel) (by decide) ?_
    exact sX_some (fun h _ => sW_iret (by decide +kernel) rfl (hr _ h).1.symm (hr _ h).2.symm)
  have xL49 : ∀ (v0 : Nat) (v1 : Int32) (v2 : Int32) (v3 : Int32) (v4 : Int32) (M : sMem), sX G l 2 yX12_number cX12_number 5 (some .int) M0 r M' 49 [some (.ref v0), some (.int v1), some (.int v2), some (.int v3), some (.int v4)] [] M (f_X12_number_L49 v0 v1 v2 v3 v4 M) K := by
    intro v0 v1 v2 v3 v4 M
    unfold f_X12_number_L49
    refine sX_bind ?_
    refine sX_loop (LS := fun a : (Int32 × sMem) => [some (.ref v0), some (.int v1), some (.int v2), some (.int v3), some (.int a.1)]) (MM := fun a => a.2) (fun K1 hb1 he1 => ?_) sFuel ((v4, M))
    have xK49 : ∀ (v4 : Int32) (M : sMem), sX G l 2 yX12_number cX12_number 5 (some .int) M0 r M' 49 [some (.ref v0), some (.int v1), some (.int v2), some (.int v3), some (.int v4)] [] M (f_X12_number_K49 v0 v1 v2 v3 v4 M) K1 := by
      intro v4 M
      unfold f_X12_number_K49
      refine sX_aload_n (i := 0) (by decide +kernel) rfl ?_
      refine sX_getI lf_X12_306 tk_12_2 (by decide +kernel) (fun x11 => ?_)
      refine sX_aload_n (i := 0) (by decide +kernel) rfl ?_
      refine sX_getI lf_X12_309 tk_12_3 (by decide +kernel) (fun x12 => ?_)
      refine sX_icge (o := 72) (t := 129) (by decide +kernel) (by decide) (fun _ => ?_) (fun _ => ?_)
      · refine sX_exit he1 ?_
        exact sX.le (xB129 v0 v1 v2 v3 v4 M) (sLe_s (sLe_s (sLe_s (sLe_s (sLe_s sLe_e)))))
      · refine sX_aload_n (i := 0) (by decide +kernel) rfl ?_
        refine sX_getR lf_X12_7 tk_12_0 (by decide +kernel) (fun x13 => ?_)
        refine sX_aload_n (i := 0) (by decide +kernel) rfl ?_
        refine sX_getI lf_X12_306 tk_12_2 (by decide +kernel) (fun x14 => ?_)
        refine sX_iaload (by decide +kernel) (fun x15 => ?_)
        refine sX_callSp (As := [.int x15]) (by decide +kernel) lm_X12_337 mf_X12_isDigit ms_X12_isDigit (m_X12_isDigit G l x15 M) (by decide) rfl rfl (Nat.le_of_ble_eq_true rfl) (fun x16 => ?_)
        refine sX_ifeq (o := 57) (t := 129) (by decide +kernel) (by decide) (fun _ => ?_) (fun _ => ?_)
        · refine sX_exit he1 ?_
          exact sX.le (xB129 v0 v1 v2 v3 v4 M) (sLe_s (sLe_s (sLe_s (sLe_s (sLe_s sLe_e)))))
        · refine sX_aload_n (i := 0) (by decide +kernel) rfl ?_
          refine sX_getI lf_X12_306 tk_12_2 (by decide +kernel) (fun x17 => ?_)
          refine sX_iload_n (i := 3) (by decide +kernel) rfl ?_
          refine sX_isub (by decide +kernel) ?_
          refine sX_iconst (n := 4) (v := (4 : Int32)) (by decide +kernel) (by decide) ?_
          refine sX_icne (o := 14) (t := 96) (by decide +kernel) (by decide) (fun _ => ?_) (fun _ => ?_)
          · refine sX_exit he1 ?_
            exact sX.le (xB85 v0 M) (sLe_s (sLe_n (sLe_n (sLe_n (sLe_n sLe_e)))))
          · refine sX_bipush (n := 10) (v := (10 : Int32)) (by decide +kernel) (by decide) ?_
            refine sX_iload (i := 4) (by decide +kernel) rfl ?_
            refine sX_imul (by decide +kernel) ?_
            refine sX_aload_n (i := 0) (by decide +kernel) rfl ?_
            refine sX_getR lf_X12_7 tk_12_0 (by decide +kernel) (fun x18 => ?_)
            refine sX_aload_n (i := 0) (by decide +kernel) rfl ?_
            refine sX_getI lf_X12_306 tk_12_2 (by decide +kernel) (fun x19 => ?_)
            refine sX_iaload (by decide +kernel) (fun x20 => ?_)
            refine sX_iadd (by decide +kernel) ?_
            refine sX_bipush (n := 48) (v := (48 : Int32)) (by decide +kernel) (by decide) ?_
            refine sX_isub (by decide +kernel) ?_
            refine sX_istore (i := 4) (ls2 := [some (.ref v0), some (.int v1), some (.int v2), some (.int v3), some (.int ((((10 : Int32) * v4) + x20) - (48 : Int32)))]) (by decide +kernel) (by decide) rfl ?_
            refine sX_aload_n (i := 0) (by decide +kernel) rfl ?_
            refine sX_dup (by decide +kernel) rfl ?_
            refine sX_getI lf_X12_306 tk_12_2 (by decide +kernel) (fun x21 => ?_)
            refine sX_iconst (n := 1) (v := (1 : Int32)) (by decide +kernel) (by decide) ?_
            refine sX_iadd (by decide +kernel) ?_
            refine sX_putI lf_X12_306 tp_12_2 (by decide +kernel) (by decide) (fun M22 => ?_)
            refine sX_goto (o := -77) (t := 49) (by decide +kernel) (by decide) ?_
            exact sX_back (a := ((((((10 : Int32) * v4) + x20) - (48 : Int32))), M22)) hb1 rfl (sLe_s (sLe_s (sLe_s (sLe_s (sLe_s sLe_e)))))
    exact fun a => xK49 a.1 a.2
  refine sX_rc ?_
  refine sX_aload_n (i := 0) (by decide +kernel) rfl ?_
  refine sX_getI lf_X12_300 tk_12_5 (by decide +kernel) (fun x23 => ?_)
  refine sX_ifeq (o := 5) (t := 9) (by decide +kernel) (by decide) (fun _ => ?_) (fun _ => ?_)
  · refine sX_aload_n (i := 0) (by decide +kernel) rfl ?_
    refine sX_callV (As := []) (by decide +kernel) lm_X12_312 mf_X12_look mi_X12_look mc_12 (m_X12_look G l v0 M0) (fun _ h => sRc_some h) (by decide) rfl rfl (Nat.le_of_ble_eq_true rfl) (fun x24 M25 _ => ?_)
    refine sX_callSp (As := [.int x24]) (by decide +kernel) lm_X12_337 mf_X12_isDigit ms_X12_isDigit (m_X12_isDigit G l x24 M25) (by decide) rfl rfl (Nat.le_of_ble_eq_true rfl) (fun x26 => ?_)
    refine sX_ifeq (o := 14) (t := 30) (by decide +kernel) (by decide) (fun _ => ?_) (fun _ => ?_)
    · exact sX.le (xB30 v0 M25) (sLe_s (sLe_n (sLe_n (sLe_n (sLe_n sLe_e)))))
    · refine sX_aload_n (i := 0) (by decide +kernel) rfl ?_
      refine sX_getI lf_X12_306 tk_12_2 (by decide +kernel) (fun x27 => ?_)
      refine sX_aload_n (i := 0) (by decide +kernel) rfl ?_
      refine sX_getI lf_X12_320 tk_12_4 (by decide +kernel) (fun x28 => ?_)
      refine sX_icne (o := 14) (t := 41) (by decide +kernel) (by decide) (fun _ => ?_) (fun _ => ?_)
      · exact sX.le (xB30 v0 M25) (sLe_s (sLe_n (sLe_n (sLe_n (sLe_n sLe_e)))))
      · refine sX_aload_n (i := 0) (by decide +kernel) rfl ?_
        refine sX_getI lf_X12_306 tk_12_2 (by decide +kernel) (fun x29 => ?_)
        refine sX_istore_n (i := 3) (ls2 := [some (.ref v0), some (.int v1), some (.int v2), some (.int x29), none]) (by decide +kernel) (by decide) rfl ?_
        refine sX_iconst (n := 0) (v := (0 : Int32)) (by decide +kernel) (by decide) ?_
        refine sX_istore (i := 4) (ls2 := [some (.ref v0), some (.int v1), some (.int v2), some (.int x29), some (.int (0 : Int32))]) (by decide +kernel) (by decide) rfl ?_
        exact sX.le (xL49 v0 v1 v2 x29 ((0 : Int32)) M25) (sLe_s (sLe_s (sLe_s (sLe_s (sLe_s sLe_e)))))
  · refine sX_iconst (n := 0) (v := (0 : Int32)) (by decide +kernel) (by decide) ?_
    exact sX_some (fun h _ => sW_iret (by decide +kernel) rfl (hr _ h).1.symm (hr _ h).2.symm)
def f_X12_isOwnHere_B418 (s0 : Int32) (M : sMem) : Option (Int32 × sMem) :=
  if s0 = 0 ∨ s0 = 1 then some ((s0, M)) else none
def f_X12_isOwnHere_B413 (M : sMem) : Option (Int32 × sMem) :=
  f_X12_isOwnHere_B418 ((1 : Int32)) M
def f_X12_isOwnHere_B375 (v0 : Nat) (s0 : Int32) (M : sMem) : Option (Int32 × sMem) :=
  if s0 = 0 then
    (gR 12 127 41 M v0).bind fun x1 =>
    (f_X12_isHere v0 x1 M).bind fun (x2, M3) =>
    if x2 = 0 then
      (gR 12 127 42 M3 v0).bind fun x4 =>
      (f_X12_isHere v0 x4 M3).bind fun (x5, M6) =>
      if x5 = 0 then
        (gR 12 127 43 M6 v0).bind fun x7 =>
        (f_X12_isHere v0 x7 M6).bind fun (x8, M9) =>
        if x8 = 0 then
          f_X12_isOwnHere_B418 ((0 : Int32)) M9
        else
          f_X12_isOwnHere_B413 M9
      else
        f_X12_isOwnHere_B413 M6
    else
      f_X12_isOwnHere_B413 M3
  else
    f_X12_isOwnHere_B413 M
def f_X12_isOwnHere_B370 (v0 : Nat) (M : sMem) : Option (Int32 × sMem) :=
  f_X12_isOwnHere_B375 v0 ((1 : Int32)) M
def f_X12_isOwnHere_B299 (v0 : Nat) (s0 : Int32) (M : sMem) : Option (Int32 × sMem) :=
  if s0 = 0 then
    (gR 12 127 35 M v0).bind fun x10 =>
    (f_X12_isHere v0 x10 M).bind fun (x11, M12) =>
    if x11 = 0 then
      (gR 12 127 36 M12 v0).bind fun x13 =>
      (f_X12_isHere v0 x13 M12).bind fun (x14, M15) =>
      if x14 = 0 then
        (gR 12 127 37 M15 v0).bind fun x16 =>
        (f_X12_isHere v0 x16 M15).bind fun (x17, M18) =>
        if x17 = 0 then
          (gR 12 127 38 M18 v0).bind fun x19 =>
          (f_X12_isHere v0 x19 M18).bind fun (x20, M21) =>
          if x20 = 0 then
            (gR 12 127 39 M21 v0).bind fun x22 =>
            (f_X12_isHere v0 x22 M21).bind fun (x23, M24) =>
            if x23 = 0 then
              (gR 12 127 40 M24 v0).bind fun x25 =>
              (f_X12_isHere v0 x25 M24).bind fun (x26, M27) =>
              if x26 = 0 then
                f_X12_isOwnHere_B375 v0 ((0 : Int32)) M27
              else
                f_X12_isOwnHere_B370 v0 M27
            else
              f_X12_isOwnHere_B370 v0 M24
          else
            f_X12_isOwnHere_B370 v0 M21
        else
          f_X12_isOwnHere_B370 v0 M18
      else
        f_X12_isOwnHere_B370 v0 M15
    else
      f_X12_isOwnHere_B370 v0 M12
  else
    f_X12_isOwnHere_B370 v0 M
def f_X12_isOwnHere_B294 (v0 : Nat) (M : sMem) : Option (Int32 × sMem) :=
  f_X12_isOwnHere_B299 v0 ((1 : Int32)) M
def f_X12_isOwnHere_B223 (v0 : Nat) (s0 : Int32) (M : sMem) : Option (Int32 × sMem) :=
  if s0 = 0 then
    (gR 12 127 29 M v0).bind fun x28 =>
    (f_X12_isHere v0 x28 M).bind fun (x29, M30) =>
    if x29 = 0 then
      (gR 12 127 30 M30 v0).bind fun x31 =>
      (f_X12_isHere v0 x31 M30).bind fun (x32, M33) =>
      if x32 = 0 then
        (gR 12 127 31 M33 v0).bind fun x34 =>
        (f_X12_isHere v0 x34 M33).bind fun (x35, M36) =>
        if x35 = 0 then
          (gR 12 127 32 M36 v0).bind fun x37 =>
          (f_X12_isHere v0 x37 M36).bind fun (x38, M39) =>
          if x38 = 0 then
            (gR 12 127 33 M39 v0).bind fun x40 =>
            (f_X12_isHere v0 x40 M39).bind fun (x41, M42) =>
            if x41 = 0 then
              (gR 12 127 34 M42 v0).bind fun x43 =>
              (f_X12_isHere v0 x43 M42).bind fun (x44, M45) =>
              if x44 = 0 then
                f_X12_isOwnHere_B299 v0 ((0 : Int32)) M45
              else
                f_X12_isOwnHere_B294 v0 M45
            else
              f_X12_isOwnHere_B294 v0 M42
          else
            f_X12_isOwnHere_B294 v0 M39
        else
          f_X12_isOwnHere_B294 v0 M36
      else
        f_X12_isOwnHere_B294 v0 M33
    else
      f_X12_isOwnHere_B294 v0 M30
  else
    f_X12_isOwnHere_B294 v0 M
def f_X12_isOwnHere_B218 (v0 : Nat) (M : sMem) : Option (Int32 × sMem) :=
  f_X12_isOwnHere_B223 v0 ((1 : Int32)) M
def f_X12_isOwnHere_B147 (v0 : Nat) (s0 : Int32) (M : sMem) : Option (Int32 × sMem) :=
  if s0 = 0 then
    (gR 12 127 23 M v0).bind fun x46 =>
    (f_X12_isHere v0 x46 M).bind fun (x47, M48) =>
    if x47 = 0 then
      (gR 12 127 24 M48 v0).bind fun x49 =>
      (f_X12_isHere v0 x49 M48).bind fun (x50, M51) =>
      if x50 = 0 then
        (gR 12 127 25 M51 v0).bind fun x52 =>
        (f_X12_isHere v0 x52 M51).bind fun (x53, M54) =>
        if x53 = 0 then
          (gR 12 127 26 M54 v0).bind fun x55 =>
          (f_X12_isHere v0 x55 M54).bind fun (x56, M57) =>
          if x56 = 0 then
            (gR 12 127 27 M57 v0).bind fun x58 =>
            (f_X12_isHere v0 x58 M57).bind fun (x59, M60) =>
            if x59 = 0 then
              (gR 12 127 28 M60 v0).bind fun x61 =>
              (f_X12_isHere v0 x61 M60).bind fun (x62, M63) =>
              if x62 = 0 then
                f_X12_isOwnHere_B223 v0 ((0 : Int32)) M63
              else
                f_X12_isOwnHere_B218 v0 M63
            else
              f_X12_isOwnHere_B218 v0 M60
          else
            f_X12_isOwnHere_B218 v0 M57
        else
          f_X12_isOwnHere_B218 v0 M54
      else
        f_X12_isOwnHere_B218 v0 M51
    else
      f_X12_isOwnHere_B218 v0 M48
  else
    f_X12_isOwnHere_B218 v0 M
def f_X12_isOwnHere_B142 (v0 : Nat) (M : sMem) : Option (Int32 × sMem) :=
  f_X12_isOwnHere_B147 v0 ((1 : Int32)) M
def f_X12_isOwnHere_B71 (v0 : Nat) (s0 : Int32) (M : sMem) : Option (Int32 × sMem) :=
  if s0 = 0 then
    (gR 12 127 17 M v0).bind fun x64 =>
    (f_X12_isHere v0 x64 M).bind fun (x65, M66) =>
    if x65 = 0 then
      (gR 12 127 18 M66 v0).bind fun x67 =>
      (f_X12_isHere v0 x67 M66).bind fun (x68, M69) =>
      if x68 = 0 then
        (gR 12 127 19 M69 v0).bind fun x70 =>
        (f_X12_isHere v0 x70 M69).bind fun (x71, M72) =>
        if x71 = 0 then
          (gR 12 127 20 M72 v0).bind fun x73 =>
          (f_X12_isHere v0 x73 M72).bind fun (x74, M75) =>
          if x74 = 0 then
            (gR 12 127 21 M75 v0).bind fun x76 =>
            (f_X12_isHere v0 x76 M75).bind fun (x77, M78) =>
            if x77 = 0 then
              (gR 12 127 22 M78 v0).bind fun x79 =>
              (f_X12_isHere v0 x79 M78).bind fun (x80, M81) =>
              if x80 = 0 then
                f_X12_isOwnHere_B147 v0 ((0 : Int32)) M81
              else
                f_X12_isOwnHere_B142 v0 M81
            else
              f_X12_isOwnHere_B142 v0 M78
          else
            f_X12_isOwnHere_B142 v0 M75
        else
          f_X12_isOwnHere_B142 v0 M72
      else
        f_X12_isOwnHere_B142 v0 M69
    else
      f_X12_isOwnHere_B142 v0 M66
  else
    f_X12_isOwnHere_B142 v0 M
def f_X12_isOwnHere_B66 (v0 : Nat) (M : sMem) : Option (Int32 × sMem) :=
  f_X12_isOwnHere_B71 v0 ((1 : Int32)) M
def f_X12_isOwnHere (v0 : Nat) (M0 : sMem) : Option (Int32 × sMem) :=
  sRc 12 127 M0 v0 (
    (gR 12 127 11 M0 v0).bind fun x82 =>
    (f_X12_isHere v0 x82 M0).bind fun (x83, M84) =>
    if x83 = 0 then
      (gR 12 127 12 M84 v0).bind fun x85 =>
      (f_X12_isHere v0 x85 M84).bind fun (x86, M87) =>
      if x86 = 0 then
        (gR 12 127 13 M87 v0).bind fun x88 =>
        (f_X12_isHere v0 x88 M87).bind fun (x89, M90) =>
        if x89 = 0 then
          (gR 12 127 14 M90 v0).bind fun x91 =>
          (f_X12_isHere v0 x91 M90).bind fun (x92, M93) =>
          if x92 = 0 then
            (gR 12 127 15 M93 v0).bind fun x94 =>
            (f_X12_isHere v0 x94 M93).bind fun (x95, M96) =>
            if x95 = 0 then
              (gR 12 127 16 M96 v0).bind fun x97 =>
              (f_X12_isHere v0 x97 M96).bind fun (x98, M99) =>
              if x98 = 0 then
                f_X12_isOwnHere_B71 v0 ((0 : Int32)) M99
              else
                f_X12_isOwnHere_B66 v0 M99
            else
              f_X12_isOwnHere_B66 v0 M96
          else
            f_X12_isOwnHere_B66 v0 M93
        else
          f_X12_isOwnHere_B66 v0 M90
      else
        f_X12_isOwnHere_B66 v0 M87
    else
      f_X12_isOwnHere_B66 v0 M84)
set_option maxRecDepth 100000 in
set_option maxHeartbeats 4000000 in
theorem m_X12_isOwnHere (G : sG) (l : Launch) (v0 : Nat) (M0 : sMem) : sC G l 3 yX12_isOwnHere cX12_isOwnHere 2 (some .boolean) [.ref v0] M0 rvI (f_X12_isOwnHere v0 M0) := by
  refine sC_m (ls := [some (.ref v0), none]) (by decide +kernel) rfl (Nat.le_of_ble_eq_true rfl) (fun r M' K hr => ?_)
  unfold f_X12_isOwnHere
  have xB418 : ∀ (s0 : Int32) (M : sMem), sX G l 3 yX12_isOwnHere cX12_isOwnHere 2 (some .boolean) M0 r M' 418 [none, none] [.int s0] M (f_X12_isOwnHere_B418 s0 M) K := by
    intro s0 M
    unfold f_X12_isOwnHere_B418
    refine sX_istore_n (i := 1) (ls2 := [none, some (.int s0)]) (by decide +kernel) (by decide) rfl ?_
    refine sX_iload_n (i := 1) (by decide +kernel) rfl ?_
    refine sX_g (fun hz => ?_)
    exact sX_some (fun h _ => sW_zret (by decide +kernel) rfl (nar_bool hz).1 (hr _ h).1.symm (hr _ h).2.symm)
  have xB413 : ∀ (M : sMem), sX G l 3 yX12_isOwnHere cX12_isOwnHere 2 (some .boolean) M0 r M' 413 [none, none] [] M (f_X12_isOwnHere_B413 M) K := by
    intro M
    unfold f_X12_isOwnHere_B413
    refine sX_iconst (n := 1) (v := (1 : Int32)) (by decide +kernel) (by decide) ?_
    refine sX_goto (o := 4) (t := 418) (by decide +kernel) (by decide) ?_
    exact sX.le (xB418 ((1 : Int32)) M) (sLe_n (sLe_n sLe_e))
  have xB375 : ∀ (v0 : Nat) (s0 : Int32) (M : sMem), sX G l 3 yX12_isOwnHere cX12_isOwnHere 2 (some .boolean) M0 r M' 375 [some (.ref v0), none] [.int s0] M (f_X12_isOwnHere_B375 v0 s0 M) K := by
    intro v0 s0 M
    unfold f_X12_isOwnHere_B375
    refine sX_istore_n (i := 1) (ls2 := [some (.ref v0), some (.int s0)]) (by decide +kernel) (by decide) rfl ?_
    refine sX_iload_n (i := 1) (by decide +kernel) rfl ?_
    refine sX_ifne (o := 36) (t := 413) (by decide +kernel) (by decide) (fun _ => ?_) (fun _ => ?_)
    · refine sX_aload_n (i := 0) (by decide +kernel) rfl ?_
      refine sX_aload_n (i := 0) (by decide +kernel) rfl ?_
      refine sX_getR lf_X12_111 tk_12_41 (by decide +kernel) (fun x1 => ?_)
      refine sX_callV (As := [.ref x1]) (by decide +kernel) lm_X12_323 mf_X12_isHere mi_X12_isHere mc_12 (m_X12_isHere G l v0 x1 M) (fun _ h => sRc_some h) (by decide) rfl rfl (Nat.le_of_ble_eq_true rfl) (fun x2 M3 _ => ?_)
      refine sX_ifne (o := 25) (t := 413) (by decide +kernel) (by decide) (fun _ => ?_) (fun _ => ?_)
      · refine sX_aload_n (i := 0) (by decide +kernel) rfl ?_
        refine sX_aload_n (i := 0) (by decide +kernel) rfl ?_
        refine sX_getR lf_X12_114 tk_12_42 (by decide +kernel) (fun x4 => ?_)
        refine sX_callV (As := [.ref x4]) (by decide +kernel) lm_X12_323 mf_X12_isHere mi_X12_isHere mc_12 (m_X12_isHere G l v0 x4 M3) (fun _ h => sRc_some h) (by decide) rfl rfl (Nat.le_of_ble_eq_true rfl) (fun x5 M6 _ => ?_)
        refine sX_ifne (o := 14) (t := 413) (by decide +kernel) (by decide) (fun _ => ?_) (fun _ => ?_)
        · refine sX_aload_n (i := 0) (by decide +kernel) rfl ?_
          refine sX_aload_n (i := 0) (by decide +kernel) rfl ?_
          refine sX_getR lf_X12_117 tk_12_43 (by decide +kernel) (fun x7 => ?_)
          refine sX_callV (As := [.ref x7]) (by decide +kernel) lm_X12_323 mf_X12_isHere mi_X12_isHere mc_12 (m_X12_isHere G l v0 x7 M6) (fun _ h => sRc_some h) (by decide) rfl rfl (Nat.le_of_ble_eq_true rfl) (fun x8 M9 _ => ?_)
          refine sX_ifeq (o := 7) (t := 417) (by decide +kernel) (by decide) (fun _ => ?_) (fun _ => ?_)
          · refine sX_iconst (n := 0) (v := (0 : Int32)) (by decide +kernel) (by decide) ?_
            exact sX.le (xB418 ((0 : Int32)) M9) (sLe_n (sLe_n sLe_e))
          · exact sX.le (xB413 M9) (sLe_n (sLe_n sLe_e))
        · exact sX.le (xB413 M6) (sLe_n (sLe_n sLe_e))
      · exact sX.le (xB413 M3) (sLe_n (sLe_n sLe_e))
    · exact sX.le (xB413 M) (sLe_n (sLe_n sLe_e))
  have xB370 : ∀ (v0 : Nat) (M : sMem), sX G l 3 yX12_isOwnHere cX12_isOwnHere 2 (some .boolean) M0 r M' 370 [some (.ref v0), none] [] M (f_X12_isOwnHere_B370 v0 M) K := by
    intro v0 M
    unfold f_X12_isOwnHere_B370
    refine sX_iconst (n := 1) (v := (1 : Int32)) (by decide +kernel) (by decide) ?_
    refine sX_goto (o := 4) (t := 375) (by decide +kernel) (by decide) ?_
    exact sX.le (xB375 v0 ((1 : Int32)) M) (sLe_s (sLe_n sLe_e))
  have xB299 : ∀ (v0 : Nat) (s0 : Int32) (M : sMem), sX G l 3 yX12_isOwnHere cX12_isOwnHere 2 (some .boolean) M0 r M' 299 [some (.ref v0), none] [.int s0] M (f_X12_isOwnHere_B299 v0 s0 M) K := by
    intro v0 s0 M
    unfold f_X12_isOwnHere_B299
    refine sX_istore_n (i := 1) (ls2 := [some (.ref v0), some (.int s0)]) (by decide +kernel) (by decide) rfl ?_
    refine sX_iload_n (i := 1) (by decide +kernel) rfl ?_
    refine sX_ifne (o := 69) (t := 370) (by decide +kernel) (by decide) (fun _ => ?_) (fun _ => ?_)
    · refine sX_aload_n (i := 0) (by decide +kernel) rfl ?_
      refine sX_aload_n (i := 0) (by decide +kernel) rfl ?_
      refine sX_getR lf_X12_93 tk_12_35 (by decide +kernel) (fun x10 => ?_)
      refine sX_callV (As := [.ref x10]) (by decide +kernel) lm_X12_323 mf_X12_isHere mi_X12_isHere mc_12 (m_X12_isHere G l v0 x10 M) (fun _ h => sRc_some h) (by decide) rfl rfl (Nat.le_of_ble_eq_true rfl) (fun x11 M12 _ => ?_)
      refine sX_ifne (o := 58) (t := 370) (by decide +kernel) (by decide) (fun _ => ?_) (fun _ => ?_)
      · refine sX_aload_n (i := 0) (by decide +kernel) rfl ?_
        refine sX_aload_n (i := 0) (by decide +kernel) rfl ?_
        refine sX_getR lf_X12_96 tk_12_36 (by decide +kernel) (fun x13 => ?_)
        refine sX_callV (As := [.ref x13]) (by decide +kernel) lm_X12_323 mf_X12_isHere mi_X12_isHere mc_12 (m_X12_isHere G l v0 x13 M12) (fun _ h => sRc_some h) (by decide) rfl rfl (Nat.le_of_ble_eq_true rfl) (fun x14 M15 _ => ?_)
        refine sX_ifne (o := 47) (t := 370) (by decide +kernel) (by decide) (fun _ => ?_) (fun _ => ?_)
        · refine sX_aload_n (i := 0) (by decide +kernel) rfl ?_
          refine sX_aload_n (i := 0) (by decide +kernel) rfl ?_
          refine sX_getR lf_X12_99 tk_12_37 (by decide +kernel) (fun x16 => ?_)
          refine sX_callV (As := [.ref x16]) (by decide +kernel) lm_X12_323 mf_X12_isHere mi_X12_isHere mc_12 (m_X12_isHere G l v0 x16 M15) (fun _ h => sRc_some h) (by decide) rfl rfl (Nat.le_of_ble_eq_true rfl) (fun x17 M18 _ => ?_)
          refine sX_ifne (o := 36) (t := 370) (by decide +kernel) (by decide) (fun _ => ?_) (fun _ => ?_)
          · refine sX_aload_n (i := 0) (by decide +kernel) rfl ?_
            refine sX_aload_n (i := 0) (by decide +kernel) rfl ?_
            refine sX_getR lf_X12_102 tk_12_38 (by decide +kernel) (fun x19 => ?_)
            refine sX_callV (As := [.ref x19]) (by decide +kernel) lm_X12_323 mf_X12_isHere mi_X12_isHere mc_12 (m_X12_isHere G l v0 x19 M18) (fun _ h => sRc_some h) (by decide) rfl rfl (Nat.le_of_ble_eq_true rfl) (fun x20 M21 _ => ?_)
            refine sX_ifne (o := 25) (t := 370) (by decide +kernel) (by decide) (fun _ => ?_) (fun _ => ?_)
            · refine sX_aload_n (i := 0) (by decide +kernel) rfl ?_
              refine sX_aload_n (i := 0) (by decide +kernel) rfl ?_
              refine sX_getR lf_X12_105 tk_12_39 (by decide +kernel) (fun x22 => ?_)
              refine sX_callV (As := [.ref x22]) (by decide +kernel) lm_X12_323 mf_X12_isHere mi_X12_isHere mc_12 (m_X12_isHere G l v0 x22 M21) (fun _ h => sRc_some h) (by decide) rfl rfl (Nat.le_of_ble_eq_true rfl) (fun x23 M24 _ => ?_)
              refine sX_ifne (o := 14) (t := 370) (by decide +kernel) (by decide) (fun _ => ?_) (fun _ => ?_)
              · refine sX_aload_n (i := 0) (by decide +kernel) rfl ?_
                refine sX_aload_n (i := 0) (by decide +kernel) rfl ?_
                refine sX_getR lf_X12_108 tk_12_40 (by decide +kernel) (fun x25 => ?_)
                refine sX_callV (As := [.ref x25]) (by decide +kernel) lm_X12_323 mf_X12_isHere mi_X12_isHere mc_12 (m_X12_isHere G l v0 x25 M24) (fun _ h => sRc_some h) (by decide) rfl rfl (Nat.le_of_ble_eq_true rfl) (fun x26 M27 _ => ?_)
                refine sX_ifeq (o := 7) (t := 374) (by decide +kernel) (by decide) (fun _ => ?_) (fun _ => ?_)
                · refine sX_iconst (n := 0) (v := (0 : Int32)) (by decide +kernel) (by decide) ?_
                  exact sX.le (xB375 v0 ((0 : Int32)) M27) (sLe_s (sLe_n sLe_e))
                · exact sX.le (xB370 v0 M27) (sLe_s (sLe_n sLe_e))
              · exact sX.le (xB370 v0 M24) (sLe_s (sLe_n sLe_e))
            · exact sX.le (xB370 v0 M21) (sLe_s (sLe_n sLe_e))
          · exact sX.le (xB370 v0 M18) (sLe_s (sLe_n sLe_e))
        · exact sX.le (xB370 v0 M15) (sLe_s (sLe_n sLe_e))
      · exact sX.le (xB370 v0 M12) (sLe_s (sLe_n sLe_e))
    · exact sX.le (xB370 v0 M) (sLe_s (sLe_n sLe_e))
  have xB294 : ∀ (v0 : Nat) (M : sMem), sX G l 3 yX12_isOwnHere cX12_isOwnHere 2 (some .boolean) M0 r M' 294 [some (.ref v0), none] [] M (f_X12_isOwnHere_B294 v0 M) K := by
    intro v0 M
    unfold f_X12_isOwnHere_B294
    refine sX_iconst (n := 1) (v := (1 : Int32)) (by decide +kernel) (by decide) ?_
    refine sX_goto (o := 4) (t := 299) (by decide +kernel) (by decide) ?_
    exact sX.le (xB299 v0 ((1 : Int32)) M) (sLe_s (sLe_n sLe_e))
  have xB223 : ∀ (v0 : Nat) (s0 : Int32) (M : sMem), sX G l 3 yX12_isOwnHere cX12_isOwnHere 2 (some .boolean) M0 r M' 223 [some (.ref v0), none] [.int s0] M (f_X12_isOwnHere_B223 v0 s0 M) K := by
    intro v0 s0 M
    unfold f_X12_isOwnHere_B223
    refine sX_istore_n (i := 1) (ls2 := [some (.ref v0), some (.int s0)]) (by decide +kernel) (by decide) rfl ?_
    refine sX_iload_n (i := 1) (by decide +kernel) rfl ?_
    refine sX_ifne (o := 69) (t := 294) (by decide +kernel) (by decide) (fun _ => ?_) (fun _ => ?_)
    · refine sX_aload_n (i := 0) (by decide +kernel) rfl ?_
      refine sX_aload_n (i := 0) (by decide +kernel) rfl ?_
      refine sX_getR lf_X12_75 tk_12_29 (by decide +kernel) (fun x28 => ?_)
      refine sX_callV (As := [.ref x28]) (by decide +kernel) lm_X12_323 mf_X12_isHere mi_X12_isHere mc_12 (m_X12_isHere G l v0 x28 M) (fun _ h => sRc_some h) (by decide) rfl rfl (Nat.le_of_ble_eq_true rfl) (fun x29 M30 _ => ?_)
      refine sX_ifne (o := 58) (t := 294) (by decide +kernel) (by decide) (fun _ => ?_) (fun _ => ?_)
      · refine sX_aload_n (i := 0) (by decide +kernel) rfl ?_
        refine sX_aload_n (i := 0) (by decide +kernel) rfl ?_
        refine sX_getR lf_X12_78 tk_12_30 (by decide +kernel) (fun x31 => ?_)
        refine sX_callV (As := [.ref x31]) (by decide +kernel) lm_X12_323 mf_X12_isHere mi_X12_isHere mc_12 (m_X12_isHere G l v0 x31 M30) (fun _ h => sRc_some h) (by decide) rfl rfl (Nat.le_of_ble_eq_true rfl) (fun x32 M33 _ => ?_)
        refine sX_ifne (o := 47) (t := 294) (by decide +kernel) (by decide) (fun _ => ?_) (fun _ => ?_)
        · refine sX_aload_n (i := 0) (by decide +kernel) rfl ?_
          refine sX_aload_n (i := 0) (by decide +kernel) rfl ?_
          refine sX_getR lf_X12_81 tk_12_31 (by decide +kernel) (fun x34 => ?_)
          refine sX_callV (As := [.ref x34]) (by decide +kernel) lm_X12_323 mf_X12_isHere mi_X12_isHere mc_12 (m_X12_isHere G l v0 x34 M33) (fun _ h => sRc_some h) (by decide) rfl rfl (Nat.le_of_ble_eq_true rfl) (fun x35 M36 _ => ?_)
          refine sX_ifne (o := 36) (t := 294) (by decide +kernel) (by decide) (fun _ => ?_) (fun _ => ?_)
          · refine sX_aload_n (i := 0) (by decide +kernel) rfl ?_
            refine sX_aload_n (i := 0) (by decide +kernel) rfl ?_
            refine sX_getR lf_X12_84 tk_12_32 (by decide +kernel) (fun x37 => ?_)
            refine sX_callV (As := [.ref x37]) (by decide +kernel) lm_X12_323 mf_X12_isHere mi_X12_isHere mc_12 (m_X12_isHere G l v0 x37 M36) (fun _ h => sRc_some h) (by decide) rfl rfl (Nat.le_of_ble_eq_true rfl) (fun x38 M39 _ => ?_)
            refine sX_ifne (o := 25) (t := 294) (by decide +kernel) (by decide) (fun _ => ?_) (fun _ => ?_)
            · refine sX_aload_n (i := 0) (by decide +kernel) rfl ?_
              refine sX_aload_n (i := 0) (by decide +kernel) rfl ?_
              refine sX_getR lf_X12_87 tk_12_33 (by decide +kernel) (fun x40 => ?_)
              refine sX_callV (As := [.ref x40]) (by decide +kernel) lm_X12_323 mf_X12_isHere mi_X12_isHere mc_12 (m_X12_isHere G l v0 x40 M39) (fun _ h => sRc_some h) (by decide) rfl rfl (Nat.le_of_ble_eq_true rfl) (fun x41 M42 _ => ?_)
              refine sX_ifne (o := 14) (t := 294) (by decide +kernel) (by decide) (fun _ => ?_) (fun _ => ?_)
              · refine sX_aload_n (i := 0) (by decide +kernel) rfl ?_
                refine sX_aload_n (i := 0) (by decide +kernel) rfl ?_
                refine sX_getR lf_X12_90 tk_12_34 (by decide +kernel) (fun x43 => ?_)
                refine sX_callV (As := [.ref x43]) (by decide +kernel) lm_X12_323 mf_X12_isHere mi_X12_isHere mc_12 (m_X12_isHere G l v0 x43 M42) (fun _ h => sRc_some h) (by decide) rfl rfl (Nat.le_of_ble_eq_true rfl) (fun x44 M45 _ => ?_)
                refine sX_ifeq (o := 7) (t := 298) (by decide +kernel) (by decide) (fun _ => ?_) (fun _ => ?_)
                · refine sX_iconst (n := 0) (v := (0 : Int32)) (by decide +kernel) (by decide) ?_
                  exact sX.le (xB299 v0 ((0 : Int32)) M45) (sLe_s (sLe_n sLe_e))
                · exact sX.le (xB294 v0 M45) (sLe_s (sLe_n sLe_e))
              · exact sX.le (xB294 v0 M42) (sLe_s (sLe_n sLe_e))
            · exact sX.le (xB294 v0 M39) (sLe_s (sLe_n sLe_e))
          · exact sX.le (xB294 v0 M36) (sLe_s (sLe_n sLe_e))
        · exact sX.le (xB294 v0 M33) (sLe_s (sLe_n sLe_e))
      · exact sX.le (xB294 v0 M30) (sLe_s (sLe_n sLe_e))
    · exact sX.le (xB294 v0 M) (sLe_s (sLe_n sLe_e))
  have xB218 : ∀ (v0 : Nat) (M : sMem), sX G l 3 yX12_isOwnHere cX12_isOwnHere 2 (some .boolean) M0 r M' 218 [some (.ref v0), none] [] M (f_X12_isOwnHere_B218 v0 M) K := by
    intro v0 M
    unfold f_X12_isOwnHere_B218
    refine sX_iconst (n := 1) (v := (1 : Int32)) (by decide +kernel) (by decide) ?_
    refine sX_goto (o := 4) (t := 223) (by decide +kernel) (by decide) ?_
    exact sX.le (xB223 v0 ((1 : Int32)) M) (sLe_s (sLe_n sLe_e))
  have xB147 : ∀ (v0 : Nat) (s0 : Int32) (M : sMem), sX G l 3 yX12_isOwnHere cX12_isOwnHere 2 (some .boolean) M0 r M' 147 [some (.ref v0), none] [.int s0] M (f_X12_isOwnHere_B147 v0 s0 M) K := by
    intro v0 s0 M
    unfold f_X12_isOwnHere_B147
    refine sX_istore_n (i := 1) (ls2 := [some (.ref v0), some (.int s0)]) (by decide +kernel) (by decide) rfl ?_
    refine sX_iload_n (i := 1) (by decide +kernel) rfl ?_
    refine sX_ifne (o := 69) (t := 218) (by decide +kernel) (by decide) (fun _ => ?_) (fun _ => ?_)
    · refine sX_aload_n (i := 0) (by decide +kernel) rfl ?_
      refine sX_aload_n (i := 0) (by decide +kernel) rfl ?_
      refine sX_getR lf_X12_57 tk_12_23 (by decide +kernel) (fun x46 => ?_)
      refine sX_callV (As := [.ref x46]) (by decide +kernel) lm_X12_323 mf_X12_isHere mi_X12_isHere mc_12 (m_X12_isHere G l v0 x46 M) (fun _ h => sRc_some h) (by decide) rfl rfl (Nat.le_of_ble_eq_true rfl) (fun x47 M48 _ => ?_)
      refine sX_ifne (o := 58) (t := 218) (by decide +kernel) (by decide) (fun _ => ?_) (fun _ => ?_)
      · refine sX_aload_n (i := 0) (by decide +kernel) rfl ?_
        refine sX_aload_n (i := 0) (by decide +kernel) rfl ?_
        refine sX_getR lf_X12_60 tk_12_24 (by decide +kernel) (fun x49 => ?_)
        refine sX_callV (As := [.ref x49]) (by decide +kernel) lm_X12_323 mf_X12_isHere mi_X12_isHere mc_12 (m_X12_isHere G l v0 x49 M48) (fun _ h => sRc_some h) (by decide) rfl rfl (Nat.le_of_ble_eq_true rfl) (fun x50 M51 _ => ?_)
        refine sX_ifne (o := 47) (t := 218) (by decide +kernel) (by decide) (fun _ => ?_) (fun _ => ?_)
        · refine sX_aload_n (i := 0) (by decide +kernel) rfl ?_
          refine sX_aload_n (i := 0) (by decide +kernel) rfl ?_
          refine sX_getR lf_X12_63 tk_12_25 (by decide +kernel) (fun x52 => ?_)
          refine sX_callV (As := [.ref x52]) (by decide +kernel) lm_X12_323 mf_X12_isHere mi_X12_isHere mc_12 (m_X12_isHere G l v0 x52 M51) (fun _ h => sRc_some h) (by decide) rfl rfl (Nat.le_of_ble_eq_true rfl) (fun x53 M54 _ => ?_)
          refine sX_ifne (o := 36) (t := 218) (by decide +kernel) (by decide) (fun _ => ?_) (fun _ => ?_)
          · refine sX_aload_n (i := 0) (by decide +kernel) rfl ?_
            refine sX_aload_n (i := 0) (by decide +kernel) rfl ?_
            refine sX_getR lf_X12_66 tk_12_26 (by decide +kernel) (fun x55 => ?_)
            refine sX_callV (As := [.ref x55]) (by decide +kernel) lm_X12_323 mf_X12_isHere mi_X12_isHere mc_12 (m_X12_isHere G l v0 x55 M54) (fun _ h => sRc_some h) (by decide) rfl rfl (Nat.le_of_ble_eq_true rfl) (fun x56 M57 _ => ?_)
            refine sX_ifne (o := 25) (t := 218) (by decide +kernel) (by decide) (fun _ => ?_) (fun _ => ?_)
            · refine sX_aload_n (i := 0) (by decide +kernel) rfl ?_
              refine sX_aload_n (i := 0) (by decide +kernel) rfl ?_
              refine sX_getR lf_X12_69 tk_12_27 (by decide +kernel) (fun x58 => ?_)
              refine sX_callV (As := [.ref x58]) (by decide +kernel) lm_X12_323 mf_X12_isHere mi_X12_isHere mc_12 (m_X12_isHere G l v0 x58 M57) (fun _ h => sRc_some h) (by decide) rfl rfl (Nat.le_of_ble_eq_true rfl) (fun x59 M60 _ => ?_)
              refine sX_ifne (o := 14) (t := 218) (by decide +kernel) (by decide) (fun _ => ?_) (fun _ => ?_)
              · refine sX_aload_n (i := 0) (by decide +kernel) rfl ?_
                refine sX_aload_n (i := 0) (by decide +kernel) rfl ?_
                refine sX_getR lf_X12_72 tk_12_28 (by decide +kernel) (fun x61 => ?_)
                refine sX_callV (As := [.ref x61]) (by decide +kernel) lm_X12_323 mf_X12_isHere mi_X12_isHere mc_12 (m_X12_isHere G l v0 x61 M60) (fun _ h => sRc_some h) (by decide) rfl rfl (Nat.le_of_ble_eq_true rfl) (fun x62 M63 _ => ?_)
                refine sX_ifeq (o := 7) (t := 222) (by decide +kernel) (by decide) (fun _ => ?_) (fun _ => ?_)
                · refine sX_iconst (n := 0) (v := (0 : Int32)) (by decide +kernel) (by decide) ?_
                  exact sX.le (xB223 v0 ((0 : Int32)) M63) (sLe_s (sLe_n sLe_e))
                · exact sX.le (xB218 v0 M63) (sLe_s (sLe_n sLe_e))
              · exact sX.le (xB218 v0 M60) (sLe_s (sLe_n sLe_e))
            · exact sX.le (xB218 v0 M57) (sLe_s (sLe_n sLe_e))
          · exact sX.le (xB218 v0 M54) (sLe_s (sLe_n sLe_e))
        · exact sX.le (xB218 v0 M51) (sLe_s (sLe_n sLe_e))
      · exact sX.le (xB218 v0 M48) (sLe_s (sLe_n sLe_e))
    · exact sX.le (xB218 v0 M) (sLe_s (sLe_n sLe_e))
  have xB142 : ∀ (v0 : Nat) (M : sMem), sX G l 3 yX12_isOwnHere cX12_isOwnHere 2 (some .boolean) M0 r M' 142 [some (.ref v0), none] [] M (f_X12_isOwnHere_B142 v0 M) K := by
    intro v0 M
    unfold f_X12_isOwnHere_B142
    refine sX_iconst (n := 1) (v := (1 : Int32)) (by decide +kernel) (by decide) ?_
    refine sX_goto (o := 4) (t := 147) (by decide +kernel) (by decide) ?_
    exact sX.le (xB147 v0 ((1 : Int32)) M) (sLe_s (sLe_n sLe_e))
  have xB71 : ∀ (v0 : Nat) (s0 : Int32) (M : sMem), sX G l 3 yX12_isOwnHere cX12_isOwnHere 2 (some .boolean) M0 r M' 71 [some (.ref v0), none] [.int s0] M (f_X12_isOwnHere_B71 v0 s0 M) K := by
    intro v0 s0 M
    unfold f_X12_isOwnHere_B71
    refine sX_istore_n (i := 1) (ls2 := [some (.ref v0), some (.int s0)]) (by decide +kernel) (by decide) rfl ?_
    refine sX_iload_n (i := 1) (by decide +kernel) rfl ?_
    refine sX_ifne (o := 69) (t := 142) (by decide +kernel) (by decide) (fun _ => ?_) (fun _ => ?_)
    · refine sX_aload_n (i := 0) (by decide +kernel) rfl ?_
      refine sX_aload_n (i := 0) (by decide +kernel) rfl ?_
      refine sX_getR lf_X12_39 tk_12_17 (by decide +kernel) (fun x64 => ?_)
      refine sX_callV (As := [.ref x64]) (by decide +kernel) lm_X12_323 mf_X12_isHere mi_X12_isHere mc_12 (m_X12_isHere G l v0 x64 M) (fun _ h => sRc_some h) (by decide) rfl rfl (Nat.le_of_ble_eq_true rfl) (fun x65 M66 _ => ?_)
      refine sX_ifne (o := 58) (t := 142) (by decide +kernel) (by decide) (fun _ => ?_) (fun _ => ?_)
      · refine sX_aload_n (i := 0) (by decide +kernel) rfl ?_
        refine sX_aload_n (i := 0) (by decide +kernel) rfl ?_
        refine sX_getR lf_X12_42 tk_12_18 (by decide +kernel) (fun x67 => ?_)
        refine sX_callV (As := [.ref x67]) (by decide +kernel) lm_X12_323 mf_X12_isHere mi_X12_isHere mc_12 (m_X12_isHere G l v0 x67 M66) (fun _ h => sRc_some h) (by decide) rfl rfl (Nat.le_of_ble_eq_true rfl) (fun x68 M69 _ => ?_)
        refine sX_ifne (o := 47) (t := 142) (by decide +kernel) (by decide) (fun _ => ?_) (fun _ => ?_)
        · refine sX_aload_n (i := 0) (by decide +kernel) rfl ?_
          refine sX_aload_n (i := 0) (by decide +kernel) rfl ?_
          refine sX_getR lf_X12_45 tk_12_19 (by decide +kernel) (fun x70 => ?_)
          refine sX_callV (As := [.ref x70]) (by decide +kernel) lm_X12_323 mf_X12_isHere mi_X12_isHere mc_12 (m_X12_isHere G l v0 x70 M69) (fun _ h => sRc_some h) (by decide) rfl rfl (Nat.le_of_ble_eq_true rfl) (fun x71 M72 _ => ?_)
          refine sX_ifne (o := 36) (t := 142) (by decide +kernel) (by decide) (fun _ => ?_) (fun _ => ?_)
          · refine sX_aload_n (i := 0) (by decide +kernel) rfl ?_
            refine sX_aload_n (i := 0) (by decide +kernel) rfl ?_
            refine sX_getR lf_X12_48 tk_12_20 (by decide +kernel) (fun x73 => ?_)
            refine sX_callV (As := [.ref x73]) (by decide +kernel) lm_X12_323 mf_X12_isHere mi_X12_isHere mc_12 (m_X12_isHere G l v0 x73 M72) (fun _ h => sRc_some h) (by decide) rfl rfl (Nat.le_of_ble_eq_true rfl) (fun x74 M75 _ => ?_)
            refine sX_ifne (o := 25) (t := 142) (by decide +kernel) (by decide) (fun _ => ?_) (fun _ => ?_)
            · refine sX_aload_n (i := 0) (by decide +kernel) rfl ?_
              refine sX_aload_n (i := 0) (by decide +kernel) rfl ?_
              refine sX_getR lf_X12_51 tk_12_21 (by decide +kernel) (fun x76 => ?_)
              refine sX_callV (As := [.ref x76]) (by decide +kernel) lm_X12_323 mf_X12_isHere mi_X12_isHere mc_12 (m_X12_isHere G l v0 x76 M75) (fun _ h => sRc_some h) (by decide) rfl rfl (Nat.le_of_ble_eq_true rfl) (fun x77 M78 _ => ?_)
              refine sX_ifne (o := 14) (t := 142) (by decide +kernel) (by decide) (fun _ => ?_) (fun _ => ?_)
              · refine sX_aload_n (i := 0) (by decide +kernel) rfl ?_
                refine sX_aload_n (i := 0) (by decide +kernel) rfl ?_
                refine sX_getR lf_X12_54 tk_12_22 (by decide +kernel) (fun x79 => ?_)
                refine sX_callV (As := [.ref x79]) (by decide +kernel) lm_X12_323 mf_X12_isHere mi_X12_isHere mc_12 (m_X12_isHere G l v0 x79 M78) (fun _ h => sRc_some h) (by decide) rfl rfl (Nat.le_of_ble_eq_true rfl) (fun x80 M81 _ => ?_)
                refine sX_ifeq (o := 7) (t := 146) (by decide +kernel) (by decide) (fun _ => ?_) (fun _ => ?_)
                · refine sX_iconst (n := 0) (v := (0 : Int32)) (by decide +kernel) (by decide) ?_
                  exact sX.le (xB147 v0 ((0 : Int32)) M81) (sLe_s (sLe_n sLe_e))
                · exact sX.le (xB142 v0 M81) (sLe_s (sLe_n sLe_e))
              · exact sX.le (xB142 v0 M78) (sLe_s (sLe_n sLe_e))
            · exact sX.le (xB142 v0 M75) (sLe_s (sLe_n sLe_e))
          · exact sX.le (xB142 v0 M72) (sLe_s (sLe_n sLe_e))
        · exact sX.le (xB142 v0 M69) (sLe_s (sLe_n sLe_e))
      · exact sX.le (xB142 v0 M66) (sLe_s (sLe_n sLe_e))
    · exact sX.le (xB142 v0 M) (sLe_s (sLe_n sLe_e))
  have xB66 : ∀ (v0 : Nat) (M : sMem), sX G l 3 yX12_isOwnHere cX12_isOwnHere 2 (some .boolean) M0 r M' 66 [some (.ref v0), none] [] M (f_X12_isOwnHere_B66 v0 M) K := by
    intro v0 M
    unfold f_X12_isOwnHere_B66
    refine sX_iconst (n := 1) (v := (1 : Int32)) (by decide +kernel) (by decide) ?_
    refine sX_goto (o := 4) (t := 71) (by decide +kernel) (by decide) ?_
    exact sX.le (xB71 v0 ((1 : Int32)) M) (sLe_s (sLe_n sLe_e))
  refine sX_rc ?_
  refine sX_aload_n (i := 0) (by decide +kernel) rfl ?_
  refine sX_aload_n (i := 0) (by decide +kernel) rfl ?_
  refine sX_getR lf_X12_20 tk_12_11 (by decide +kernel) (fun x82 => ?_)
  refine sX_callV (As := [.ref x82]) (by decide +kernel) lm_X12_323 mf_X12_isHere mi_X12_isHere mc_12 (m_X12_isHere G l v0 x82 M0) (fun _ h => sRc_some h) (by decide) rfl rfl (Nat.le_of_ble_eq_true rfl) (fun x83 M84 _ => ?_)
  refine sX_ifne (o := 58) (t := 66) (by decide +kernel) (by decide) (fun _ => ?_) (fun _ => ?_)
  · refine sX_aload_n (i := 0) (by decide +kernel) rfl ?_
    refine sX_aload_n (i := 0) (by decide +kernel) rfl ?_
    refine sX_getR lf_X12_24 tk_12_12 (by decide +kernel) (fun x85 => ?_)
    refine sX_callV (As := [.ref x85]) (by decide +kernel) lm_X12_323 mf_X12_isHere mi_X12_isHere mc_12 (m_X12_isHere G l v0 x85 M84) (fun _ h => sRc_some h) (by decide) rfl rfl (Nat.le_of_ble_eq_true rfl) (fun x86 M87 _ => ?_)
    refine sX_ifne (o := 47) (t := 66) (by decide +kernel) (by decide) (fun _ => ?_) (fun _ => ?_)
    · refine sX_aload_n (i := 0) (by decide +kernel) rfl ?_
      refine sX_aload_n (i := 0) (by decide +kernel) rfl ?_
      refine sX_getR lf_X12_27 tk_12_13 (by decide +kernel) (fun x88 => ?_)
      refine sX_callV (As := [.ref x88]) (by decide +kernel) lm_X12_323 mf_X12_isHere mi_X12_isHere mc_12 (m_X12_isHere G l v0 x88 M87) (fun _ h => sRc_some h) (by decide) rfl rfl (Nat.le_of_ble_eq_true rfl) (fun x89 M90 _ => ?_)
      refine sX_ifne (o := 36) (t := 66) (by decide +kernel) (by decide) (fun _ => ?_) (fun _ => ?_)
      · refine sX_aload_n (i := 0) (by decide +kernel) rfl ?_
        refine sX_aload_n (i := 0) (by decide +kernel) rfl ?_
        refine sX_getR lf_X12_30 tk_12_14 (by decide +kernel) (fun x91 => ?_)
        refine sX_callV (As := [.ref x91]) (by decide +kernel) lm_X12_323 mf_X12_isHere mi_X12_isHere mc_12 (m_X12_isHere G l v0 x91 M90) (fun _ h => sRc_some h) (by decide) rfl rfl (Nat.le_of_ble_eq_true rfl) (fun x92 M93 _ => ?_)
        refine sX_ifne (o := 25) (t := 66) (by decide +kernel) (by decide) (fun _ => ?_) (fun _ => ?_)
        · refine sX_aload_n (i := 0) (by decide +kernel) rfl ?_
          refine sX_aload_n (i := 0) (by decide +kernel) rfl ?_
          refine sX_getR lf_X12_33 tk_12_15 (by decide +kernel) (fun x94 => ?_)
          refine sX_callV (As := [.ref x94]) (by decide +kernel) lm_X12_323 mf_X12_isHere mi_X12_isHere mc_12 (m_X12_isHere G l v0 x94 M93) (fun _ h => sRc_some h) (by decide) rfl rfl (Nat.le_of_ble_eq_true rfl) (fun x95 M96 _ => ?_)
          refine sX_ifne (o := 14) (t := 66) (by decide +kernel) (by decide) (fun _ => ?_) (fun _ => ?_)
          · refine sX_aload_n (i := 0) (by decide +kernel) rfl ?_
            refine sX_aload_n (i := 0) (by decide +kernel) rfl ?_
            refine sX_getR lf_X12_36 tk_12_16 (by decide +kernel) (fun x97 => ?_)
            refine sX_callV (As := [.ref x97]) (by decide +kernel) lm_X12_323 mf_X12_isHere mi_X12_isHere mc_12 (m_X12_isHere G l v0 x97 M96) (fun _ h => sRc_some h) (by decide) rfl rfl (Nat.le_of_ble_eq_true rfl) (fun x98 M99 _ => ?_)
            refine sX_ifeq (o := 7) (t := 70) (by decide +kernel) (by decide) (fun _ => ?_) (fun _ => ?_)
            · refine sX_iconst (n := 0) (v := (0 : Int32)) (by decide +kernel) (by decide) ?_
              exact sX.le (xB71 v0 ((0 : Int32)) M99) (sLe_s (sLe_n sLe_e))
            · exact sX.le (xB66 v0 M99) (sLe_s (sLe_n sLe_e))
          · exact sX.le (xB66 v0 M96) (sLe_s (sLe_n sLe_e))
        · exact sX.le (xB66 v0 M93) (sLe_s (sLe_n sLe_e))
      · exact sX.le (xB66 v0 M90) (sLe_s (sLe_n sLe_e))
    · exact sX.le (xB66 v0 M87) (sLe_s (sLe_n sLe_e))
  · exact sX.le (xB66 v0 M84) (sLe_s (sLe_n sLe_e))
def f_X12_name_B37 (v0 : Nat) (M : sMem) : Option (Int64 × sMem) :=
  (gI 12 127 2 M v0).bind fun x1 =>
  (f_X12_fail v0 ((1 : Int32)) x1 M).bind fun M2 =>
  some (((0 : Int64), M2))
def f_X12_name_B145 (v0 : Nat) (v1 : Int64) (M : sMem) : Option (Int64 × sMem) :=
  (gI 12 127 2 M v0).bind fun x3 =>
  (pI 12 127 4 M v0 x3).bind fun M4 =>
  some ((v1, M4))
def f_X12_name_B98 (v0 : Nat) (M : sMem) : Option (Int64 × sMem) :=
  (gI 12 127 2 M v0).bind fun x5 =>
  (f_X12_fail v0 ((1 : Int32)) x5 M).bind fun M6 =>
  some (((0 : Int64), M6))
def f_X12_name_K58 (v0 : Nat) (v1 : Int64) (M : sMem) : Option ((Int64 × sMem) ⊕ ((sMem) ⊕ ((Int64 × sMem)))) :=
  (gI 12 127 2 M v0).bind fun x7 =>
  (gI 12 127 3 M v0).bind fun x8 =>
  if x8 ≤ x7 then
    some (.inr (.inr ((v1, M))))
  else
    (gR 12 127 0 M v0).bind fun x9 =>
    (gI 12 127 2 M v0).bind fun x10 =>
    (ldI 14 M x9 x10).bind fun x11 =>
    (f_X12_isLetter x11 M).bind fun x12 =>
    if x12 = 0 then
      some (.inr (.inr ((v1, M))))
    else
      (gI 12 127 2 M v0).bind fun x13 =>
      (gI 12 127 44 M v0).bind fun x14 =>
      if (x13 - x14) = (6 : Int32) then
        some (.inr (.inl (M)))
      else
        (gR 12 127 0 M v0).bind fun x15 =>
        (gI 12 127 2 M v0).bind fun x16 =>
        (ldI 14 M x15 x16).bind fun x17 =>
        (gI 12 127 2 M v0).bind fun x18 =>
        (pI 12 127 2 M v0 ((x18 + (1 : Int32)))).bind fun M19 =>
        some (.inl ((((((((27 : Int64) * v1) + x17.toInt64) - (97 : Int64)) + (1 : Int64))), M19)))
def f_X12_name_L58 (v0 : Nat) (v1 : Int64) (M : sMem) : Option (Int64 × sMem) :=
  (sItr (fun a : (Int64 × sMem) => f_X12_name_K58 v0 a.1 a.2) sFuel (v1, M)).bind (fun b => match b with
    | .inl (b) => f_X12_name_B98 v0 b
    | .inr (b) => f_X12_name_B145 v0 b.1 b.2)
def f_X12_name (v0 : Nat) (M0 : sMem) : Option (Int64 × sMem) :=
  sRc 12 127 M0 v0 (
    (gI 12 127 5 M0 v0).bind fun x20 =>
    if x20 = 0 then
      (f_X12_look v0 M0).bind fun (x21, M22) =>
      (f_X12_isLetter x21 M22).bind fun x23 =>
      if x23 = 0 then
        f_X12_name_B37 v0 M22
      else
        (gI 12 127 2 M22 v0).bind fun x24 =>
        (gI 12 127 4 M22 v0).bind fun x25 =>
        if x24 = x25 then
          f_X12_name_B37 v0 M22
        else
          (f_X12_isOwnHere v0 M22).bind fun (x26, M27) =>
          if x26 = 0 then
            (gI 12 127 2 M27 v0).bind fun x28 =>
            (pI 12 127 44 M27 v0 x28).bind fun M29 =>
            f_X12_name_L58 v0 ((0 : Int64)) M29
          else
            f_X12_name_B37 v0 M27
    else
      some (((0 : Int64), M0)))
set_option maxRecDepth 100000 in
set_option maxHeartbeats 4000000 in
theorem m_X12_name (G : sG) (l : Launch) (v0 : Nat) (M0 : sMem) : sC G l 4 yX12_name cX12_name 3 (some .long) [.ref v0] M0 rvJ (f_X12_name v0 M0) := by
  refine sC_m (ls := [some (.ref v0), none, none]) (by decide +kernel) rfl (Nat.le_of_ble_eq_true rfl) (fun r M' K hr => ?_)
  unfold f_X12_name
  have xB37 : ∀ (v0 : Nat) (M : sMem), sX G l 4 yX12_name cX12_name 3 (some .long) M0 r M' 37 [some (.ref v0), none, none] [] M (f_X12_name_B37 v0 M) K := by
    intro v0 M
    unfold f_X12_name_B37
    refine sX_aload_n (i := 0) (by decide +kernel) rfl ?_
    refine sX_iconst (n := 1) (v := (1 : Int32)) (by decide +kernel) (by decide) ?_
    refine sX_aload_n (i := 0) (by decide +kernel) rfl ?_
    refine sX_getI lf_X12_306 tk_12_2 (by decide +kernel) (fun x1 => ?_)
    refine sX_callVv (As := [.int (1 : Int32), .int x1]) (by decide +kernel) lm_X12_330 mf_X12_fail mi_X12_fail mc_12 (m_X12_fail G l v0 ((1 : Int32)) x1 M) (fun _ h => sRc_some h) (by decide) rfl rfl (Nat.le_of_ble_eq_true rfl) (fun M2 => ?_)
    refine sX_lconst (n := 0) (v := (0 : Int64)) (by decide +kernel) (by decide) ?_
    exact sX_some (fun h _ => sW_lret (by decide +kernel) rfl (hr _ h).1.symm (hr _ h).2.symm)
  have xB145 : ∀ (v0 : Nat) (v1 : Int64) (M : sMem), sX G l 4 yX12_name cX12_name 3 (some .long) M0 r M' 145 [some (.ref v0), some (.long v1), none] [] M (f_X12_name_B145 v0 v1 M) K := by
    intro v0 v1 M
    unfold f_X12_name_B145
    refine sX_aload_n (i := 0) (by decide +kernel) rfl ?_
    refine sX_aload_n (i := 0) (by decide +kernel) rfl ?_
    refine sX_getI lf_X12_306 tk_12_2 (by decide +kernel) (fun x3 => ?_)
    refine sX_putI lf_X12_320 tp_12_4 (by decide +kernel) (by decide) (fun M4 => ?_)
    refine sX_lload_n (i := 1) (by decide +kernel) rfl ?_
    exact sX_some (fun h _ => sW_lret (by decide +kernel) rfl (hr _ h).1.symm (hr _ h).2.symm)
  have xB98 : ∀ (v0 : Nat) (M : sMem), sX G l 4 yX12_name cX12_name 3 (some .long) M0 r M' 98 [some (.ref v0), none, none] [] M (f_X12_name_B98 v0 M) K := by
    intro v0 M
    unfold f_X12_name_B98
    refine sX_aload_n (i := 0) (by decide +kernel) rfl ?_
    refine sX_iconst (n := 1) (v := (1 : Int32)) (by decide +kernel) (by decide) ?_
    refine sX_aload_n (i := 0) (by decide +kernel) rfl ?_
    refine sX_getI lf_X12_306 tk_12_2 (by decide +kernel) (fun x5 => ?_)
    refine sX_callVv (As := [.int (1 : Int32), .int x5]) (by decide +kernel) lm_X12_330 mf_X12_fail mi_X12_fail mc_12 (m_X12_fail G l v0 ((1 : Int32)) x5 M) (fun _ h => sRc_some h) (by decide) rfl rfl (Nat.le_of_ble_eq_true rfl) (fun M6 => ?_)
    refine sX_lconst (n := 0) (v := (0 : Int64)) (by decide +kernel) (by decide) ?_
    exact sX_some (fun h _ => sW_lret (by decide +kernel) rfl (hr _ h).1.symm (hr _ h).2.symm)
  have xL58 : ∀ (v0 : Nat) (v1 : Int64) (M : sMem), sX G l 4 yX12_name cX12_name 3 (some .long) M0 r M' 58 [some (.ref v0), some (.long v1), none] [] M (f_X12_name_L58 v0 v1 M) K := by
    intro v0 v1 M
    unfold f_X12_name_L58
    refine sX_bind ?_
    refine sX_loop (LS := fun a : (Int64 × sMem) => [some (.ref v0), some (.long a.1), none]) (MM := fun a => a.2) (fun K1 hb1 he1 => ?_) sFuel ((v1, M))
    have xK58 : ∀ (v1 : Int64) (M : sMem), sX G l 4 yX12_name cX12_name 3 (some .long) M0 r M' 58 [some (.ref v0), some (.long v1), none] [] M (f_X12_name_K58 v0 v1 M) K1 := by
      intro v1 M
      unfold f_X12_name_K58
      refine sX_aload_n (i := 0) (by decide +kernel) rfl ?_
      refine sX_getI lf_X12_306 tk_12_2 (by decide +kernel) (fun x7 => ?_)
      refine sX_aload_n (i := 0) (by decide +kernel) rfl ?_
      refine sX_getI lf_X12_309 tk_12_3 (by decide +kernel) (fun x8 => ?_)
      refine sX_icge (o := 79) (t := 145) (by decide +kernel) (by decide) (fun _ => ?_) (fun _ => ?_)
      · refine sX_exit he1 ?_
        exact sX.le (xB145 v0 v1 M) (sLe_s (sLe_s (sLe_n sLe_e)))
      · refine sX_aload_n (i := 0) (by decide +kernel) rfl ?_
        refine sX_getR lf_X12_7 tk_12_0 (by decide +kernel) (fun x9 => ?_)
        refine sX_aload_n (i := 0) (by decide +kernel) rfl ?_
        refine sX_getI lf_X12_306 tk_12_2 (by decide +kernel) (fun x10 => ?_)
        refine sX_iaload (by decide +kernel) (fun x11 => ?_)
        refine sX_callSp (As := [.int x11]) (by decide +kernel) lm_X12_316 mf_X12_isLetter ms_X12_isLetter (m_X12_isLetter G l x11 M) (by decide) rfl rfl (Nat.le_of_ble_eq_true rfl) (fun x12 => ?_)
        refine sX_ifeq (o := 64) (t := 145) (by decide +kernel) (by decide) (fun _ => ?_) (fun _ => ?_)
        · refine sX_exit he1 ?_
          exact sX.le (xB145 v0 v1 M) (sLe_s (sLe_s (sLe_n sLe_e)))
        · refine sX_aload_n (i := 0) (by decide +kernel) rfl ?_
          refine sX_getI lf_X12_306 tk_12_2 (by decide +kernel) (fun x13 => ?_)
          refine sX_aload_n (i := 0) (by decide +kernel) rfl ?_
          refine sX_getI lf_X12_351 tk_12_44 (by decide +kernel) (fun x14 => ?_)
          refine sX_isub (by decide +kernel) ?_
          refine sX_bipush (n := 6) (v := (6 : Int32)) (by decide +kernel) (by decide) ?_
          refine sX_icne (o := 14) (t := 109) (by decide +kernel) (by decide) (fun _ => ?_) (fun _ => ?_)
          · refine sX_exit he1 ?_
            exact sX.le (xB98 v0 M) (sLe_s (sLe_n (sLe_n sLe_e)))
          · refine sX_ldc2 (v := (27 : Int64)) (by decide +kernel) kl_X12_354 ?_
            refine sX_lload_n (i := 1) (by decide +kernel) rfl ?_
            refine sX_lmul (by decide +kernel) ?_
            refine sX_aload_n (i := 0) (by decide +kernel) rfl ?_
            refine sX_getR lf_X12_7 tk_12_0 (by decide +kernel) (fun x15 => ?_)
            refine sX_aload_n (i := 0) (by decide +kernel) rfl ?_
            refine sX_getI lf_X12_306 tk_12_2 (by decide +kernel) (fun x16 => ?_)
            refine sX_iaload (by decide +kernel) (fun x17 => ?_)
            refine sX_i2l (by decide +kernel) ?_
            refine sX_ladd (by decide +kernel) ?_
            refine sX_ldc2 (v := (97 : Int64)) (by decide +kernel) kl_X12_356 ?_
            refine sX_lsub (by decide +kernel) ?_
            refine sX_lconst (n := 1) (v := (1 : Int64)) (by decide +kernel) (by decide) ?_
            refine sX_ladd (by decide +kernel) ?_
            refine sX_lstore_n (i := 1) (ls2 := [some (.ref v0), some (.long (((((27 : Int64) * v1) + x17.toInt64) - (97 : Int64)) + (1 : Int64))), none]) (by decide +kernel) (by decide) rfl ?_
            refine sX_aload_n (i := 0) (by decide +kernel) rfl ?_
            refine sX_dup (by decide +kernel) rfl ?_
            refine sX_getI lf_X12_306 tk_12_2 (by decide +kernel) (fun x18 => ?_)
            refine sX_iconst (n := 1) (v := (1 : Int32)) (by decide +kernel) (by decide) ?_
            refine sX_iadd (by decide +kernel) ?_
            refine sX_putI lf_X12_306 tp_12_2 (by decide +kernel) (by decide) (fun M19 => ?_)
            refine sX_goto (o := -84) (t := 58) (by decide +kernel) (by decide) ?_
            exact sX_back (a := (((((((27 : Int64) * v1) + x17.toInt64) - (97 : Int64)) + (1 : Int64))), M19)) hb1 rfl (sLe_s (sLe_s (sLe_n sLe_e)))
    exact fun a => xK58 a.1 a.2
  refine sX_rc ?_
  refine sX_aload_n (i := 0) (by decide +kernel) rfl ?_
  refine sX_getI lf_X12_300 tk_12_5 (by decide +kernel) (fun x20 => ?_)
  refine sX_ifeq (o := 5) (t := 9) (by decide +kernel) (by decide) (fun _ => ?_) (fun _ => ?_)
  · refine sX_aload_n (i := 0) (by decide +kernel) rfl ?_
    refine sX_callV (As := []) (by decide +kernel) lm_X12_312 mf_X12_look mi_X12_look mc_12 (m_X12_look G l v0 M0) (fun _ h => sRc_some h) (by decide) rfl rfl (Nat.le_of_ble_eq_true rfl) (fun x21 M22 _ => ?_)
    refine sX_callSp (As := [.int x21]) (by decide +kernel) lm_X12_316 mf_X12_isLetter ms_X12_isLetter (m_X12_isLetter G l x21 M22) (by decide) rfl rfl (Nat.le_of_ble_eq_true rfl) (fun x23 => ?_)
    refine sX_ifeq (o := 21) (t := 37) (by decide +kernel) (by decide) (fun _ => ?_) (fun _ => ?_)
    · exact sX.le (xB37 v0 M22) (sLe_s (sLe_n (sLe_n sLe_e)))
    · refine sX_aload_n (i := 0) (by decide +kernel) rfl ?_
      refine sX_getI lf_X12_306 tk_12_2 (by decide +kernel) (fun x24 => ?_)
      refine sX_aload_n (i := 0) (by decide +kernel) rfl ?_
      refine sX_getI lf_X12_320 tk_12_4 (by decide +kernel) (fun x25 => ?_)
      refine sX_iceq (o := 10) (t := 37) (by decide +kernel) (by decide) (fun _ => ?_) (fun _ => ?_)
      · exact sX.le (xB37 v0 M22) (sLe_s (sLe_n (sLe_n sLe_e)))
      · refine sX_aload_n (i := 0) (by decide +kernel) rfl ?_
        refine sX_callV (As := []) (by decide +kernel) lm_X12_347 mf_X12_isOwnHere mi_X12_isOwnHere mc_12 (m_X12_isOwnHere G l v0 M22) (fun _ h => sRc_some h) (by decide) rfl rfl (Nat.le_of_ble_eq_true rfl) (fun x26 M27 _ => ?_)
        refine sX_ifeq (o := 14) (t := 48) (by decide +kernel) (by decide) (fun _ => ?_) (fun _ => ?_)
        · refine sX_aload_n (i := 0) (by decide +kernel) rfl ?_
          refine sX_aload_n (i := 0) (by decide +kernel) rfl ?_
          refine sX_getI lf_X12_306 tk_12_2 (by decide +kernel) (fun x28 => ?_)
          refine sX_putI lf_X12_351 tp_12_44 (by decide +kernel) (by decide) (fun M29 => ?_)
          refine sX_lconst (n := 0) (v := (0 : Int64)) (by decide +kernel) (by decide) ?_
          refine sX_lstore_n (i := 1) (ls2 := [some (.ref v0), some (.long (0 : Int64)), none]) (by decide +kernel) (by decide) rfl ?_
          exact sX.le (xL58 v0 ((0 : Int64)) M29) (sLe_s (sLe_s (sLe_n sLe_e)))
        · exact sX.le (xB37 v0 M27) (sLe_s (sLe_n (sLe_n sLe_e)))
  · refine sX_lconst (n := 0) (v := (0 : Int64)) (by decide +kernel) (by decide) ?_
    exact sX_some (fun h _ => sW_lret (by decide +kernel) rfl (hr _ h).1.symm (hr _ h).2.symm)
