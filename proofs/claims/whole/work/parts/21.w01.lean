def f_X2_two_B122 (v1 : Int32) (v2 : Int32) (M0 : sMem) : Option Int32 :=
  if v2 = 0 then
    some ((0 : Int32))
  else
    (f_J9_floorDiv_7cf53 v1 v2 M0).bind fun x1 =>
    some x1
def f_X2_two (v0 : Int32) (v1 : Int32) (v2 : Int32) (M0 : sMem) : Option Int32 :=
  if v0 = (-10 : Int32) then
    if v2 ≤ v1 then
      some v2
    else
      some v1
  else
  if v0 = (-9 : Int32) then
    f_X2_two_B122 v1 v2 M0
  else
  if v0 = (-8 : Int32) then
    (f_X2_bounded ((v1.toInt64 * v2.toInt64)) M0).bind fun x4 =>
    some x4
  else
  if v0 = (-7 : Int32) then
    (f_X2_bounded (((v1 - v2)).toInt64) M0).bind fun x3 =>
    some x3
  else
  if v0 = (-6 : Int32) then
    (f_X2_bounded (((v1 + v2)).toInt64) M0).bind fun x2 =>
    some x2
  else
  if v0 = (-5 : Int32) then
    if v1 = v2 then
      some ((1 : Int32))
    else
      some ((0 : Int32))
  else
  if v0 = (-4 : Int32) then
    if v1 ≤ v2 then
      some ((0 : Int32))
    else
      some ((1 : Int32))
  else
  if v0 = (-3 : Int32) then
    if v2 ≤ v1 then
      some ((0 : Int32))
    else
      some ((1 : Int32))
  else
  if v0 = (-2 : Int32) then
    some ((v1 &&& v2))
  else
  if v0 = (-1 : Int32) then
    some ((v1 ||| v2))
  else
  if v1 ≤ v2 then
    some v2
  else
    some v1
set_option maxRecDepth 100000 in
set_option maxHeartbeats 4000000 in
theorem m_X2_two (G : sG) (l : Launch) (v0 : Int32) (v1 : Int32) (v2 : Int32) (M0 : sMem) : sCp G l 2 yX2_two cX2_two 3 (some .int) [.int v0, .int v1, .int v2] M0 rvI (f_X2_two v0 v1 v2 M0) := by
  refine sC_p (ls := [some (.int v0), some (.int v1), some (.int v2)]) (by decide +kernel) rfl (Nat.le_of_ble_eq_true rfl) (fun r M' K hr => ?_)
  unfold f_X2_two
  have xB122 : ∀ (v1 : Int32) (v2 : Int32), sX G l 2 yX2_two cX2_two 3 (some .int) M0 r M' 122 [none, some (.int v1), some (.int v2)] [] M0 (f_X2_two_B122 v1 v2 M0) K := by
    intro v1 v2
    unfold f_X2_two_B122
    refine sX_iload_n (i := 2) (by decide +kernel) rfl ?_
    refine sX_ifne (o := 7) (t := 130) (by decide +kernel) (by decide) (fun _ => ?_) (fun _ => ?_)
    · refine sX_iconst (n := 0) (v := (0 : Int32)) (by decide +kernel) (by decide) ?_
      refine sX_goto (o := 8) (t := 135) (by decide +kernel) (by decide) ?_
      exact sX_some (fun h _ => sW_iret (by decide +kernel) rfl (hr _ h).1.symm (hr _ h).2.symm)
    · refine sX_iload_n (i := 1) (by decide +kernel) rfl ?_
      refine sX_iload_n (i := 2) (by decide +kernel) rfl ?_
      refine sX_callSp (As := [.int v1, .int v2]) (by decide +kernel) lm_X2_56 mf_J9_floorDiv_7cf53 ms_J9_floorDiv_7cf53 (m_J9_floorDiv_7cf53 G l v1 v2 M0) (by decide) rfl rfl (Nat.le_of_ble_eq_true rfl) (fun x1 => ?_)
      exact sX_some (fun h _ => sW_iret (by decide +kernel) rfl (hr _ h).1.symm (hr _ h).2.symm)
  refine sX_iload_n (i := 0) (by decide +kernel) rfl ?_
  refine sX_if (fun hx => ?_) (fun n0 => ?_)
  · refine sX_tin (n := (-10 : Int32)) (t := 136) (off := 135) (dflt := 146) (lo := -10) (hi := -1) (offs := #[135, 121, 112, 104, 96, 85, 74, 63, 59, 55]) (len := 55) (by decide +kernel) hx (by decide) (by decide) (by decide) (by decide) ?_
    refine sX_iload_n (i := 1) (by decide +kernel) rfl ?_
    refine sX_iload_n (i := 2) (by decide +kernel) rfl ?_
    refine sX_icge (o := 7) (t := 145) (by decide +kernel) (by decide) (fun _ => ?_) (fun _ => ?_)
    · refine sX_iload_n (i := 2) (by decide +kernel) rfl ?_
      exact sX_some (fun h _ => sW_iret (by decide +kernel) rfl (hr _ h).1.symm (hr _ h).2.symm)
    · refine sX_iload_n (i := 1) (by decide +kernel) rfl ?_
      refine sX_goto (o := 4) (t := 146) (by decide +kernel) (by decide) ?_
      exact sX_some (fun h _ => sW_iret (by decide +kernel) rfl (hr _ h).1.symm (hr _ h).2.symm)
  · refine sX_if (fun hx => ?_) (fun n1 => ?_)
    · refine sX_tin (n := (-9 : Int32)) (t := 122) (off := 121) (dflt := 146) (lo := -10) (hi := -1) (offs := #[135, 121, 112, 104, 96, 85, 74, 63, 59, 55]) (len := 55) (by decide +kernel) hx (by decide) (by decide) (by decide) (by decide) ?_
      exact sX.le (xB122 v1 v2) (sLe_n (sLe_s (sLe_s sLe_e)))
    · refine sX_if (fun hx => ?_) (fun n2 => ?_)
      · refine sX_tin (n := (-8 : Int32)) (t := 113) (off := 112) (dflt := 146) (lo := -10) (hi := -1) (offs := #[135, 121, 112, 104, 96, 85, 74, 63, 59, 55]) (len := 55) (by decide +kernel) hx (by decide) (by decide) (by decide) (by decide) ?_
        refine sX_iload_n (i := 1) (by decide +kernel) rfl ?_
        refine sX_i2l (by decide +kernel) ?_
        refine sX_iload_n (i := 2) (by decide +kernel) rfl ?_
        refine sX_i2l (by decide +kernel) ?_
        refine sX_lmul (by decide +kernel) ?_
        refine sX_callSp (As := [.long (v1.toInt64 * v2.toInt64)]) (by decide +kernel) lm_X2_52 mf_X2_bounded ms_X2_bounded (m_X2_bounded G l ((v1.toInt64 * v2.toInt64)) M0) (by decide) rfl rfl (Nat.le_of_ble_eq_true rfl) (fun x4 => ?_)
        exact sX_some (fun h _ => sW_iret (by decide +kernel) rfl (hr _ h).1.symm (hr _ h).2.symm)
      · refine sX_if (fun hx => ?_) (fun n3 => ?_)
        · refine sX_tin (n := (-7 : Int32)) (t := 105) (off := 104) (dflt := 146) (lo := -10) (hi := -1) (offs := #[135, 121, 112, 104, 96, 85, 74, 63, 59, 55]) (len := 55) (by decide +kernel) hx (by decide) (by decide) (by decide) (by decide) ?_
          refine sX_iload_n (i := 1) (by decide +kernel) rfl ?_
          refine sX_iload_n (i := 2) (by decide +kernel) rfl ?_
          refine sX_isub (by decide +kernel) ?_
          refine sX_i2l (by decide +kernel) ?_
          refine sX_callSp (As := [.long ((v1 - v2)).toInt64]) (by decide +kernel) lm_X2_52 mf_X2_bounded ms_X2_bounded (m_X2_bounded G l (((v1 - v2)).toInt64) M0) (by decide) rfl rfl (Nat.le_of_ble_eq_true rfl) (fun x3 => ?_)
          exact sX_some (fun h _ => sW_iret (by decide +kernel) rfl (hr _ h).1.symm (hr _ h).2.symm)
        · refine sX_if (fun hx => ?_) (fun n4 => ?_)
          · refine sX_tin (n := (-6 : Int32)) (t := 97) (off := 96) (dflt := 146) (lo := -10) (hi := -1) (offs := #[135, 121, 112, 104, 96, 85, 74, 63, 59, 55]) (len := 55) (by decide +kernel) hx (by decide) (by decide) (by decide) (by decide) ?_
            refine sX_iload_n (i := 1) (by decide +kernel) rfl ?_
            refine sX_iload_n (i := 2) (by decide +kernel) rfl ?_
            refine sX_iadd (by decide +kernel) ?_
            refine sX_i2l (by decide +kernel) ?_
            refine sX_callSp (As := [.long ((v1 + v2)).toInt64]) (by decide +kernel) lm_X2_52 mf_X2_bounded ms_X2_bounded (m_X2_bounded G l (((v1 + v2)).toInt64) M0) (by decide) rfl rfl (Nat.le_of_ble_eq_true rfl) (fun x2 => ?_)
            exact sX_some (fun h _ => sW_iret (by decide +kernel) rfl (hr _ h).1.symm (hr _ h).2.symm)
          · refine sX_if (fun hx => ?_) (fun n5 => ?_)
            · refine sX_tin (n := (-5 : Int32)) (t := 86) (off := 85) (dflt := 146) (lo := -10) (hi := -1) (offs := #[135, 121, 112, 104, 96, 85, 74, 63, 59, 55]) (len := 55) (by decide +kernel) hx (by decide) (by decide) (by decide) (by decide) ?_
              refine sX_iload_n (i := 1) (by decide +kernel) rfl ?_
              refine sX_iload_n (i := 2) (by decide +kernel) rfl ?_
              refine sX_icne (o := 7) (t := 95) (by decide +kernel) (by decide) (fun _ => ?_) (fun _ => ?_)
              · refine sX_iconst (n := 1) (v := (1 : Int32)) (by decide +kernel) (by decide) ?_
                refine sX_goto (o := 4) (t := 96) (by decide +kernel) (by decide) ?_
                exact sX_some (fun h _ => sW_iret (by decide +kernel) rfl (hr _ h).1.symm (hr _ h).2.symm)
              · refine sX_iconst (n := 0) (v := (0 : Int32)) (by decide +kernel) (by decide) ?_
                exact sX_some (fun h _ => sW_iret (by decide +kernel) rfl (hr _ h).1.symm (hr _ h).2.symm)
            · refine sX_if (fun hx => ?_) (fun n6 => ?_)
              · refine sX_tin (n := (-4 : Int32)) (t := 75) (off := 74) (dflt := 146) (lo := -10) (hi := -1) (offs := #[135, 121, 112, 104, 96, 85, 74, 63, 59, 55]) (len := 55) (by decide +kernel) hx (by decide) (by decide) (by decide) (by decide) ?_
                refine sX_iload_n (i := 1) (by decide +kernel) rfl ?_
                refine sX_iload_n (i := 2) (by decide +kernel) rfl ?_
                refine sX_icle (o := 7) (t := 84) (by decide +kernel) (by decide) (fun _ => ?_) (fun _ => ?_)
                · refine sX_iconst (n := 0) (v := (0 : Int32)) (by decide +kernel) (by decide) ?_
                  exact sX_some (fun h _ => sW_iret (by decide +kernel) rfl (hr _ h).1.symm (hr _ h).2.symm)
                · refine sX_iconst (n := 1) (v := (1 : Int32)) (by decide +kernel) (by decide) ?_
                  refine sX_goto (o := 4) (t := 85) (by decide +kernel) (by decide) ?_
                  exact sX_some (fun h _ => sW_iret (by decide +kernel) rfl (hr _ h).1.symm (hr _ h).2.symm)
              · refine sX_if (fun hx => ?_) (fun n7 => ?_)
                · refine sX_tin (n := (-3 : Int32)) (t := 64) (off := 63) (dflt := 146) (lo := -10) (hi := -1) (offs := #[135, 121, 112, 104, 96, 85, 74, 63, 59, 55]) (len := 55) (by decide +kernel) hx (by decide) (by decide) (by decide) (by decide) ?_
                  refine sX_iload_n (i := 1) (by decide +kernel) rfl ?_
                  refine sX_iload_n (i := 2) (by decide +kernel) rfl ?_
                  refine sX_icge (o := 7) (t := 73) (by decide +kernel) (by decide) (fun _ => ?_) (fun _ => ?_)
                  · refine sX_iconst (n := 0) (v := (0 : Int32)) (by decide +kernel) (by decide) ?_
                    exact sX_some (fun h _ => sW_iret (by decide +kernel) rfl (hr _ h).1.symm (hr _ h).2.symm)
                  · refine sX_iconst (n := 1) (v := (1 : Int32)) (by decide +kernel) (by decide) ?_
                    refine sX_goto (o := 4) (t := 74) (by decide +kernel) (by decide) ?_
                    exact sX_some (fun h _ => sW_iret (by decide +kernel) rfl (hr _ h).1.symm (hr _ h).2.symm)
                · refine sX_if (fun hx => ?_) (fun n8 => ?_)
                  · refine sX_tin (n := (-2 : Int32)) (t := 60) (off := 59) (dflt := 146) (lo := -10) (hi := -1) (offs := #[135, 121, 112, 104, 96, 85, 74, 63, 59, 55]) (len := 55) (by decide +kernel) hx (by decide) (by decide) (by decide) (by decide) ?_
                    refine sX_iload_n (i := 1) (by decide +kernel) rfl ?_
                    refine sX_iload_n (i := 2) (by decide +kernel) rfl ?_
                    refine sX_iand (by decide +kernel) ?_
                    exact sX_some (fun h _ => sW_iret (by decide +kernel) rfl (hr _ h).1.symm (hr _ h).2.symm)
                  · refine sX_if (fun hx => ?_) (fun n9 => ?_)
                    · refine sX_tin (n := (-1 : Int32)) (t := 56) (off := 55) (dflt := 146) (lo := -10) (hi := -1) (offs := #[135, 121, 112, 104, 96, 85, 74, 63, 59, 55]) (len := 55) (by decide +kernel) hx (by decide) (by decide) (by decide) (by decide) ?_
                      refine sX_iload_n (i := 1) (by decide +kernel) rfl ?_
                      refine sX_iload_n (i := 2) (by decide +kernel) rfl ?_
                      refine sX_ior (by decide +kernel) ?_
                      exact sX_some (fun h _ => sW_iret (by decide +kernel) rfl (hr _ h).1.symm (hr _ h).2.symm)
                    · refine sX_tout (t := 147) (dflt := 146) (lo := -10) (hi := -1) (offs := #[135, 121, 112, 104, 96, 85, 74, 63, 59, 55]) (len := 55) (by decide +kernel) (by have e0 := sNe n0 (z := -10) (by decide); have e1 := sNe n1 (z := -9) (by decide); have e2 := sNe n2 (z := -8) (by decide); have e3 := sNe n3 (z := -7) (by decide); have e4 := sNe n4 (z := -6) (by decide); have e5 := sNe n5 (z := -5) (by decide); have e6 := sNe n6 (z := -4) (by decide); have e7 := sNe n7 (z := -3) (by decide); have e8 := sNe n8 (z := -2) (by decide); have e9 := sNe n9 (z := -1) (by decide); omega) (by decide) ?_
                      refine sX_iload_n (i := 1) (by decide +kernel) rfl ?_
                      refine sX_iload_n (i := 2) (by decide +kernel) rfl ?_
                      refine sX_icle (o := 7) (t := 156) (by decide +kernel) (by decide) (fun _ => ?_) (fun _ => ?_)
                      · refine sX_iload_n (i := 2) (by decide +kernel) rfl ?_
                        exact sX_some (fun h _ => sW_iret (by decide +kernel) rfl (hr _ h).1.symm (hr _ h).2.symm)
                      · refine sX_iload_n (i := 1) (by decide +kernel) rfl ?_
                        refine sX_goto (o := 4) (t := 157) (by decide +kernel) (by decide) ?_
                        exact sX_some (fun h _ => sW_iret (by decide +kernel) rfl (hr _ h).1.symm (hr _ h).2.symm)
def f_X2_run_B162 (v0 : Nat) (M : sMem) : Option (Int32 × sMem) :=
  (f_X2_pop v0 M).bind fun (x1, M2) =>
  some ((x1, M2))
def f_X2_run_B156 (v0 : Nat) (v1 : Nat) (v2 : Int32) (M : sMem) : Option ((Int32 × sMem) ⊕ ((sMem))) :=
  some (.inl ((((v2 + (1 : Int32))), M)))
def f_X2_run_B80 (v0 : Nat) (v1 : Nat) (v2 : Int32) (s0 : Nat) (s1 : Int32) (M : sMem) : Option ((Int32 × sMem) ⊕ ((sMem))) :=
  (f_X2_push s0 s1 M).bind fun M3 =>
  f_X2_run_B156 v0 v1 v2 M3
def f_X2_run_K7 (v0 : Nat) (v1 : Nat) (v2 : Int32) (M : sMem) : Option ((Int32 × sMem) ⊕ ((sMem))) :=
  (gI 6 2 1 M v1).bind fun x4 =>
  if x4 ≤ v2 then
    some (.inr M)
  else
    (gR 6 2 0 M v1).bind fun x5 =>
    (ldI 14 M x5 v2).bind fun x6 =>
    if x6 < (10000 : Int32) then
      if x6 < 0 then
        if x6 = (-12 : Int32) then
          (f_X2_pop v0 M).bind fun (x7, M8) =>
          if x7 = 0 then
            f_X2_run_B80 v0 v1 v2 v0 ((1 : Int32)) M8
          else
            f_X2_run_B80 v0 v1 v2 v0 ((0 : Int32)) M8
        else
          if x6 = (-13 : Int32) then
            (gR 2 5 1 M v0).bind fun x9 =>
            (f_X2_pop v0 M).bind fun (x10, M11) =>
            (f_X2_valueAt x9 x10 ((0 : Int32)) M11).bind fun x12 =>
            (f_X2_push v0 x12 M11).bind fun M13 =>
            f_X2_run_B156 v0 v1 v2 M13
          else
            if x6 = (-14 : Int32) then
              (gR 2 5 2 M v0).bind fun x14 =>
              (f_X2_pop v0 M).bind fun (x15, M16) =>
              (f_X2_valueAt x14 x15 ((-1 : Int32)) M16).bind fun x17 =>
              (f_X2_push v0 x17 M16).bind fun M18 =>
              f_X2_run_B156 v0 v1 v2 M18
            else
              (f_X2_pop v0 M).bind fun (x19, M20) =>
              (f_X2_pop v0 M20).bind fun (x21, M22) =>
              (f_X2_two x6 x21 x19 M22).bind fun x23 =>
              (f_X2_push v0 x23 M22).bind fun M24 =>
              f_X2_run_B156 v0 v1 v2 M24
      else
        (f_X2_push v0 x6 M).bind fun M25 =>
        f_X2_run_B156 v0 v1 v2 M25
    else
      (gR 2 5 0 M v0).bind fun x26 =>
      (f_X2_valueAt x26 ((x6 - (10000 : Int32))) ((0 : Int32)) M).bind fun x27 =>
      (f_X2_push v0 x27 M).bind fun M28 =>
      f_X2_run_B156 v0 v1 v2 M28
def f_X2_run_L7 (v0 : Nat) (v1 : Nat) (v2 : Int32) (M : sMem) : Option (Int32 × sMem) :=
  (sItr (fun a : (Int32 × sMem) => f_X2_run_K7 v0 v1 a.1 a.2) sFuel (v2, M)).bind (fun b => f_X2_run_B162 v0 b)
def f_X2_run (v0 : Nat) (v1 : Nat) (M0 : sMem) : Option (Int32 × sMem) :=
  sRc 2 5 M0 v0 (
    (pI 2 5 4 M0 v0 ((0 : Int32))).bind fun M29 =>
    f_X2_run_L7 v0 v1 ((0 : Int32)) M29)
set_option maxRecDepth 100000 in
set_option maxHeartbeats 4000000 in
theorem m_X2_run (G : sG) (l : Launch) (v0 : Nat) (v1 : Nat) (M0 : sMem) : sC G l 3 yX2_run cX2_run 5 (some .int) [.ref v0, .ref v1] M0 rvI (f_X2_run v0 v1 M0) := by
  refine sC_m (ls := [some (.ref v0), some (.ref v1), none, none, none]) (by decide +kernel) rfl (Nat.le_of_ble_eq_true rfl) (fun r M' K hr => ?_)
  unfold f_X2_run
  have xB162 : ∀ (v0 : Nat) (M : sMem), sX G l 3 yX2_run cX2_run 5 (some .int) M0 r M' 162 [some (.ref v0), none, none, none, none] [] M (f_X2_run_B162 v0 M) K := by
    intro v0 M
    unfold f_X2_run_B162
    refine sX_aload_n (i := 0) (by decide +kernel) rfl ?_
    refine sX_callV (As := []) (by decide +kernel) lm_X2_44 mf_X2_pop mi_X2_pop mc_2 (m_X2_pop G l v0 M) (fun _ h => sRc_some h) (by decide) rfl rfl (Nat.le_of_ble_eq_true rfl) (fun x1 M2 _ => ?_)
    exact sX_some (fun h _ => sW_iret (by decide +kernel) rfl (hr _ h).1.symm (hr _ h).2.symm)
  have xL7 : ∀ (v0 : Nat) (v1 : Nat) (v2 : Int32) (M : sMem), sX G l 3 yX2_run cX2_run 5 (some .int) M0 r M' 7 [some (.ref v0), some (.ref v1), some (.int v2), none, none] [] M (f_X2_run_L7 v0 v1 v2 M) K := by
    intro v0 v1 v2 M
    unfold f_X2_run_L7
    refine sX_bind ?_
    refine sX_loop (LS := fun a : (Int32 × sMem) => [some (.ref v0), some (.ref v1), some (.int a.1), none, none]) (MM := fun a => a.2) (fun K1 hb1 he1 => ?_) sFuel ((v2, M))
    have xB156 : ∀ (v2 : Int32) (M : sMem), sX G l 3 yX2_run cX2_run 5 (some .int) M0 r M' 156 [some (.ref v0), some (.ref v1), some (.int v2), none, none] [] M (f_X2_run_B156 v0 v1 v2 M) K1 := by
      intro v2 M
      unfold f_X2_run_B156
      refine sX_iinc (i := 2) (n := 1) (v := v2 + (1 : Int32)) (ls2 := [some (.ref v0), some (.ref v1), some (.int (v2 + (1 : Int32))), none, none]) (by decide +kernel) rfl rfl (by decide) rfl ?_
      refine sX_goto (o := -152) (t := 7) (by decide +kernel) (by decide) ?_
      exact sX_back (a := (((v2 + (1 : Int32))), M)) hb1 rfl (sLe_s (sLe_s (sLe_s (sLe_n (sLe_n sLe_e)))))
    have xB80 : ∀ (v2 : Int32) (s0 : Nat) (s1 : Int32) (M : sMem), sX G l 3 yX2_run cX2_run 5 (some .int) M0 r M' 80 [some (.ref v0), some (.ref v1), some (.int v2), none, none] [.int s1, .ref s0] M (f_X2_run_B80 v0 v1 v2 s0 s1 M) K1 := by
      intro v2 s0 s1 M
      unfold f_X2_run_B80
      refine sX_callVv (As := [.int s1]) (by decide +kernel) lm_X2_40 mf_X2_push mi_X2_push mc_2 (m_X2_push G l s0 s1 M) (fun _ h => sRc_some h) (by decide) rfl rfl (Nat.le_of_ble_eq_true rfl) (fun M3 => ?_)
      refine sX_goto (o := 73) (t := 156) (by decide +kernel) (by decide) ?_
      exact sX.le (xB156 v2 M3) (sLe_s (sLe_s (sLe_s (sLe_n (sLe_n sLe_e)))))
    have xK7 : ∀ (v2 : Int32) (M : sMem), sX G l 3 yX2_run cX2_run 5 (some .int) M0 r M' 7 [some (.ref v0), some (.ref v1), some (.int v2), none, none] [] M (f_X2_run_K7 v0 v1 v2 M) K1 := by
      intro v2 M
      unfold f_X2_run_K7
      refine sX_iload_n (i := 2) (by decide +kernel) rfl ?_
      refine sX_aload_n (i := 1) (by decide +kernel) rfl ?_
      refine sX_getI lf_X2_28 tk_6_1 (by decide +kernel) (fun x4 => ?_)
      refine sX_icge (o := 150) (t := 162) (by decide +kernel) (by decide) (fun _ => ?_) (fun _ => ?_)
      · refine sX_exit he1 ?_
        exact sX.le (xB162 v0 M) (sLe_s (sLe_n (sLe_n (sLe_n (sLe_n sLe_e)))))
      · refine sX_aload_n (i := 1) (by decide +kernel) rfl ?_
        refine sX_getR lf_X2_33 tk_6_0 (by decide +kernel) (fun x5 => ?_)
        refine sX_iload_n (i := 2) (by decide +kernel) rfl ?_
        refine sX_iaload (by decide +kernel) (fun x6 => ?_)
        refine sX_istore_n (i := 3) (ls2 := [some (.ref v0), some (.ref v1), some (.int v2), some (.int x6), none]) (by decide +kernel) (by decide) rfl ?_
        refine sX_iload_n (i := 3) (by decide +kernel) rfl ?_
        refine sX_sipush (n := 10000) (v := (10000 : Int32)) (by decide +kernel) (by decide) ?_
        refine sX_iclt (o := 23) (t := 49) (by decide +kernel) (by decide) (fun _ => ?_) (fun _ => ?_)
        · refine sX_iload_n (i := 3) (by decide +kernel) rfl ?_
          refine sX_iflt (o := 11) (t := 61) (by decide +kernel) (by decide) (fun _ => ?_) (fun _ => ?_)
          · refine sX_iload_n (i := 3) (by decide +kernel) rfl ?_
            refine sX_bipush (n := -12) (v := (-12 : Int32)) (by decide +kernel) (by decide) ?_
            refine sX_icne (o := 22) (t := 86) (by decide +kernel) (by decide) (fun _ => ?_) (fun _ => ?_)
            · refine sX_aload_n (i := 0) (by decide +kernel) rfl ?_
              refine sX_aload_n (i := 0) (by decide +kernel) rfl ?_
              refine sX_callV (As := []) (by decide +kernel) lm_X2_44 mf_X2_pop mi_X2_pop mc_2 (m_X2_pop G l v0 M) (fun _ h => sRc_some h) (by decide) rfl rfl (Nat.le_of_ble_eq_true rfl) (fun x7 M8 _ => ?_)
              refine sX_ifne (o := 7) (t := 79) (by decide +kernel) (by decide) (fun _ => ?_) (fun _ => ?_)
              · refine sX_iconst (n := 1) (v := (1 : Int32)) (by decide +kernel) (by decide) ?_
                refine sX_goto (o := 4) (t := 80) (by decide +kernel) (by decide) ?_
                exact sX.le (xB80 v2 v0 ((1 : Int32)) M8) (sLe_s (sLe_s (sLe_s (sLe_n (sLe_n sLe_e)))))
              · refine sX_iconst (n := 0) (v := (0 : Int32)) (by decide +kernel) (by decide) ?_
                exact sX.le (xB80 v2 v0 ((0 : Int32)) M8) (sLe_s (sLe_s (sLe_s (sLe_n (sLe_n sLe_e)))))
            · refine sX_iload_n (i := 3) (by decide +kernel) rfl ?_
              refine sX_bipush (n := -13) (v := (-13 : Int32)) (by decide +kernel) (by decide) ?_
              refine sX_icne (o := 22) (t := 111) (by decide +kernel) (by decide) (fun _ => ?_) (fun _ => ?_)
              · refine sX_aload_n (i := 0) (by decide +kernel) rfl ?_
                refine sX_aload_n (i := 0) (by decide +kernel) rfl ?_
                refine sX_getR lf_X2_15 tk_2_1 (by decide +kernel) (fun x9 => ?_)
                refine sX_aload_n (i := 0) (by decide +kernel) rfl ?_
                refine sX_callV (As := []) (by decide +kernel) lm_X2_44 mf_X2_pop mi_X2_pop mc_2 (m_X2_pop G l v0 M) (fun _ h => sRc_some h) (by decide) rfl rfl (Nat.le_of_ble_eq_true rfl) (fun x10 M11 _ => ?_)
                refine sX_iconst (n := 0) (v := (0 : Int32)) (by decide +kernel) (by decide) ?_
                refine sX_callSp (As := [.ref x9, .int x10, .int (0 : Int32)]) (by decide +kernel) lm_X2_36 mf_X2_valueAt ms_X2_valueAt (m_X2_valueAt G l x9 x10 ((0 : Int32)) M11) (by decide) rfl rfl (Nat.le_of_ble_eq_true rfl) (fun x12 => ?_)
                refine sX_callVv (As := [.int x12]) (by decide +kernel) lm_X2_40 mf_X2_push mi_X2_push mc_2 (m_X2_push G l v0 x12 M11) (fun _ h => sRc_some h) (by decide) rfl rfl (Nat.le_of_ble_eq_true rfl) (fun M13 => ?_)
                refine sX_goto (o := 48) (t := 156) (by decide +kernel) (by decide) ?_
                exact sX.le (xB156 v2 M13) (sLe_s (sLe_s (sLe_s (sLe_n (sLe_n sLe_e)))))
              · refine sX_iload_n (i := 3) (by decide +kernel) rfl ?_
                refine sX_bipush (n := -14) (v := (-14 : Int32)) (by decide +kernel) (by decide) ?_
                refine sX_icne (o := 22) (t := 136) (by decide +kernel) (by decide) (fun _ => ?_) (fun _ => ?_)
                · refine sX_aload_n (i := 0) (by decide +kernel) rfl ?_
                  refine sX_aload_n (i := 0) (by decide +kernel) rfl ?_
                  refine sX_getR lf_X2_18 tk_2_2 (by decide +kernel) (fun x14 => ?_)
                  refine sX_aload_n (i := 0) (by decide +kernel) rfl ?_
                  refine sX_callV (As := []) (by decide +kernel) lm_X2_44 mf_X2_pop mi_X2_pop mc_2 (m_X2_pop G l v0 M) (fun _ h => sRc_some h) (by decide) rfl rfl (Nat.le_of_ble_eq_true rfl) (fun x15 M16 _ => ?_)
                  refine sX_iconst (n := -1) (v := (-1 : Int32)) (by decide +kernel) (by decide) ?_
                  refine sX_callSp (As := [.ref x14, .int x15, .int (-1 : Int32)]) (by decide +kernel) lm_X2_36 mf_X2_valueAt ms_X2_valueAt (m_X2_valueAt G l x14 x15 ((-1 : Int32)) M16) (by decide) rfl rfl (Nat.le_of_ble_eq_true rfl) (fun x17 => ?_)
                  refine sX_callVv (As := [.int x17]) (by decide +kernel) lm_X2_40 mf_X2_push mi_X2_push mc_2 (m_X2_push G l v0 x17 M16) (fun _ h => sRc_some h) (by decide) rfl rfl (Nat.le_of_ble_eq_true rfl) (fun M18 => ?_)
                  refine sX_goto (o := 23) (t := 156) (by decide +kernel) (by decide) ?_
                  exact sX.le (xB156 v2 M18) (sLe_s (sLe_s (sLe_s (sLe_n (sLe_n sLe_e)))))
                · refine sX_aload_n (i := 0) (by decide +kernel) rfl ?_
                  refine sX_callV (As := []) (by decide +kernel) lm_X2_44 mf_X2_pop mi_X2_pop mc_2 (m_X2_pop G l v0 M) (fun _ h => sRc_some h) (by decide) rfl rfl (Nat.le_of_ble_eq_true rfl) (fun x19 M20 _ => ?_)
                  refine sX_istore (i := 4) (ls2 := [some (.ref v0), some (.ref v1), some (.int v2), some (.int x6), some (.int x19)]) (by decide +kernel) (by decide) rfl ?_
                  refine sX_aload_n (i := 0) (by decide +kernel) rfl ?_
                  refine sX_iload_n (i := 3) (by decide +kernel) rfl ?_
                  refine sX_aload_n (i := 0) (by decide +kernel) rfl ?_
                  refine sX_callV (As := []) (by decide +kernel) lm_X2_44 mf_X2_pop mi_X2_pop mc_2 (m_X2_pop G l v0 M20) (fun _ h => sRc_some h) (by decide) rfl rfl (Nat.le_of_ble_eq_true rfl) (fun x21 M22 _ => ?_)
                  refine sX_iload (i := 4) (by decide +kernel) rfl ?_
                  refine sX_callSp (As := [.int x6, .int x21, .int x19]) (by decide +kernel) lm_X2_48 mf_X2_two ms_X2_two (m_X2_two G l x6 x21 x19 M22) (by decide) rfl rfl (Nat.le_of_ble_eq_true rfl) (fun x23 => ?_)
                  refine sX_callVv (As := [.int x23]) (by decide +kernel) lm_X2_40 mf_X2_push mi_X2_push mc_2 (m_X2_push G l v0 x23 M22) (fun _ h => sRc_some h) (by decide) rfl rfl (Nat.le_of_ble_eq_true rfl) (fun M24 => ?_)
                  exact sX.le (xB156 v2 M24) (sLe_s (sLe_s (sLe_s (sLe_n (sLe_n sLe_e)))))
          · refine sX_aload_n (i := 0) (by decide +kernel) rfl ?_
            refine sX_iload_n (i := 3) (by decide +kernel) rfl ?_
            refine sX_callVv (As := [.int x6]) (by decide +kernel) lm_X2_40 mf_X2_push mi_X2_push mc_2 (m_X2_push G l v0 x6 M) (fun _ h => sRc_some h) (by decide) rfl rfl (Nat.le_of_ble_eq_true rfl) (fun M25 => ?_)
            refine sX_goto (o := 98) (t := 156) (by decide +kernel) (by decide) ?_
            exact sX.le (xB156 v2 M25) (sLe_s (sLe_s (sLe_s (sLe_n (sLe_n sLe_e)))))
        · refine sX_aload_n (i := 0) (by decide +kernel) rfl ?_
          refine sX_aload_n (i := 0) (by decide +kernel) rfl ?_
          refine sX_getR lf_X2_9 tk_2_0 (by decide +kernel) (fun x26 => ?_)
          refine sX_iload_n (i := 3) (by decide +kernel) rfl ?_
          refine sX_sipush (n := 10000) (v := (10000 : Int32)) (by decide +kernel) (by decide) ?_
          refine sX_isub (by decide +kernel) ?_
          refine sX_iconst (n := 0) (v := (0 : Int32)) (by decide +kernel) (by decide) ?_
          refine sX_callSp (As := [.ref x26, .int (x6 - (10000 : Int32)), .int (0 : Int32)]) (by decide +kernel) lm_X2_36 mf_X2_valueAt ms_X2_valueAt (m_X2_valueAt G l x26 ((x6 - (10000 : Int32))) ((0 : Int32)) M) (by decide) rfl rfl (Nat.le_of_ble_eq_true rfl) (fun x27 => ?_)
          refine sX_callVv (As := [.int x27]) (by decide +kernel) lm_X2_40 mf_X2_push mi_X2_push mc_2 (m_X2_push G l v0 x27 M) (fun _ h => sRc_some h) (by decide) rfl rfl (Nat.le_of_ble_eq_true rfl) (fun M28 => ?_)
          refine sX_goto (o := 110) (t := 156) (by decide +kernel) (by decide) ?_
          exact sX.le (xB156 v2 M28) (sLe_s (sLe_s (sLe_s (sLe_n (sLe_n sLe_e)))))
    exact fun a => xK7 a.1 a.2
  refine sX_rc ?_
  refine sX_aload_n (i := 0) (by decide +kernel) rfl ?_
  refine sX_iconst (n := 0) (v := (0 : Int32)) (by decide +kernel) (by decide) ?_
  refine sX_putI lf_X2_24 tp_2_4 (by decide +kernel) (by decide) (fun M29 => ?_)
  refine sX_iconst (n := 0) (v := (0 : Int32)) (by decide +kernel) (by decide) ?_
  refine sX_istore_n (i := 2) (ls2 := [some (.ref v0), some (.ref v1), some (.int (0 : Int32)), none, none]) (by decide +kernel) (by decide) rfl ?_
  exact sX.le (xL7 v0 v1 ((0 : Int32)) M29) (sLe_s (sLe_s (sLe_s (sLe_n (sLe_n sLe_e)))))
def f_X11_mark (v0 : Nat) (v1 : Int32) (v2 : Int32) (M0 : sMem) : Option sMem :=
  if ((v1 * (4 : Int32)) + (v2 >>> ((6 : Int32) &&& 31))) < 0 then
    some M0
  else
    (aL 15 M0 v0).bind fun x1 =>
    if x1 ≤ ((v1 * (4 : Int32)) + (v2 >>> ((6 : Int32) &&& 31))) then
      some M0
    else
      (ldJ M0 v0 (((v1 * (4 : Int32)) + (v2 >>> ((6 : Int32) &&& 31))))).bind fun x2 =>
      (stJ M0 v0 (((v1 * (4 : Int32)) + (v2 >>> ((6 : Int32) &&& 31)))) ((x2 ||| ((1 : Int64) <<< (((v2 &&& (63 : Int32))).toInt64 &&& 63))))).bind fun M3 =>
      some M3
set_option maxRecDepth 100000 in
set_option maxHeartbeats 4000000 in
theorem m_X11_mark (G : sG) (l : Launch) (v0 : Nat) (v1 : Int32) (v2 : Int32) (M0 : sMem) : sCv G l 1 yX11_mark cX11_mark 4 none [.ref v0, .int v1, .int v2] M0 (f_X11_mark v0 v1 v2 M0) := by
  refine sC_v (ls := [some (.ref v0), some (.int v1), some (.int v2), none]) (by decide +kernel) rfl (Nat.le_of_ble_eq_true rfl) (fun r M' K hr => ?_)
  unfold f_X11_mark
  refine sX_iload_n (i := 1) (by decide +kernel) rfl ?_
  refine sX_iconst (n := 4) (v := (4 : Int32)) (by decide +kernel) (by decide) ?_
  refine sX_imul (by decide +kernel) ?_
  refine sX_iload_n (i := 2) (by decide +kernel) rfl ?_
  refine sX_bipush (n := 6) (v := (6 : Int32)) (by decide +kernel) (by decide) ?_
  refine sX_ishr (by decide +kernel) ?_
  refine sX_iadd (by decide +kernel) ?_
  refine sX_istore_n (i := 3) (ls2 := [some (.ref v0), some (.int v1), some (.int v2), some (.int ((v1 * (4 : Int32)) + (v2 >>> ((6 : Int32) &&& 31))))]) (by decide +kernel) (by decide) rfl ?_
  refine sX_iload_n (i := 3) (by decide +kernel) rfl ?_
  refine sX_iflt (o := 21) (t := 31) (by decide +kernel) (by decide) (fun _ => ?_) (fun _ => ?_)
  · exact sX_some (fun h _ => sW_vret (by decide +kernel) rfl (hr _ h).1.symm (hr _ h).2.symm)
  · refine sX_iload_n (i := 3) (by decide +kernel) rfl ?_
    refine sX_aload_n (i := 0) (by decide +kernel) rfl ?_
    refine sX_alen (by decide) (by decide) (by decide +kernel) (fun x1 => ?_)
    refine sX_icge (o := 15) (t := 31) (by decide +kernel) (by decide) (fun _ => ?_) (fun _ => ?_)
    · exact sX_some (fun h _ => sW_vret (by decide +kernel) rfl (hr _ h).1.symm (hr _ h).2.symm)
    · refine sX_aload_n (i := 0) (by decide +kernel) rfl ?_
      refine sX_iload_n (i := 3) (by decide +kernel) rfl ?_
      refine sX_dup2 (by decide +kernel) rfl rfl ?_
      refine sX_laload (by decide +kernel) (fun x2 => ?_)
      refine sX_lconst (n := 1) (v := (1 : Int64)) (by decide +kernel) (by decide) ?_
      refine sX_iload_n (i := 2) (by decide +kernel) rfl ?_
      refine sX_bipush (n := 63) (v := (63 : Int32)) (by decide +kernel) (by decide) ?_
      refine sX_iand (by decide +kernel) ?_
      refine sX_lshl (by decide +kernel) ?_
      refine sX_lor (by decide +kernel) ?_
      refine sX_lastore (by decide +kernel) (by decide) (fun M3 => ?_)
      exact sX_some (fun h _ => sW_vret (by decide +kernel) rfl (hr _ h).1.symm (hr _ h).2.symm)
def f_X4_row_B30 (v0 : Nat) (M : sMem) : Option (Nat × sMem) :=
  (gR 4 5 4 M v0).bind fun x1 =>
  some ((x1, M))
def f_X4_row_B182 (v4 : Nat) (M : sMem) : Option (Nat × sMem) :=
  some ((v4, M))
def f_X4_row_B176 (v0 : Nat) (v1 : Int32) (v2 : Int32) (v4 : Nat) (v5 : Int32) (M : sMem) : Option ((Int32 × sMem) ⊕ ((sMem))) :=
  some (.inl ((((v5 + (1 : Int32))), M)))
def f_X4_row_B170 (v0 : Nat) (v1 : Int32) (v2 : Int32) (v4 : Nat) (v5 : Int32) (v6 : Int32) (v7 : Int32) (M : sMem) : Option ((Int32 × sMem) ⊕ ((sMem))) :=
  some (.inl ((((v7 + (1 : Int32))), M)))
def f_X4_row_K112 (v0 : Nat) (v1 : Int32) (v2 : Int32) (v4 : Nat) (v5 : Int32) (v6 : Int32) (v7 : Int32) (M : sMem) : Option ((Int32 × sMem) ⊕ ((sMem))) :=
  if v6 = (-1 : Int32) then
    some (.inr M)
  else
    (gR 4 5 1 M v0).bind fun x2 =>
    (gR 1 10 1 M x2).bind fun x3 =>
    (gI 9 4 3 M x3).bind fun x4 =>
    if x4 ≤ v7 then
      some (.inr M)
    else
      (f_X4_setFacts v0 v1 v7 v6 v5 M).bind fun M5 =>
      (gR 4 5 0 M5 v0).bind fun x6 =>
      (gR 4 5 1 M5 v0).bind fun x7 =>
      (gR 1 10 6 M5 x7).bind fun x8 =>
      (f_X2_run x6 x8 M5).bind fun (x9, M10) =>
      if x9 = 0 then
        f_X4_row_B170 v0 v1 v2 v4 v5 v6 v7 M10
      else
        (f_X11_mark v4 v7 v5 M10).bind fun M11 =>
        f_X4_row_B170 v0 v1 v2 v4 v5 v6 v7 M11
def f_X4_row_L112 (v0 : Nat) (v1 : Int32) (v2 : Int32) (v4 : Nat) (v5 : Int32) (v6 : Int32) (v7 : Int32) (M : sMem) : Option ((Int32 × sMem) ⊕ ((sMem))) :=
  (sItr (fun a : (Int32 × sMem) => f_X4_row_K112 v0 v1 v2 v4 v5 v6 a.1 a.2) sFuel (v7, M)).bind (fun b => f_X4_row_B176 v0 v1 v2 v4 v5 b)
def f_X4_row_K91 (v0 : Nat) (v1 : Int32) (v2 : Int32) (v4 : Nat) (v5 : Int32) (M : sMem) : Option ((Int32 × sMem) ⊕ ((sMem))) :=
  if (200 : Int32) ≤ v5 then
    some (.inr M)
  else
    (f_X4_headOf v0 v1 v2 v5 M).bind fun x12 =>
    f_X4_row_L112 v0 v1 v2 v4 v5 x12 ((0 : Int32)) M
def f_X4_row_L91 (v0 : Nat) (v1 : Int32) (v2 : Int32) (v4 : Nat) (v5 : Int32) (M : sMem) : Option (Nat × sMem) :=
  (sItr (fun a : (Int32 × sMem) => f_X4_row_K91 v0 v1 v2 v4 a.1 a.2) sFuel (v5, M)).bind (fun b => f_X4_row_B182 v4 b)
def f_X4_row_B54 (v0 : Nat) (v1 : Int32) (v2 : Int32) (v3 : Int32) (M : sMem) : Option (Nat × sMem) :=
  (gR 4 5 2 M v0).bind fun x13 =>
  (ldN 18 M x13 v3).bind fun x14 =>
  (gR 4 5 3 M v0).bind fun x15 =>
  (ldI 14 M x15 v3).bind fun x16 =>
  if x16 = (1 : Int32) then
    some ((x14, M))
  else
    (gR 4 5 3 M v0).bind fun x17 =>
    (stI M x17 v3 ((1 : Int32))).bind fun M18 =>
    (f_J7_fill_d0a16 x14 ((0 : Int64)) M18).bind fun M19 =>
    f_X4_row_L91 v0 v1 v2 x14 ((0 : Int32)) M19
def f_X4_row (v0 : Nat) (v1 : Int32) (v2 : Int32) (M0 : sMem) : Option (Nat × sMem) :=
  sRc 4 5 M0 v0 (
    if v1 < 0 then
      f_X4_row_B30 v0 M0
    else
      if v2 < 0 then
        f_X4_row_B30 v0 M0
      else
        if (100 : Int32) ≤ v2 then
          f_X4_row_B30 v0 M0
        else
          (gR 4 5 2 M0 v0).bind fun x20 =>
          (aL 18 M0 x20).bind fun x21 =>
          if ((v1 * (100 : Int32)) + v2) < x21 then
            (gR 4 5 2 M0 v0).bind fun x22 =>
            (ldR 18 M0 x22 (((v1 * (100 : Int32)) + v2))).bind fun x23 =>
            match x23 with
            | none =>
              (gR 4 5 2 M0 v0).bind fun x24 =>
              (nA 15 M0 ((24 : Int32))).bind fun (q25, M26) =>
              (stR 18 15 M26 x24 (((v1 * (100 : Int32)) + v2)) q25).bind fun M27 =>
              f_X4_row_B54 v0 v1 v2 (((v1 * (100 : Int32)) + v2)) M27
            | some _ =>
              f_X4_row_B54 v0 v1 v2 (((v1 * (100 : Int32)) + v2)) M0
          else
            f_X4_row_B30 v0 M0)
set_option maxRecDepth 100000 in
set_option maxHeartbeats 4000000 in
theorem m_X4_row (G : sG) (l : Launch) (v0 : Nat) (v1 : Int32) (v2 : Int32) (M0 : sMem) : sC G l 4 yX4_row cX4_row 8 (some (.array .long)) [.ref v0, .int v1, .int v2] M0 rvR (f_X4_row v0 v1 v2 M0) := by
  refine sC_m (ls := [some (.ref v0), some (.int v1), some (.int v2), none, none, none, none, none]) (by decide +kernel) rfl (Nat.le_of_ble_eq_true rfl) (fun r M' K hr => ?_)
  unfold f_X4_row
  have xB30 : ∀ (v0 : Nat) (M : sMem), sX G l 4 yX4_row cX4_row 8 (some (.array .long)) M0 r M' 30 [some (.ref v0), none, none, none, none, none, none, none] [] M (f_X4_row_B30 v0 M) K := by
    intro v0 M
    unfold f_X4_row_B30
    refine sX_aload_n (i := 0) (by decide +kernel) rfl ?_
    refine sX_getR lf_X4_21 tk_4_4 (by decide +kernel) (fun x1 => ?_)
    exact sX_some (fun h _ => sW_aret (by decide +kernel) rfl (Or.inr ⟨_, rfl⟩) (hr _ h).1.symm (hr _ h).2.symm)
  have xB182 : ∀ (v4 : Nat) (M : sMem), sX G l 4 yX4_row cX4_row 8 (some (.array .long)) M0 r M' 182 [none, none, none, none, some (.ref v4), none, none, none] [] M (f_X4_row_B182 v4 M) K := by
    intro v4 M
    unfold f_X4_row_B182
    refine sX_aload (i := 4) (by decide +kernel) rfl ?_
    exact sX_some (fun h _ => sW_aret (by decide +kernel) rfl (Or.inr ⟨_, rfl⟩) (hr _ h).1.symm (hr _ h).2.symm)
  have xL91 : ∀ (v0 : Nat) (v1 : Int32) (v2 : Int32) (v4 : Nat) (v5 : Int32) (M : sMem), sX G l 4 yX4_row cX4_row 8 (some (.array .long)) M0 r M' 91 [some (.ref v0), some (.int v1), some (.int v2), none, some (.ref v4), some (.int v5), none, none] [] M (f_X4_row_L91 v0 v1 v2 v4 v5 M) K := by
    intro v0 v1 v2 v4 v5 M
    unfold f_X4_row_L91
    refine sX_bind ?_
    refine sX_loop (LS := fun a : (Int32 × sMem) => [some (.ref v0), some (.int v1), some (.int v2), none, some (.ref v4), some (.int a.1), none, none]) (MM := fun a => a.2) (fun K1 hb1 he1 => ?_) sFuel ((v5, M))
    have xB176 : ∀ (v5 : Int32) (M : sMem), sX G l 4 yX4_row cX4_row 8 (some (.array .long)) M0 r M' 176 [some (.ref v0), some (.int v1), some (.int v2), none, some (.ref v4), some (.int v5), none, none] [] M (f_X4_row_B176 v0 v1 v2 v4 v5 M) K1 := by
      intro v5 M
      unfold f_X4_row_B176
      refine sX_iinc (i := 5) (n := 1) (v := v5 + (1 : Int32)) (ls2 := [some (.ref v0), some (.int v1), some (.int v2), none, some (.ref v4), some (.int (v5 + (1 : Int32))), none, none]) (by decide +kernel) rfl rfl (by decide) rfl ?_
      refine sX_goto (o := -88) (t := 91) (by decide +kernel) (by decide) ?_
      exact sX_back (a := (((v5 + (1 : Int32))), M)) hb1 rfl (sLe_s (sLe_s (sLe_s (sLe_n (sLe_s (sLe_s (sLe_n (sLe_n sLe_e))))))))
    have xL112 : ∀ (v5 : Int32) (v6 : Int32) (v7 : Int32) (M : sMem), sX G l 4 yX4_row cX4_row 8 (some (.array .long)) M0 r M' 112 [some (.ref v0), some (.int v1), some (.int v2), none, some (.ref v4), some (.int v5), some (.int v6), some (.int v7)] [] M (f_X4_row_L112 v0 v1 v2 v4 v5 v6 v7 M) K1 := by
      intro v5 v6 v7 M
      unfold f_X4_row_L112
      refine sX_bind ?_
      refine sX_loop (LS := fun a : (Int32 × sMem) => [some (.ref v0), some (.int v1), some (.int v2), none, some (.ref v4), some (.int v5), some (.int v6), some (.int a.1)]) (MM := fun a => a.2) (fun K2 hb2 he2 => ?_) sFuel ((v7, M))
      have xB170 : ∀ (v7 : Int32) (M : sMem), sX G l 4 yX4_row cX4_row 8 (some (.array .long)) M0 r M' 170 [some (.ref v0), some (.int v1), some (.int v2), none, some (.ref v4), some (.int v5), some (.int v6), some (.int v7)] [] M (f_X4_row_B170 v0 v1 v2 v4 v5 v6 v7 M) K2 := by
        intro v7 M
        unfold f_X4_row_B170
        refine sX_iinc (i := 7) (n := 1) (v := v7 + (1 : Int32)) (ls2 := [some (.ref v0), some (.int v1), some (.int v2), none, some (.ref v4), some (.int v5), some (.int v6), some (.int (v7 + (1 : Int32)))]) (by decide +kernel) rfl rfl (by decide) rfl ?_
        refine sX_goto (o := -61) (t := 112) (by decide +kernel) (by decide) ?_
        exact sX_back (a := (((v7 + (1 : Int32))), M)) hb2 rfl (sLe_s (sLe_s (sLe_s (sLe_n (sLe_s (sLe_s (sLe_s (sLe_s sLe_e))))))))
      have xK112 : ∀ (v7 : Int32) (M : sMem), sX G l 4 yX4_row cX4_row 8 (some (.array .long)) M0 r M' 112 [some (.ref v0), some (.int v1), some (.int v2), none, some (.ref v4), some (.int v5), some (.int v6), some (.int v7)] [] M (f_X4_row_K112 v0 v1 v2 v4 v5 v6 v7 M) K2 := by
        intro v7 M
        unfold f_X4_row_K112
        refine sX_iload (i := 6) (by decide +kernel) rfl ?_
        refine sX_iconst (n := -1) (v := (-1 : Int32)) (by decide +kernel) (by decide) ?_
        refine sX_iceq (o := 61) (t := 176) (by decide +kernel) (by decide) (fun _ => ?_) (fun _ => ?_)
        · refine sX_exit he2 ?_
          exact sX.le (xB176 v5 M) (sLe_s (sLe_s (sLe_s (sLe_n (sLe_s (sLe_s (sLe_n (sLe_n sLe_e))))))))
        · refine sX_iload (i := 7) (by decide +kernel) rfl ?_
          refine sX_aload_n (i := 0) (by decide +kernel) rfl ?_
          refine sX_getR lf_X4_28 tk_4_1 (by decide +kernel) (fun x2 => ?_)
          refine sX_getR lf_X4_73 tk_1_1 (by decide +kernel) (fun x3 => ?_)
          refine sX_getI lf_X4_57 tk_9_3 (by decide +kernel) (fun x4 => ?_)
          refine sX_icge (o := 46) (t := 176) (by decide +kernel) (by decide) (fun _ => ?_) (fun _ => ?_)
          · refine sX_exit he2 ?_
            exact sX.le (xB176 v5 M) (sLe_s (sLe_s (sLe_s (sLe_n (sLe_s (sLe_s (sLe_n (sLe_n sLe_e))))))))
          · refine sX_aload_n (i := 0) (by decide +kernel) rfl ?_
            refine sX_iload_n (i := 1) (by decide +kernel) rfl ?_
            refine sX_iload (i := 7) (by decide +kernel) rfl ?_
            refine sX_iload (i := 6) (by decide +kernel) rfl ?_
            refine sX_iload (i := 5) (by decide +kernel) rfl ?_
            refine sX_callVv (As := [.int v1, .int v7, .int v6, .int v5]) (by decide +kernel) lm_X4_76 mf_X4_setFacts mi_X4_setFacts mc_4 (m_X4_setFacts G l v0 v1 v7 v6 v5 M) (fun _ h => sRc_some h) (by decide) rfl rfl (Nat.le_of_ble_eq_true rfl) (fun M5 => ?_)
            refine sX_aload_n (i := 0) (by decide +kernel) rfl ?_
            refine sX_getR lf_X4_24 tk_4_0 (by decide +kernel) (fun x6 => ?_)
            refine sX_aload_n (i := 0) (by decide +kernel) rfl ?_
            refine sX_getR lf_X4_28 tk_4_1 (by decide +kernel) (fun x7 => ?_)
            refine sX_getR lf_X4_80 tk_1_6 (by decide +kernel) (fun x8 => ?_)
            refine sX_callV (As := [.ref x8]) (by decide +kernel) lm_X4_84 mf_X2_run mi_X2_run mc_2 (m_X2_run G l x6 x8 M5) (fun _ h => sRc_some h) (by decide) rfl rfl (Nat.le_of_ble_eq_true rfl) (fun x9 M10 _ => ?_)
            refine sX_ifeq (o := 12) (t := 170) (by decide +kernel) (by decide) (fun _ => ?_) (fun _ => ?_)
            · exact sX.le (xB170 v7 M10) (sLe_s (sLe_s (sLe_s (sLe_n (sLe_s (sLe_s (sLe_s (sLe_s sLe_e))))))))
            · refine sX_aload (i := 4) (by decide +kernel) rfl ?_
              refine sX_iload (i := 7) (by decide +kernel) rfl ?_
              refine sX_iload (i := 5) (by decide +kernel) rfl ?_
              refine sX_callSv (As := [.ref v4, .int v7, .int v5]) (by decide +kernel) lm_X4_90 mf_X11_mark ms_X11_mark (m_X11_mark G l v4 v7 v5 M10) (by decide) rfl rfl (Nat.le_of_ble_eq_true rfl) (fun M11 => ?_)
              exact sX.le (xB170 v7 M11) (sLe_s (sLe_s (sLe_s (sLe_n (sLe_s (sLe_s (sLe_s (sLe_s sLe_e))))))))
      exact fun a => xK112 a.1 a.2
    have xK91 : ∀ (v5 : Int32) (M : sMem), sX G l 4 yX4_row cX4_row 8 (some (.array .long)) M0 r M' 91 [some (.ref v0), some (.int v1), some (.int v2), none, some (.ref v4), some (.int v5), none, none] [] M (f_X4_row_K91 v0 v1 v2 v4 v5 M) K1 := by
      intro v5 M
      unfold f_X4_row_K91
      refine sX_iload (i := 5) (by decide +kernel) rfl ?_
      refine sX_sipush (n := 200) (v := (200 : Int32)) (by decide +kernel) (by decide) ?_
      refine sX_icge (o := 86) (t := 182) (by decide +kernel) (by decide) (fun _ => ?_) (fun _ => ?_)
      · refine sX_exit he1 ?_
        exact sX.le (xB182 v4 M) (sLe_n (sLe_n (sLe_n (sLe_n (sLe_s (sLe_n (sLe_n (sLe_n sLe_e))))))))
      · refine sX_aload_n (i := 0) (by decide +kernel) rfl ?_
        refine sX_iload_n (i := 1) (by decide +kernel) rfl ?_
        refine sX_iload_n (i := 2) (by decide +kernel) rfl ?_
        refine sX_iload (i := 5) (by decide +kernel) rfl ?_
        refine sX_callVp (As := [.int v1, .int v2, .int v5]) (by decide +kernel) lm_X4_69 mf_X4_headOf mi_X4_headOf mc_4 (m_X4_headOf G l v0 v1 v2 v5 M) (fun _ h => sRc_some h) (by decide) rfl rfl (Nat.le_of_ble_eq_true rfl) (fun x12 => ?_)
        refine sX_istore (i := 6) (ls2 := [some (.ref v0), some (.int v1), some (.int v2), none, some (.ref v4), some (.int v5), some (.int x12), none]) (by decide +kernel) (by decide) rfl ?_
        refine sX_iconst (n := 0) (v := (0 : Int32)) (by decide +kernel) (by decide) ?_
        refine sX_istore (i := 7) (ls2 := [some (.ref v0), some (.int v1), some (.int v2), none, some (.ref v4), some (.int v5), some (.int x12), some (.int (0 : Int32))]) (by decide +kernel) (by decide) rfl ?_
        exact sX.le (xL112 v5 x12 ((0 : Int32)) M) (sLe_s (sLe_s (sLe_s (sLe_n (sLe_s (sLe_s (sLe_s (sLe_s sLe_e))))))))
    exact fun a => xK91 a.1 a.2
  have xB54 : ∀ (v0 : Nat) (v1 : Int32) (v2 : Int32) (v3 : Int32) (M : sMem), sX G l 4 yX4_row cX4_row 8 (some (.array .long)) M0 r M' 54 [some (.ref v0), some (.int v1), some (.int v2), some (.int v3), none, none, none, none] [] M (f_X4_row_B54 v0 v1 v2 v3 M) K := by
    intro v0 v1 v2 v3 M
    unfold f_X4_row_B54
    refine sX_aload_n (i := 0) (by decide +kernel) rfl ?_
    refine sX_getR lf_X4_11 tk_4_2 (by decide +kernel) (fun x13 => ?_)
    refine sX_iload_n (i := 3) (by decide +kernel) rfl ?_
    refine sX_aaloadN (Or.inr rfl) (by decide +kernel) (fun x14 => ?_)
    refine sX_astore (i := 4) (ls2 := [some (.ref v0), some (.int v1), some (.int v2), some (.int v3), some (.ref x14), none, none, none]) (by decide +kernel) (by decide) rfl ?_
    refine sX_aload_n (i := 0) (by decide +kernel) rfl ?_
    refine sX_getR lf_X4_17 tk_4_3 (by decide +kernel) (fun x15 => ?_)
    refine sX_iload_n (i := 3) (by decide +kernel) rfl ?_
    refine sX_iaload (by decide +kernel) (fun x16 => ?_)
    refine sX_iconst (n := 1) (v := (1 : Int32)) (by decide +kernel) (by decide) ?_
    refine sX_icne (o := 6) (t := 75) (by decide +kernel) (by decide) (fun _ => ?_) (fun _ => ?_)
    · refine sX_aload (i := 4) (by decide +kernel) rfl ?_
      exact sX_some (fun h _ => sW_aret (by decide +kernel) rfl (Or.inr ⟨_, rfl⟩) (hr _ h).1.symm (hr _ h).2.symm)
    · refine sX_aload_n (i := 0) (by decide +kernel) rfl ?_
      refine sX_getR lf_X4_17 tk_4_3 (by decide +kernel) (fun x17 => ?_)
      refine sX_iload_n (i := 3) (by decide +kernel) rfl ?_
      refine sX_iconst (n := 1) (v := (1 : Int32)) (by decide +kernel) (by decide) ?_
      refine sX_iastore (by decide +kernel) (by decide) (fun M18 => ?_)
      refine sX_aload (i := 4) (by decide +kernel) rfl ?_
      refine sX_lconst (n := 0) (v := (0 : Int64)) (by decide +kernel) (by decide) ?_
      refine sX_callSv (As := [.ref x14, .long (0 : Int64)]) (by decide +kernel) lm_X4_54 mf_J7_fill_d0a16 ms_J7_fill_d0a16 (m_J7_fill_d0a16 G l x14 ((0 : Int64)) M18) (by decide) rfl rfl (Nat.le_of_ble_eq_true rfl) (fun M19 => ?_)
      refine sX_iconst (n := 0) (v := (0 : Int32)) (by decide +kernel) (by decide) ?_
      refine sX_istore (i := 5) (ls2 := [some (.ref v0), some (.int v1), some (.int v2), some (.int v3), some (.ref x14), some (.int (0 : Int32)), none, none]) (by decide +kernel) (by decide) rfl ?_
      exact sX.le (xL91 v0 v1 v2 x14 ((0 : Int32)) M19) (sLe_s (sLe_s (sLe_s (sLe_n (sLe_s (sLe_s (sLe_n (sLe_n sLe_e))))))))
  refine sX_rc ?_
  refine sX_iload_n (i := 1) (by decide +kernel) rfl ?_
  refine sX_bipush (n := 100) (v := (100 : Int32)) (by decide +kernel) (by decide) ?_
  refine sX_imul (by decide +kernel) ?_
  refine sX_iload_n (i := 2) (by decide +kernel) rfl ?_
  refine sX_iadd (by decide +kernel) ?_
  refine sX_istore_n (i := 3) (ls2 := [some (.ref v0), some (.int v1), some (.int v2), some (.int ((v1 * (100 : Int32)) + v2)), none, none, none, none]) (by decide +kernel) (by decide) rfl ?_
  refine sX_iload_n (i := 1) (by decide +kernel) rfl ?_
  refine sX_iflt (o := 22) (t := 30) (by decide +kernel) (by decide) (fun _ => ?_) (fun _ => ?_)
  · exact sX.le (xB30 v0 M0) (sLe_s (sLe_n (sLe_n (sLe_n (sLe_n (sLe_n (sLe_n (sLe_n sLe_e))))))))
  · refine sX_iload_n (i := 2) (by decide +kernel) rfl ?_
    refine sX_iflt (o := 18) (t := 30) (by decide +kernel) (by decide) (fun _ => ?_) (fun _ => ?_)
    · exact sX.le (xB30 v0 M0) (sLe_s (sLe_n (sLe_n (sLe_n (sLe_n (sLe_n (sLe_n (sLe_n sLe_e))))))))
    · refine sX_iload_n (i := 2) (by decide +kernel) rfl ?_
      refine sX_bipush (n := 100) (v := (100 : Int32)) (by decide +kernel) (by decide) ?_
      refine sX_icge (o := 12) (t := 30) (by decide +kernel) (by decide) (fun _ => ?_) (fun _ => ?_)
      · exact sX.le (xB30 v0 M0) (sLe_s (sLe_n (sLe_n (sLe_n (sLe_n (sLe_n (sLe_n (sLe_n sLe_e))))))))
      · refine sX_iload_n (i := 3) (by decide +kernel) rfl ?_
        refine sX_aload_n (i := 0) (by decide +kernel) rfl ?_
        refine sX_getR lf_X4_11 tk_4_2 (by decide +kernel) (fun x20 => ?_)
        refine sX_alen (by decide) (by decide) (by decide +kernel) (fun x21 => ?_)
        refine sX_iclt (o := 8) (t := 35) (by decide +kernel) (by decide) (fun _ => ?_) (fun _ => ?_)
        · refine sX_aload_n (i := 0) (by decide +kernel) rfl ?_
          refine sX_getR lf_X4_11 tk_4_2 (by decide +kernel) (fun x22 => ?_)
          refine sX_iload_n (i := 3) (by decide +kernel) rfl ?_
          refine sX_aaload (Or.inr rfl) (by decide +kernel) (fun x23 => ?_)
          refine sX_nonnull (o := 13) (t := 54) (by decide +kernel) (by decide) (fun _ => ?_) (fun _ _ => ?_)
          · refine sX_aload_n (i := 0) (by decide +kernel) rfl ?_
            refine sX_getR lf_X4_11 tk_4_2 (by decide +kernel) (fun x24 => ?_)
            refine sX_iload_n (i := 3) (by decide +kernel) rfl ?_
            refine sX_bipush (n := 24) (v := (24 : Int32)) (by decide +kernel) (by decide) ?_
            refine sX_newa ak_long (by decide +kernel) (by decide) (fun q25 M26 => ?_)
            refine sX_aastore (Or.inr ⟨rfl, rfl⟩) (by decide +kernel) (by decide) (fun M27 => ?_)
            exact sX.le (xB54 v0 v1 v2 (((v1 * (100 : Int32)) + v2)) M27) (sLe_s (sLe_s (sLe_s (sLe_s (sLe_n (sLe_n (sLe_n (sLe_n sLe_e))))))))
          · exact sX.le (xB54 v0 v1 v2 (((v1 * (100 : Int32)) + v2)) M0) (sLe_s (sLe_s (sLe_s (sLe_s (sLe_n (sLe_n (sLe_n (sLe_n sLe_e))))))))
        · exact sX.le (xB30 v0 M0) (sLe_s (sLe_n (sLe_n (sLe_n (sLe_n (sLe_n (sLe_n (sLe_n sLe_e))))))))
def f_X4_close_B118 (v2 : Int32) (v4 : Nat) (v5 : Int32) (M : sMem) : Option ((Int32 × sMem) ⊕ ((sMem))) :=
  some (.inl ((((v5 + (1 : Int32))), M)))
def f_X4_close_K92 (v2 : Int32) (v4 : Nat) (v5 : Int32) (M : sMem) : Option ((Int32 × sMem) ⊕ ((sMem))) :=
  (aL 15 M v4).bind fun x1 =>
  if x1 ≤ v5 then
    some (.inr M)
  else
    if ((v2 >>> ((v5 / (4 : Int32)) &&& 31)) &&& (1 : Int32)) = (1 : Int32) then
      (stJ M v4 v5 ((0 : Int64))).bind fun M2 =>
      f_X4_close_B118 v2 v4 v5 M2
    else
      f_X4_close_B118 v2 v4 v5 M
def f_X4_close_L92 (v2 : Int32) (v4 : Nat) (v5 : Int32) (M : sMem) : Option sMem :=
  (sItr (fun a : (Int32 × sMem) => f_X4_close_K92 v2 v4 a.1 a.2) sFuel (v5, M)).bind (fun b => some b)
def f_X4_close_B89 (v2 : Int32) (v4 : Nat) (M : sMem) : Option sMem :=
  f_X4_close_L92 v2 v4 ((0 : Int32)) M
def f_X4_close_B83 (v0 : Nat) (v1 : Nat) (v2 : Int32) (v3 : Int32) (v4 : Nat) (v5 : Int32) (M : sMem) : Option ((Int32 × sMem) ⊕ ((sMem))) :=
  some (.inl ((((v5 + (1 : Int32))), M)))
def f_X4_close_K48 (v0 : Nat) (v1 : Nat) (v2 : Int32) (v3 : Int32) (v4 : Nat) (v5 : Int32) (v6 : Nat) (v7 : Int32) (M : sMem) : Option ((Int32 × sMem) ⊕ ((sMem))) :=
  (aL 15 M v6).bind fun x3 =>
  if x3 ≤ v7 then
    some (.inr M)
  else
    (aL 15 M v4).bind fun x4 =>
    if x4 ≤ v7 then
      some (.inr M)
    else
      (ldJ M v4 v7).bind fun x5 =>
      (ldJ M v6 v7).bind fun x6 =>
      (stJ M v4 v7 ((x5 ||| x6))).bind fun M7 =>
      some (.inl ((((v7 + (1 : Int32))), M7)))
def f_X4_close_L48 (v0 : Nat) (v1 : Nat) (v2 : Int32) (v3 : Int32) (v4 : Nat) (v5 : Int32) (v6 : Nat) (v7 : Int32) (M : sMem) : Option ((Int32 × sMem) ⊕ ((sMem))) :=
  (sItr (fun a : (Int32 × sMem) => f_X4_close_K48 v0 v1 v2 v3 v4 v5 v6 a.1 a.2) sFuel (v7, M)).bind (fun b => f_X4_close_B83 v0 v1 v2 v3 v4 v5 b)
def f_X4_close_K9 (v0 : Nat) (v1 : Nat) (v2 : Int32) (v3 : Int32) (v4 : Nat) (v5 : Int32) (M : sMem) : Option ((Int32 × sMem) ⊕ ((sMem))) :=
  (gR 4 5 1 M v0).bind fun x8 =>
  (gR 1 10 4 M x8).bind fun x9 =>
  (gI 9 4 3 M x9).bind fun x10 =>
  if x10 ≤ v5 then
    some (.inr M)
  else
    if v5 = v3 then
      f_X4_close_B83 v0 v1 v2 v3 v4 v5 M
    else
      (gR 8 8 2 M v1).bind fun x11 =>
      (ldI 14 M x11 v5).bind fun x12 =>
      (f_X4_row v0 v5 x12 M).bind fun (x13, M14) =>
      f_X4_close_L48 v0 v1 v2 v3 v4 v5 x13 ((0 : Int32)) M14
def f_X4_close_L9 (v0 : Nat) (v1 : Nat) (v2 : Int32) (v3 : Int32) (v4 : Nat) (v5 : Int32) (M : sMem) : Option sMem :=
  (sItr (fun a : (Int32 × sMem) => f_X4_close_K9 v0 v1 v2 v3 v4 a.1 a.2) sFuel (v5, M)).bind (fun b => f_X4_close_B89 v2 v4 b)
def f_X4_close (v0 : Nat) (v1 : Nat) (v2 : Int32) (v3 : Int32) (v4 : Nat) (M0 : sMem) : Option sMem :=
  sRc 4 5 M0 v0 (
    (f_J7_fill_d0a16 v4 ((0 : Int64)) M0).bind fun M15 =>
    f_X4_close_L9 v0 v1 v2 v3 v4 ((0 : Int32)) M15)
set_option maxRecDepth 100000 in
set_option maxHeartbeats 4000000 in
theorem m_X4_close (G : sG) (l : Launch) (v0 : Nat) (v1 : Nat) (v2 : Int32) (v3 : Int32) (v4 : Nat) (M0 : sMem) : sCv G l 5 yX4_close cX4_close 8 none [.ref v0, .ref v1, .int v2, .int v3, .ref v4] M0 (f_X4_close v0 v1 v2 v3 v4 M0) := by
  refine sC_v (ls := [some (.ref v0), some (.ref v1), some (.int v2), some (.int v3), some (.ref v4), none, none, none]) (by decide +kernel) rfl (Nat.le_of_ble_eq_true rfl) (fun r M' K hr => ?_)
  unfold f_X4_close
  have xL92 : ∀ (v2 : Int32) (v4 : Nat) (v5 : Int32) (M : sMem), sX G l 5 yX4_close cX4_close 8 none M0 r M' 92 [none, none, some (.int v2), none, some (.ref v4), some (.int v5), none, none] [] M (f_X4_close_L92 v2 v4 v5 M) K := by
    intro v2 v4 v5 M
    unfold f_X4_close_L92
    refine sX_bind ?_
    refine sX_loop (LS := fun a : (Int32 × sMem) => [none, none, some (.int v2), none, some (.ref v4), some (.int a.1), none, none]) (MM := fun a => a.2) (fun K1 hb1 he1 => ?_) sFuel ((v5, M))
    have xB118 : ∀ (v5 : Int32) (M : sMem), sX G l 5 yX4_close cX4_close 8 none M0 r M' 118 [none, none, some (.int v2), none, some (.ref v4), some (.int v5), none, none] [] M (f_X4_close_B118 v2 v4 v5 M) K1 := by
      intro v5 M
      unfold f_X4_close_B118
      refine sX_iinc (i := 5) (n := 1) (v := v5 + (1 : Int32)) (ls2 := [none, none, some (.int v2), none, some (.ref v4), some (.int (v5 + (1 : Int32))), none, none]) (by decide +kernel) rfl rfl (by decide) rfl ?_
      refine sX_goto (o := -29) (t := 92) (by decide +kernel) (by decide) ?_
      exact sX_back (a := (((v5 + (1 : Int32))), M)) hb1 rfl (sLe_n (sLe_n (sLe_s (sLe_n (sLe_s (sLe_s (sLe_n (sLe_n sLe_e))))))))
    have xK92 : ∀ (v5 : Int32) (M : sMem), sX G l 5 yX4_close cX4_close 8 none M0 r M' 92 [none, none, some (.int v2), none, some (.ref v4), some (.int v5), none, none] [] M (f_X4_close_K92 v2 v4 v5 M) K1 := by
      intro v5 M
      unfold f_X4_close_K92
      refine sX_iload (i := 5) (by decide +kernel) rfl ?_
      refine sX_aload (i := 4) (by decide +kernel) rfl ?_
      refine sX_alen (by decide) (by decide) (by decide +kernel) (fun x1 => ?_)
      refine sX_icge (o := 27) (t := 124) (by decide +kernel) (by decide) (fun _ => ?_) (fun _ => ?_)
      · refine sX_exit he1 ?_
        exact sX_some (fun h _ => sW_vret (by decide +kernel) rfl (hr _ h).1.symm (hr _ h).2.symm)
      · refine sX_iload_n (i := 2) (by decide +kernel) rfl ?_
        refine sX_iload (i := 5) (by decide +kernel) rfl ?_
        refine sX_iconst (n := 4) (v := (4 : Int32)) (by decide +kernel) (by decide) ?_
        refine sX_idiv (by decide +kernel) (by decide) ?_
        refine sX_ishr (by decide +kernel) ?_
        refine sX_iconst (n := 1) (v := (1 : Int32)) (by decide +kernel) (by decide) ?_
        refine sX_iand (by decide +kernel) ?_
        refine sX_iconst (n := 1) (v := (1 : Int32)) (by decide +kernel) (by decide) ?_
        refine sX_icne (o := 9) (t := 118) (by decide +kernel) (by decide) (fun _ => ?_) (fun _ => ?_)
        · refine sX_aload (i := 4) (by decide +kernel) rfl ?_
          refine sX_iload (i := 5) (by decide +kernel) rfl ?_
          refine sX_lconst (n := 0) (v := (0 : Int64)) (by decide +kernel) (by decide) ?_
          refine sX_lastore (by decide +kernel) (by decide) (fun M2 => ?_)
          exact sX.le (xB118 v5 M2) (sLe_n (sLe_n (sLe_s (sLe_n (sLe_s (sLe_s (sLe_n (sLe_n sLe_e))))))))
        · exact sX.le (xB118 v5 M) (sLe_n (sLe_n (sLe_s (sLe_n (sLe_s (sLe_s (sLe_n (sLe_n sLe_e))))))))
    exact fun a => xK92 a.1 a.2
  have xB89 : ∀ (v2 : Int32) (v4 : Nat) (M : sMem), sX G l 5 yX4_close cX4_close 8 none M0 r M' 89 [none, none, some (.int v2), none, some (.ref v4), none, none, none] [] M (f_X4_close_B89 v2 v4 M) K := by
    intro v2 v4 M
    unfold f_X4_close_B89
    refine sX_iconst (n := 0) (v := (0 : Int32)) (by decide +kernel) (by decide) ?_
    refine sX_istore (i := 5) (ls2 := [none, none, some (.int v2), none, some (.ref v4), some (.int (0 : Int32)), none, none]) (by decide +kernel) (by decide) rfl ?_
    exact sX.le (xL92 v2 v4 ((0 : Int32)) M) (sLe_n (sLe_n (sLe_s (sLe_n (sLe_s (sLe_s (sLe_n (sLe_n sLe_e))))))))
  have xL9 : ∀ (v0 : Nat) (v1 : Nat) (v2 : Int32) (v3 : Int32) (v4 : Nat) (v5 : Int32) (M : sMem), sX G l 5 yX4_close cX4_close 8 none M0 r M' 9 [some (.ref v0), some (.ref v1), some (.int v2), some (.int v3), some (.ref v4), some (.int v5), none, none] [] M (f_X4_close_L9 v0 v1 v2 v3 v4 v5 M) K := by
    intro v0 v1 v2 v3 v4 v5 M
    unfold f_X4_close_L9
    refine sX_bind ?_
    refine sX_loop (LS := fun a : (Int32 × sMem) => [some (.ref v0), some (.ref v1), some (.int v2), some (.int v3), some (.ref v4), some (.int a.1), none, none]) (MM := fun a => a.2) (fun K1 hb1 he1 => ?_) sFuel ((v5, M))
    have xB83 : ∀ (v5 : Int32) (M : sMem), sX G l 5 yX4_close cX4_close 8 none M0 r M' 83 [some (.ref v0), some (.ref v1), some (.int v2), some (.int v3), some (.ref v4), some (.int v5), none, none] [] M (f_X4_close_B83 v0 v1 v2 v3 v4 v5 M) K1 := by
      intro v5 M
      unfold f_X4_close_B83
      refine sX_iinc (i := 5) (n := 1) (v := v5 + (1 : Int32)) (ls2 := [some (.ref v0), some (.ref v1), some (.int v2), some (.int v3), some (.ref v4), some (.int (v5 + (1 : Int32))), none, none]) (by decide +kernel) rfl rfl (by decide) rfl ?_
      refine sX_goto (o := -77) (t := 9) (by decide +kernel) (by decide) ?_
      exact sX_back (a := (((v5 + (1 : Int32))), M)) hb1 rfl (sLe_s (sLe_s (sLe_s (sLe_s (sLe_s (sLe_s (sLe_n (sLe_n sLe_e))))))))
    have xL48 : ∀ (v5 : Int32) (v6 : Nat) (v7 : Int32) (M : sMem), sX G l 5 yX4_close cX4_close 8 none M0 r M' 48 [some (.ref v0), some (.ref v1), some (.int v2), some (.int v3), some (.ref v4), some (.int v5), some (.ref v6), some (.int v7)] [] M (f_X4_close_L48 v0 v1 v2 v3 v4 v5 v6 v7 M) K1 := by
      intro v5 v6 v7 M
      unfold f_X4_close_L48
      refine sX_bind ?_
      refine sX_loop (LS := fun a : (Int32 × sMem) => [some (.ref v0), some (.ref v1), some (.int v2), some (.int v3), some (.ref v4), some (.int v5), some (.ref v6), some (.int a.1)]) (MM := fun a => a.2) (fun K2 hb2 he2 => ?_) sFuel ((v7, M))
      have xK48 : ∀ (v7 : Int32) (M : sMem), sX G l 5 yX4_close cX4_close 8 none M0 r M' 48 [some (.ref v0), some (.ref v1), some (.int v2), some (.int v3), some (.ref v4), some (.int v5), some (.ref v6), some (.int v7)] [] M (f_X4_close_K48 v0 v1 v2 v3 v4 v5 v6 v7 M) K2 := by
        intro v7 M
        unfold f_X4_close_K48
        refine sX_iload (i := 7) (by decide +kernel) rfl ?_
        refine sX_aload (i := 6) (by decide +kernel) rfl ?_
        refine sX_alen (by decide) (by decide) (by decide +kernel) (fun x3 => ?_)
        refine sX_icge (o := 30) (t := 83) (by decide +kernel) (by decide) (fun _ => ?_) (fun _ => ?_)
        · refine sX_exit he2 ?_
          exact sX.le (xB83 v5 M) (sLe_s (sLe_s (sLe_s (sLe_s (sLe_s (sLe_s (sLe_n (sLe_n sLe_e))))))))
        · refine sX_iload (i := 7) (by decide +kernel) rfl ?_
          refine sX_aload (i := 4) (by decide +kernel) rfl ?_
          refine sX_alen (by decide) (by decide) (by decide +kernel) (fun x4 => ?_)
          refine sX_icge (o := 22) (t := 83) (by decide +kernel) (by decide) (fun _ => ?_) (fun _ => ?_)
          · refine sX_exit he2 ?_
            exact sX.le (xB83 v5 M) (sLe_s (sLe_s (sLe_s (sLe_s (sLe_s (sLe_s (sLe_n (sLe_n sLe_e))))))))
          · refine sX_aload (i := 4) (by decide +kernel) rfl ?_
            refine sX_iload (i := 7) (by decide +kernel) rfl ?_
            refine sX_dup2 (by decide +kernel) rfl rfl ?_
            refine sX_laload (by decide +kernel) (fun x5 => ?_)
            refine sX_aload (i := 6) (by decide +kernel) rfl ?_
            refine sX_iload (i := 7) (by decide +kernel) rfl ?_
            refine sX_laload (by decide +kernel) (fun x6 => ?_)
            refine sX_lor (by decide +kernel) ?_
            refine sX_lastore (by decide +kernel) (by decide) (fun M7 => ?_)
            refine sX_iinc (i := 7) (n := 1) (v := v7 + (1 : Int32)) (ls2 := [some (.ref v0), some (.ref v1), some (.int v2), some (.int v3), some (.ref v4), some (.int v5), some (.ref v6), some (.int (v7 + (1 : Int32)))]) (by decide +kernel) rfl rfl (by decide) rfl ?_
            refine sX_goto (o := -32) (t := 48) (by decide +kernel) (by decide) ?_
            exact sX_back (a := (((v7 + (1 : Int32))), M7)) hb2 rfl (sLe_s (sLe_s (sLe_s (sLe_s (sLe_s (sLe_s (sLe_s (sLe_s sLe_e))))))))
      exact fun a => xK48 a.1 a.2
    have xK9 : ∀ (v5 : Int32) (M : sMem), sX G l 5 yX4_close cX4_close 8 none M0 r M' 9 [some (.ref v0), some (.ref v1), some (.int v2), some (.int v3), some (.ref v4), some (.int v5), none, none] [] M (f_X4_close_K9 v0 v1 v2 v3 v4 v5 M) K1 := by
      intro v5 M
      unfold f_X4_close_K9
      refine sX_iload (i := 5) (by decide +kernel) rfl ?_
      refine sX_aload_n (i := 0) (by decide +kernel) rfl ?_
      refine sX_getR lf_X4_28 tk_4_1 (by decide +kernel) (fun x8 => ?_)
      refine sX_getR lf_X4_38 tk_1_4 (by decide +kernel) (fun x9 => ?_)
      refine sX_getI lf_X4_57 tk_9_3 (by decide +kernel) (fun x10 => ?_)
      refine sX_icge (o := 68) (t := 89) (by decide +kernel) (by decide) (fun _ => ?_) (fun _ => ?_)
      · refine sX_exit he1 ?_
        exact sX.le (xB89 v2 v4 M) (sLe_n (sLe_n (sLe_s (sLe_n (sLe_s (sLe_n (sLe_n (sLe_n sLe_e))))))))
      · refine sX_iload (i := 5) (by decide +kernel) rfl ?_
        refine sX_iload_n (i := 3) (by decide +kernel) rfl ?_
        refine sX_iceq (o := 56) (t := 83) (by decide +kernel) (by decide) (fun _ => ?_) (fun _ => ?_)
        · exact sX.le (xB83 v5 M) (sLe_s (sLe_s (sLe_s (sLe_s (sLe_s (sLe_s (sLe_n (sLe_n sLe_e))))))))
        · refine sX_aload_n (i := 0) (by decide +kernel) rfl ?_
          refine sX_iload (i := 5) (by decide +kernel) rfl ?_
          refine sX_aload_n (i := 1) (by decide +kernel) rfl ?_
          refine sX_getR lf_X4_60 tk_8_2 (by decide +kernel) (fun x11 => ?_)
          refine sX_iload (i := 5) (by decide +kernel) rfl ?_
          refine sX_iaload (by decide +kernel) (fun x12 => ?_)
          refine sX_callV (As := [.int v5, .int x12]) (by decide +kernel) lm_X4_65 mf_X4_row mi_X4_row mc_4 (m_X4_row G l v0 v5 x12 M) (fun _ h => sRc_some h) (by decide) rfl rfl (Nat.le_of_ble_eq_true rfl) (fun x13 M14 _ => ?_)
          refine sX_astore (i := 6) (ls2 := [some (.ref v0), some (.ref v1), some (.int v2), some (.int v3), some (.ref v4), some (.int v5), some (.ref x13), none]) (by decide +kernel) (by decide) rfl ?_
          refine sX_iconst (n := 0) (v := (0 : Int32)) (by decide +kernel) (by decide) ?_
          refine sX_istore (i := 7) (ls2 := [some (.ref v0), some (.ref v1), some (.int v2), some (.int v3), some (.ref v4), some (.int v5), some (.ref x13), some (.int (0 : Int32))]) (by decide +kernel) (by decide) rfl ?_
          exact sX.le (xL48 v5 x13 ((0 : Int32)) M14) (sLe_s (sLe_s (sLe_s (sLe_s (sLe_s (sLe_s (sLe_s (sLe_s sLe_e))))))))
    exact fun a => xK9 a.1 a.2
  refine sX_rc ?_
  refine sX_aload (i := 4) (by decide +kernel) rfl ?_
  refine sX_lconst (n := 0) (v := (0 : Int64)) (by decide +kernel) (by decide) ?_
  refine sX_callSv (As := [.ref v4, .long (0 : Int64)]) (by decide +kernel) lm_X4_54 mf_J7_fill_d0a16 ms_J7_fill_d0a16 (m_J7_fill_d0a16 G l v4 ((0 : Int64)) M0) (by decide) rfl rfl (Nat.le_of_ble_eq_true rfl) (fun M15 => ?_)
  refine sX_iconst (n := 0) (v := (0 : Int32)) (by decide +kernel) (by decide) ?_
  refine sX_istore (i := 5) (ls2 := [some (.ref v0), some (.ref v1), some (.int v2), some (.int v3), some (.ref v4), some (.int (0 : Int32)), none, none]) (by decide +kernel) (by decide) rfl ?_
  exact sX.le (xL9 v0 v1 v2 v3 v4 ((0 : Int32)) M15) (sLe_s (sLe_s (sLe_s (sLe_s (sLe_s (sLe_s (sLe_n (sLe_n sLe_e))))))))
def f_J9_max_7cf53 (v0 : Int32) (v1 : Int32) (M0 : sMem) : Option Int32 :=
  if v0 < v1 then
    some v1
  else
    some v0
set_option maxRecDepth 100000 in
set_option maxHeartbeats 4000000 in
theorem m_J9_max_7cf53 (G : sG) (l : Launch) (v0 : Int32) (v1 : Int32) (M0 : sMem) : sCp G l 1 yJ9_max_7cf53 cJ9_max_7cf53 2 (some .int) [.int v0, .int v1] M0 rvI (f_J9_max_7cf53 v0 v1 M0) := by
  refine sC_p (ls := [some (.int v0), some (.int v1)]) (by decide +kernel) rfl (Nat.le_of_ble_eq_true rfl) (fun r M' K hr => ?_)
  unfold f_J9_max_7cf53
  refine sX_iload_n (i := 0) (by decide +kernel) rfl ?_
  refine sX_iload_n (i := 1) (by decide +kernel) rfl ?_
  refine sX_iclt (o := 7) (t := 9) (by decide +kernel) (by decide) (fun _ => ?_) (fun _ => ?_)
  · refine sX_iload_n (i := 1) (by decide +kernel) rfl ?_
    exact sX_some (fun h _ => sW_iret (by decide +kernel) rfl (hr _ h).1.symm (hr _ h).2.symm)
  · refine sX_iload_n (i := 0) (by decide +kernel) rfl ?_
    refine sX_goto (o := 4) (t := 10) (by decide +kernel) (by decide) ?_
    exact sX_some (fun h _ => sW_iret (by decide +kernel) rfl (hr _ h).1.symm (hr _ h).2.symm)
def f_J9_min_7cf53 (v0 : Int32) (v1 : Int32) (M0 : sMem) : Option Int32 :=
  if v1 < v0 then
    some v1
  else
    some v0
set_option maxRecDepth 100000 in
set_option maxHeartbeats 4000000 in
theorem m_J9_min_7cf53 (G : sG) (l : Launch) (v0 : Int32) (v1 : Int32) (M0 : sMem) : sCp G l 1 yJ9_min_7cf53 cJ9_min_7cf53 2 (some .int) [.int v0, .int v1] M0 rvI (f_J9_min_7cf53 v0 v1 M0) := by
  refine sC_p (ls := [some (.int v0), some (.int v1)]) (by decide +kernel) rfl (Nat.le_of_ble_eq_true rfl) (fun r M' K hr => ?_)
  unfold f_J9_min_7cf53
  refine sX_iload_n (i := 0) (by decide +kernel) rfl ?_
  refine sX_iload_n (i := 1) (by decide +kernel) rfl ?_
  refine sX_icgt (o := 7) (t := 9) (by decide +kernel) (by decide) (fun _ => ?_) (fun _ => ?_)
  · refine sX_iload_n (i := 1) (by decide +kernel) rfl ?_
    exact sX_some (fun h _ => sW_iret (by decide +kernel) rfl (hr _ h).1.symm (hr _ h).2.symm)
  · refine sX_iload_n (i := 0) (by decide +kernel) rfl ?_
    refine sX_goto (o := 4) (t := 10) (by decide +kernel) (by decide) ?_
    exact sX_some (fun h _ => sW_iret (by decide +kernel) rfl (hr _ h).1.symm (hr _ h).2.symm)
def f_X0_bringCar_B91 (v1 : Nat) (v2 : Int32) (v4 : Int32) (M : sMem) : Option sMem :=
  (gR 8 8 4 M v1).bind fun x1 =>
  (stI M x1 v2 v4).bind fun M2 =>
  some M2
def f_X0_bringCar (v0 : Nat) (v1 : Nat) (v2 : Int32) (M0 : sMem) : Option sMem :=
  sRc 0 7 M0 v0 (
    (gR 0 7 0 M0 v0).bind fun x3 =>
    (gR 2 5 0 M0 x3).bind fun x4 =>
    (gR 0 7 6 M0 v0).bind fun x5 =>
    (ldI 14 M0 x5 v2).bind fun x6 =>
    (stI M0 x4 ((22 : Int32)) x6).bind fun M7 =>
    (gR 0 7 0 M7 v0).bind fun x8 =>
    (gR 2 5 0 M7 x8).bind fun x9 =>
    (gR 8 8 5 M7 v1).bind fun x10 =>
    (ldI 14 M7 x10 v2).bind fun x11 =>
    (stI M7 x9 ((23 : Int32)) x11).bind fun M12 =>
    (gR 8 8 5 M12 v1).bind fun x13 =>
    (ldI 14 M12 x13 v2).bind fun x14 =>
    (gR 0 7 0 M12 v0).bind fun x15 =>
    (gR 0 7 3 M12 v0).bind fun x16 =>
    (gR 1 10 8 M12 x16).bind fun x17 =>
    (f_X2_run x15 x17 M12).bind fun (x18, M19) =>
    (gR 8 8 5 M19 v1).bind fun x20 =>
    (f_J9_min_7cf53 ((999 : Int32)) ((x14 + x18)) M19).bind fun x21 =>
    (f_J9_max_7cf53 ((0 : Int32)) x21 M19).bind fun x22 =>
    (stI M19 x20 v2 x22).bind fun M23 =>
    (gR 8 8 3 M23 v1).bind fun x24 =>
    (ldI 14 M23 x24 v2).bind fun x25 =>
    (gR 8 8 3 M23 v1).bind fun x26 =>
    (gR 8 8 4 M23 v1).bind fun x27 =>
    (ldI 14 M23 x27 v2).bind fun x28 =>
    (stI M23 x26 v2 x28).bind fun M29 =>
    f_X0_bringCar_B91 v1 v2 x25 M29)
set_option maxRecDepth 100000 in
set_option maxHeartbeats 4000000 in
theorem m_X0_bringCar (G : sG) (l : Launch) (v0 : Nat) (v1 : Nat) (v2 : Int32) (M0 : sMem) : sCv G l 4 yX0_bringCar cX0_bringCar 5 none [.ref v0, .ref v1, .int v2] M0 (f_X0_bringCar v0 v1 v2 M0) := by
  refine sC_v (ls := [some (.ref v0), some (.ref v1), some (.int v2), none, none]) (by decide +kernel) rfl (Nat.le_of_ble_eq_true rfl) (fun r M' K hr => ?_)
  unfold f_X0_bringCar
  have xB91 : ∀ (v1 : Nat) (v2 : Int32) (v4 : Int32) (M : sMem), sX G l 4 yX0_bringCar cX0_bringCar 5 none M0 r M' 91 [none, some (.ref v1), some (.int v2), none, some (.int v4)] [] M (f_X0_bringCar_B91 v1 v2 v4 M) K := by
    intro v1 v2 v4 M
    unfold f_X0_bringCar_B91
    refine sX_aload_n (i := 1) (by decide +kernel) rfl ?_
    refine sX_getR lf_X0_64 tk_8_4 (by decide +kernel) (fun x1 => ?_)
    refine sX_iload_n (i := 2) (by decide +kernel) rfl ?_
    refine sX_iload (i := 4) (by decide +kernel) rfl ?_
    refine sX_iastore (by decide +kernel) (by decide) (fun M2 => ?_)
    exact sX_some (fun h _ => sW_vret (by decide +kernel) rfl (hr _ h).1.symm (hr _ h).2.symm)
  refine sX_rc ?_
  refine sX_aload_n (i := 0) (by decide +kernel) rfl ?_
  refine sX_getR lf_X0_12 tk_0_0 (by decide +kernel) (fun x3 => ?_)
  refine sX_getR lf_X0_103 tk_2_0 (by decide +kernel) (fun x4 => ?_)
  refine sX_bipush (n := 22) (v := (22 : Int32)) (by decide +kernel) (by decide) ?_
  refine sX_aload_n (i := 0) (by decide +kernel) rfl ?_
  refine sX_getR lf_X0_25 tk_0_6 (by decide +kernel) (fun x5 => ?_)
  refine sX_iload_n (i := 2) (by decide +kernel) rfl ?_
  refine sX_iaload (by decide +kernel) (fun x6 => ?_)
  refine sX_iastore (by decide +kernel) (by decide) (fun M7 => ?_)
  refine sX_aload_n (i := 0) (by decide +kernel) rfl ?_
  refine sX_getR lf_X0_12 tk_0_0 (by decide +kernel) (fun x8 => ?_)
  refine sX_getR lf_X0_103 tk_2_0 (by decide +kernel) (fun x9 => ?_)
  refine sX_bipush (n := 23) (v := (23 : Int32)) (by decide +kernel) (by decide) ?_
  refine sX_aload_n (i := 1) (by decide +kernel) rfl ?_
  refine sX_getR lf_X0_120 tk_8_5 (by decide +kernel) (fun x10 => ?_)
  refine sX_iload_n (i := 2) (by decide +kernel) rfl ?_
  refine sX_iaload (by decide +kernel) (fun x11 => ?_)
  refine sX_iastore (by decide +kernel) (by decide) (fun M12 => ?_)
  refine sX_aload_n (i := 1) (by decide +kernel) rfl ?_
  refine sX_getR lf_X0_120 tk_8_5 (by decide +kernel) (fun x13 => ?_)
  refine sX_iload_n (i := 2) (by decide +kernel) rfl ?_
  refine sX_iaload (by decide +kernel) (fun x14 => ?_)
  refine sX_aload_n (i := 0) (by decide +kernel) rfl ?_
  refine sX_getR lf_X0_12 tk_0_0 (by decide +kernel) (fun x15 => ?_)
  refine sX_aload_n (i := 0) (by decide +kernel) rfl ?_
  refine sX_getR lf_X0_29 tk_0_3 (by decide +kernel) (fun x16 => ?_)
  refine sX_getR lf_X0_136 tk_1_8 (by decide +kernel) (fun x17 => ?_)
  refine sX_callV (As := [.ref x17]) (by decide +kernel) lm_X0_132 mf_X2_run mi_X2_run mc_2 (m_X2_run G l x15 x17 M12) (fun _ h => sRc_some h) (by decide) rfl rfl (Nat.le_of_ble_eq_true rfl) (fun x18 M19 _ => ?_)
  refine sX_iadd (by decide +kernel) ?_
  refine sX_istore_n (i := 3) (ls2 := [some (.ref v0), some (.ref v1), some (.int v2), some (.int (x14 + x18)), none]) (by decide +kernel) (by decide) rfl ?_
  refine sX_aload_n (i := 1) (by decide +kernel) rfl ?_
  refine sX_getR lf_X0_120 tk_8_5 (by decide +kernel) (fun x20 => ?_)
  refine sX_iload_n (i := 2) (by decide +kernel) rfl ?_
  refine sX_iconst (n := 0) (v := (0 : Int32)) (by decide +kernel) (by decide) ?_
  refine sX_sipush (n := 999) (v := (999 : Int32)) (by decide +kernel) (by decide) ?_
  refine sX_iload_n (i := 3) (by decide +kernel) rfl ?_
  refine sX_callSp (As := [.int (999 : Int32), .int (x14 + x18)]) (by decide +kernel) lm_X0_140 mf_J9_min_7cf53 ms_J9_min_7cf53 (m_J9_min_7cf53 G l ((999 : Int32)) ((x14 + x18)) M19) (by decide) rfl rfl (Nat.le_of_ble_eq_true rfl) (fun x21 => ?_)
  refine sX_callSp (As := [.int (0 : Int32), .int x21]) (by decide +kernel) lm_X0_98 mf_J9_max_7cf53 ms_J9_max_7cf53 (m_J9_max_7cf53 G l ((0 : Int32)) x21 M19) (by decide) rfl rfl (Nat.le_of_ble_eq_true rfl) (fun x22 => ?_)
  refine sX_iastore (by decide +kernel) (by decide) (fun M23 => ?_)
  refine sX_aload_n (i := 1) (by decide +kernel) rfl ?_
  refine sX_getR lf_X0_55 tk_8_3 (by decide +kernel) (fun x24 => ?_)
  refine sX_iload_n (i := 2) (by decide +kernel) rfl ?_
  refine sX_iaload (by decide +kernel) (fun x25 => ?_)
  refine sX_istore (i := 4) (ls2 := [some (.ref v0), some (.ref v1), some (.int v2), some (.int (x14 + x18)), some (.int x25)]) (by decide +kernel) (by decide) rfl ?_
  refine sX_aload_n (i := 1) (by decide +kernel) rfl ?_
  refine sX_getR lf_X0_55 tk_8_3 (by decide +kernel) (fun x26 => ?_)
  refine sX_iload_n (i := 2) (by decide +kernel) rfl ?_
  refine sX_aload_n (i := 1) (by decide +kernel) rfl ?_
  refine sX_getR lf_X0_64 tk_8_4 (by decide +kernel) (fun x27 => ?_)
  refine sX_iload_n (i := 2) (by decide +kernel) rfl ?_
  refine sX_iaload (by decide +kernel) (fun x28 => ?_)
  refine sX_iastore (by decide +kernel) (by decide) (fun M29 => ?_)
  exact sX.le (xB91 v1 v2 x25 M29) (sLe_n (sLe_s (sLe_s (sLe_n (sLe_s sLe_e)))))
def f_X8_keep_B34 (v0 : Nat) (v1 : Int32) (v2 : Int32) (M : sMem) : Option sMem :=
  (gR 8 8 6 M v0).bind fun x1 =>
  (gI 8 8 7 M v0).bind fun x2 =>
  (gI 8 8 0 M v0).bind fun x3 =>
  (stI M x1 ((x2 * (3 : Int32))) x3).bind fun M4 =>
  (gR 8 8 6 M4 v0).bind fun x5 =>
  (gI 8 8 7 M4 v0).bind fun x6 =>
  (stI M4 x5 (((x6 * (3 : Int32)) + (1 : Int32))) v1).bind fun M7 =>
  (gR 8 8 6 M7 v0).bind fun x8 =>
  (gI 8 8 7 M7 v0).bind fun x9 =>
  (stI M7 x8 (((x9 * (3 : Int32)) + (2 : Int32))) v2).bind fun M10 =>
  (gI 8 8 7 M10 v0).bind fun x11 =>
  (pI 8 8 7 M10 v0 ((x11 + (1 : Int32)))).bind fun M12 =>
  some M12
def f_X8_keep (v0 : Nat) (v1 : Int32) (v2 : Int32) (M0 : sMem) : Option sMem :=
  sRc 8 8 M0 v0 (
    (gI 8 8 7 M0 v0).bind fun x13 =>
    if x13 = (40 : Int32) then
      (gR 8 8 6 M0 v0).bind fun x14 =>
      (gR 8 8 6 M0 v0).bind fun x15 =>
      (cpI M0 x14 ((3 : Int32)) x15 ((0 : Int32)) ((117 : Int32))).bind fun M16 =>
      (gI 8 8 7 M16 v0).bind fun x17 =>
      (pI 8 8 7 M16 v0 ((x17 - (1 : Int32)))).bind fun M18 =>
      f_X8_keep_B34 v0 v1 v2 M18
    else
      f_X8_keep_B34 v0 v1 v2 M0)
set_option maxRecDepth 100000 in
set_option maxHeartbeats 4000000 in
theorem m_X8_keep (G : sG) (l : Launch) (v0 : Nat) (v1 : Int32) (v2 : Int32) (M0 : sMem) : sCv G l 1 yX8_keep cX8_keep 3 none [.ref v0, .int v1, .int v2] M0 (f_X8_keep v0 v1 v2 M0) := by
  refine sC_v (ls := [some (.ref v0), some (.int v1), some (.int v2)]) (by decide +kernel) rfl (Nat.le_of_ble_eq_true rfl) (fun r M' K hr => ?_)
  unfold f_X8_keep
  have xB34 : ∀ (v0 : Nat) (v1 : Int32) (v2 : Int32) (M : sMem), sX G l 1 yX8_keep cX8_keep 3 none M0 r M' 34 [some (.ref v0), some (.int v1), some (.int v2)] [] M (f_X8_keep_B34 v0 v1 v2 M) K := by
    intro v0 v1 v2 M
    unfold f_X8_keep_B34
    refine sX_aload_n (i := 0) (by decide +kernel) rfl ?_
    refine sX_getR lf_X8_24 tk_8_6 (by decide +kernel) (fun x1 => ?_)
    refine sX_aload_n (i := 0) (by decide +kernel) rfl ?_
    refine sX_getI lf_X8_34 tk_8_7 (by decide +kernel) (fun x2 => ?_)
    refine sX_iconst (n := 3) (v := (3 : Int32)) (by decide +kernel) (by decide) ?_
    refine sX_imul (by decide +kernel) ?_
    refine sX_aload_n (i := 0) (by decide +kernel) rfl ?_
    refine sX_getI lf_X8_27 tk_8_0 (by decide +kernel) (fun x3 => ?_)
    refine sX_iastore (by decide +kernel) (by decide) (fun M4 => ?_)
    refine sX_aload_n (i := 0) (by decide +kernel) rfl ?_
    refine sX_getR lf_X8_24 tk_8_6 (by decide +kernel) (fun x5 => ?_)
    refine sX_aload_n (i := 0) (by decide +kernel) rfl ?_
    refine sX_getI lf_X8_34 tk_8_7 (by decide +kernel) (fun x6 => ?_)
    refine sX_iconst (n := 3) (v := (3 : Int32)) (by decide +kernel) (by decide) ?_
    refine sX_imul (by decide +kernel) ?_
    refine sX_iconst (n := 1) (v := (1 : Int32)) (by decide +kernel) (by decide) ?_
    refine sX_iadd (by decide +kernel) ?_
    refine sX_iload_n (i := 1) (by decide +kernel) rfl ?_
    refine sX_iastore (by decide +kernel) (by decide) (fun M7 => ?_)
    refine sX_aload_n (i := 0) (by decide +kernel) rfl ?_
    refine sX_getR lf_X8_24 tk_8_6 (by decide +kernel) (fun x8 => ?_)
    refine sX_aload_n (i := 0) (by decide +kernel) rfl ?_
    refine sX_getI lf_X8_34 tk_8_7 (by decide +kernel) (fun x9 => ?_)
    refine sX_iconst (n := 3) (v := (3 : Int32)) (by decide +kernel) (by decide) ?_
    refine sX_imul (by decide +kernel) ?_
    refine sX_iconst (n := 2) (v := (2 : Int32)) (by decide +kernel) (by decide) ?_
    refine sX_iadd (by decide +kernel) ?_
    refine sX_iload_n (i := 2) (by decide +kernel) rfl ?_
    refine sX_iastore (by decide +kernel) (by decide) (fun M10 => ?_)
    refine sX_aload_n (i := 0) (by decide +kernel) rfl ?_
    refine sX_dup (by decide +kernel) rfl ?_
    refine sX_getI lf_X8_34 tk_8_7 (by decide +kernel) (fun x11 => ?_)
    refine sX_iconst (n := 1) (v := (1 : Int32)) (by decide +kernel) (by decide) ?_
    refine sX_iadd (by decide +kernel) ?_
    refine sX_putI lf_X8_34 tp_8_7 (by decide +kernel) (by decide) (fun M12 => ?_)
    exact sX_some (fun h _ => sW_vret (by decide +kernel) rfl (hr _ h).1.symm (hr _ h).2.symm)
  refine sX_rc ?_
  refine sX_aload_n (i := 0) (by decide +kernel) rfl ?_
  refine sX_getI lf_X8_34 tk_8_7 (by decide +kernel) (fun x13 => ?_)
  refine sX_bipush (n := 40) (v := (40 : Int32)) (by decide +kernel) (by decide) ?_
  refine sX_icne (o := 28) (t := 34) (by decide +kernel) (by decide) (fun _ => ?_) (fun _ => ?_)
  · refine sX_aload_n (i := 0) (by decide +kernel) rfl ?_
    refine sX_getR lf_X8_24 tk_8_6 (by decide +kernel) (fun x14 => ?_)
    refine sX_iconst (n := 3) (v := (3 : Int32)) (by decide +kernel) (by decide) ?_
    refine sX_aload_n (i := 0) (by decide +kernel) rfl ?_
    refine sX_getR lf_X8_24 tk_8_6 (by decide +kernel) (fun x15 => ?_)
    refine sX_iconst (n := 0) (v := (0 : Int32)) (by decide +kernel) (by decide) ?_
    refine sX_bipush (n := 117) (v := (117 : Int32)) (by decide +kernel) (by decide) ?_
    refine sX_copy (by decide +kernel) la_X8_55 ac_ok (by decide) (Nat.le_of_ble_eq_true rfl) (fun M16 => ?_)
    refine sX_aload_n (i := 0) (by decide +kernel) rfl ?_
    refine sX_dup (by decide +kernel) rfl ?_
    refine sX_getI lf_X8_34 tk_8_7 (by decide +kernel) (fun x17 => ?_)
    refine sX_iconst (n := 1) (v := (1 : Int32)) (by decide +kernel) (by decide) ?_
    refine sX_isub (by decide +kernel) ?_
    refine sX_putI lf_X8_34 tp_8_7 (by decide +kernel) (by decide) (fun M18 => ?_)
    exact sX.le (xB34 v0 v1 v2 M18) (sLe_s (sLe_s (sLe_s sLe_e)))
  · exact sX.le (xB34 v0 v1 v2 M0) (sLe_s (sLe_s (sLe_s sLe_e)))
def f_X0_delayEras_B116 (v0 : Nat) (v1 : Nat) (v3 : Int32) (M : sMem) : Option ((Int32 × sMem) ⊕ ((sMem))) :=
  some (.inl ((((v3 + (1 : Int32))), M)))
def f_X0_delayEras_K13 (v0 : Nat) (v1 : Nat) (v3 : Int32) (M : sMem) : Option ((Int32 × sMem) ⊕ ((sMem))) :=
  (gR 0 7 3 M v0).bind fun x1 =>
  (gR 1 10 4 M x1).bind fun x2 =>
  (gI 9 4 3 M x2).bind fun x3 =>
  if x3 ≤ v3 then
    some (.inr M)
  else
    (gR 0 7 0 M v0).bind fun x4 =>
    (gR 2 5 0 M x4).bind fun x5 =>
    (gR 8 8 2 M v1).bind fun x6 =>
    (ldI 14 M x6 v3).bind fun x7 =>
    (stI M x5 ((15 : Int32)) x7).bind fun M8 =>
    (gR 0 7 0 M8 v0).bind fun x9 =>
    (gR 2 5 0 M8 x9).bind fun x10 =>
    (gR 0 7 3 M8 v0).bind fun x11 =>
    (gR 1 10 4 M8 x11).bind fun x12 =>
    (f_X9_cell x12 v3 ((0 : Int32)) M8).bind fun x13 =>
    (stI M8 x10 ((10 : Int32)) x13).bind fun M14 =>
    (gR 0 7 0 M14 v0).bind fun x15 =>
    (gR 2 5 0 M14 x15).bind fun x16 =>
    (gR 0 7 3 M14 v0).bind fun x17 =>
    (gR 1 10 4 M14 x17).bind fun x18 =>
    (f_X9_cell x18 v3 ((1 : Int32)) M14).bind fun x19 =>
    (stI M14 x16 ((11 : Int32)) x19).bind fun M20 =>
    (gR 8 8 2 M20 v1).bind fun x21 =>
    (gR 0 7 0 M20 v0).bind fun x22 =>
    (gR 0 7 3 M20 v0).bind fun x23 =>
    (gR 1 10 7 M20 x23).bind fun x24 =>
    (f_X2_run x22 x24 M20).bind fun (x25, M26) =>
    (f_J9_min_7cf53 ((99 : Int32)) x25 M26).bind fun x27 =>
    (f_J9_max_7cf53 ((0 : Int32)) x27 M26).bind fun x28 =>
    (stI M26 x21 v3 x28).bind fun M29 =>
    f_X0_delayEras_B116 v0 v1 v3 M29
def f_X0_delayEras_L13 (v0 : Nat) (v1 : Nat) (v3 : Int32) (M : sMem) : Option sMem :=
  (sItr (fun a : (Int32 × sMem) => f_X0_delayEras_K13 v0 v1 a.1 a.2) sFuel (v3, M)).bind (fun b => some b)
def f_X0_delayEras (v0 : Nat) (v1 : Nat) (v2 : Int32) (M0 : sMem) : Option sMem :=
  sRc 0 7 M0 v0 (
    (gR 0 7 0 M0 v0).bind fun x30 =>
    (gR 2 5 0 M0 x30).bind fun x31 =>
    (stI M0 x31 ((22 : Int32)) v2).bind fun M32 =>
    f_X0_delayEras_L13 v0 v1 ((0 : Int32)) M32)
set_option maxRecDepth 100000 in
set_option maxHeartbeats 4000000 in
theorem m_X0_delayEras (G : sG) (l : Launch) (v0 : Nat) (v1 : Nat) (v2 : Int32) (M0 : sMem) : sCv G l 4 yX0_delayEras cX0_delayEras 4 none [.ref v0, .ref v1, .int v2] M0 (f_X0_delayEras v0 v1 v2 M0) := by
  refine sC_v (ls := [some (.ref v0), some (.ref v1), some (.int v2), none]) (by decide +kernel) rfl (Nat.le_of_ble_eq_true rfl) (fun r M' K hr => ?_)
  unfold f_X0_delayEras
  have xL13 : ∀ (v0 : Nat) (v1 : Nat) (v3 : Int32) (M : sMem), sX G l 4 yX0_delayEras cX0_delayEras 4 none M0 r M' 13 [some (.ref v0), some (.ref v1), none, some (.int v3)] [] M (f_X0_delayEras_L13 v0 v1 v3 M) K := by
    intro v0 v1 v3 M
    unfold f_X0_delayEras_L13
    refine sX_bind ?_
    refine sX_loop (LS := fun a : (Int32 × sMem) => [some (.ref v0), some (.ref v1), none, some (.int a.1)]) (MM := fun a => a.2) (fun K1 hb1 he1 => ?_) sFuel ((v3, M))
    have xB116 : ∀ (v3 : Int32) (M : sMem), sX G l 4 yX0_delayEras cX0_delayEras 4 none M0 r M' 116 [some (.ref v0), some (.ref v1), none, some (.int v3)] [] M (f_X0_delayEras_B116 v0 v1 v3 M) K1 := by
      intro v3 M
      unfold f_X0_delayEras_B116
      refine sX_iinc (i := 3) (n := 1) (v := v3 + (1 : Int32)) (ls2 := [some (.ref v0), some (.ref v1), none, some (.int (v3 + (1 : Int32)))]) (by decide +kernel) rfl rfl (by decide) rfl ?_
      refine sX_goto (o := -106) (t := 13) (by decide +kernel) (by decide) ?_
      exact sX_back (a := (((v3 + (1 : Int32))), M)) hb1 rfl (sLe_s (sLe_s (sLe_n (sLe_s sLe_e))))
    have xK13 : ∀ (v3 : Int32) (M : sMem), sX G l 4 yX0_delayEras cX0_delayEras 4 none M0 r M' 13 [some (.ref v0), some (.ref v1), none, some (.int v3)] [] M (f_X0_delayEras_K13 v0 v1 v3 M) K1 := by
      intro v3 M
      unfold f_X0_delayEras_K13
      refine sX_iload_n (i := 3) (by decide +kernel) rfl ?_
      refine sX_aload_n (i := 0) (by decide +kernel) rfl ?_
      refine sX_getR lf_X0_29 tk_0_3 (by decide +kernel) (fun x1 => ?_)
      refine sX_getR lf_X0_143 tk_1_4 (by decide +kernel) (fun x2 => ?_)
      refine sX_getI lf_X0_91 tk_9_3 (by decide +kernel) (fun x3 => ?_)
      refine sX_icge (o := 98) (t := 122) (by decide +kernel) (by decide) (fun _ => ?_) (fun _ => ?_)
      · refine sX_exit he1 ?_
        exact sX_some (fun h _ => sW_vret (by decide +kernel) rfl (hr _ h).1.symm (hr _ h).2.symm)
      · refine sX_aload_n (i := 0) (by decide +kernel) rfl ?_
        refine sX_getR lf_X0_12 tk_0_0 (by decide +kernel) (fun x4 => ?_)
        refine sX_getR lf_X0_103 tk_2_0 (by decide +kernel) (fun x5 => ?_)
        refine sX_bipush (n := 15) (v := (15 : Int32)) (by decide +kernel) (by decide) ?_
        refine sX_aload_n (i := 1) (by decide +kernel) rfl ?_
        refine sX_getR lf_X0_146 tk_8_2 (by decide +kernel) (fun x6 => ?_)
        refine sX_iload_n (i := 3) (by decide +kernel) rfl ?_
        refine sX_iaload (by decide +kernel) (fun x7 => ?_)
        refine sX_iastore (by decide +kernel) (by decide) (fun M8 => ?_)
        refine sX_aload_n (i := 0) (by decide +kernel) rfl ?_
        refine sX_getR lf_X0_12 tk_0_0 (by decide +kernel) (fun x9 => ?_)
        refine sX_getR lf_X0_103 tk_2_0 (by decide +kernel) (fun x10 => ?_)
        refine sX_bipush (n := 10) (v := (10 : Int32)) (by decide +kernel) (by decide) ?_
        refine sX_aload_n (i := 0) (by decide +kernel) rfl ?_
        refine sX_getR lf_X0_29 tk_0_3 (by decide +kernel) (fun x11 => ?_)
        refine sX_getR lf_X0_143 tk_1_4 (by decide +kernel) (fun x12 => ?_)
        refine sX_iload_n (i := 3) (by decide +kernel) rfl ?_
        refine sX_iconst (n := 0) (v := (0 : Int32)) (by decide +kernel) (by decide) ?_
        refine sX_callVp (As := [.int v3, .int (0 : Int32)]) (by decide +kernel) lm_X0_77 mf_X9_cell mi_X9_cell mc_9 (m_X9_cell G l x12 v3 ((0 : Int32)) M8) (fun _ h => sRc_some h) (by decide) rfl rfl (Nat.le_of_ble_eq_true rfl) (fun x13 => ?_)
        refine sX_iastore (by decide +kernel) (by decide) (fun M14 => ?_)
        refine sX_aload_n (i := 0) (by decide +kernel) rfl ?_
        refine sX_getR lf_X0_12 tk_0_0 (by decide +kernel) (fun x15 => ?_)
        refine sX_getR lf_X0_103 tk_2_0 (by decide +kernel) (fun x16 => ?_)
        refine sX_bipush (n := 11) (v := (11 : Int32)) (by decide +kernel) (by decide) ?_
        refine sX_aload_n (i := 0) (by decide +kernel) rfl ?_
        refine sX_getR lf_X0_29 tk_0_3 (by decide +kernel) (fun x17 => ?_)
        refine sX_getR lf_X0_143 tk_1_4 (by decide +kernel) (fun x18 => ?_)
        refine sX_iload_n (i := 3) (by decide +kernel) rfl ?_
        refine sX_iconst (n := 1) (v := (1 : Int32)) (by decide +kernel) (by decide) ?_
        refine sX_callVp (As := [.int v3, .int (1 : Int32)]) (by decide +kernel) lm_X0_77 mf_X9_cell mi_X9_cell mc_9 (m_X9_cell G l x18 v3 ((1 : Int32)) M14) (fun _ h => sRc_some h) (by decide) rfl rfl (Nat.le_of_ble_eq_true rfl) (fun x19 => ?_)
        refine sX_iastore (by decide +kernel) (by decide) (fun M20 => ?_)
        refine sX_aload_n (i := 1) (by decide +kernel) rfl ?_
        refine sX_getR lf_X0_146 tk_8_2 (by decide +kernel) (fun x21 => ?_)
        refine sX_iload_n (i := 3) (by decide +kernel) rfl ?_
        refine sX_iconst (n := 0) (v := (0 : Int32)) (by decide +kernel) (by decide) ?_
        refine sX_bipush (n := 99) (v := (99 : Int32)) (by decide +kernel) (by decide) ?_
        refine sX_aload_n (i := 0) (by decide +kernel) rfl ?_
        refine sX_getR lf_X0_12 tk_0_0 (by decide +kernel) (fun x22 => ?_)
        refine sX_aload_n (i := 0) (by decide +kernel) rfl ?_
        refine sX_getR lf_X0_29 tk_0_3 (by decide +kernel) (fun x23 => ?_)
        refine sX_getR lf_X0_149 tk_1_7 (by decide +kernel) (fun x24 => ?_)
        refine sX_callV (As := [.ref x24]) (by decide +kernel) lm_X0_132 mf_X2_run mi_X2_run mc_2 (m_X2_run G l x22 x24 M20) (fun _ h => sRc_some h) (by decide) rfl rfl (Nat.le_of_ble_eq_true rfl) (fun x25 M26 _ => ?_)
        refine sX_callSp (As := [.int (99 : Int32), .int x25]) (by decide +kernel) lm_X0_140 mf_J9_min_7cf53 ms_J9_min_7cf53 (m_J9_min_7cf53 G l ((99 : Int32)) x25 M26) (by decide) rfl rfl (Nat.le_of_ble_eq_true rfl) (fun x27 => ?_)
        refine sX_callSp (As := [.int (0 : Int32), .int x27]) (by decide +kernel) lm_X0_98 mf_J9_max_7cf53 ms_J9_max_7cf53 (m_J9_max_7cf53 G l ((0 : Int32)) x27 M26) (by decide) rfl rfl (Nat.le_of_ble_eq_true rfl) (fun x28 => ?_)
        refine sX_iastore (by decide +kernel) (by decide) (fun M29 => ?_)
        exact sX.le (xB116 v3 M29) (sLe_s (sLe_s (sLe_n (sLe_s sLe_e))))
    exact fun a => xK13 a.1 a.2
  refine sX_rc ?_
  refine sX_aload_n (i := 0) (by decide +kernel) rfl ?_
  refine sX_getR lf_X0_12 tk_0_0 (by decide +kernel) (fun x30 => ?_)
  refine sX_getR lf_X0_103 tk_2_0 (by decide +kernel) (fun x31 => ?_)
  refine sX_bipush (n := 22) (v := (22 : Int32)) (by decide +kernel) (by decide) ?_
  refine sX_iload_n (i := 2) (by decide +kernel) rfl ?_
  refine sX_iastore (by decide +kernel) (by decide) (fun M32 => ?_)
  refine sX_iconst (n := 0) (v := (0 : Int32)) (by decide +kernel) (by decide) ?_
  refine sX_istore_n (i := 3) (ls2 := [some (.ref v0), some (.ref v1), some (.int v2), some (.int (0 : Int32))]) (by decide +kernel) (by decide) rfl ?_
  exact sX.le (xL13 v0 v1 ((0 : Int32)) M32) (sLe_s (sLe_s (sLe_n (sLe_s sLe_e))))
def f_X0_pass_B152 (v0 : Nat) (v1 : Nat) (v2 : Int32) (v3 : Int32) (M : sMem) : Option (Int32 × sMem) :=
  (f_X8_keep v1 v2 v3 M).bind fun M1 =>
  (f_X0_delayEras v0 v1 v2 M1).bind fun M2 =>
  (gI 8 8 0 M2 v1).bind fun x3 =>
  (pI 8 8 0 M2 v1 ((x3 + (1 : Int32)))).bind fun M4 =>
  some ((v2, M4))
def f_X0_pass_B146 (v0 : Nat) (v1 : Nat) (v2 : Int32) (v3 : Int32) (v4 : Int32) (M : sMem) : Option ((Int32 × sMem) ⊕ ((sMem))) :=
  some (.inl ((((v4 + (1 : Int32))), M)))
def f_X0_pass_K113 (v0 : Nat) (v1 : Nat) (v2 : Int32) (v3 : Int32) (v4 : Int32) (M : sMem) : Option ((Int32 × sMem) ⊕ ((sMem))) :=
  (gR 0 7 3 M v0).bind fun x5 =>
  (gR 1 10 5 M x5).bind fun x6 =>
  (gI 9 4 3 M x6).bind fun x7 =>
  if x7 ≤ v4 then
    some (.inr M)
  else
    (gR 0 7 6 M v0).bind fun x8 =>
    (ldI 14 M x8 v4).bind fun x9 =>
    if x9 = (-1 : Int32) then
      f_X0_pass_B146 v0 v1 v2 v3 v4 M
    else
      (f_X0_bringCar v0 v1 v4 M).bind fun M10 =>
      f_X0_pass_B146 v0 v1 v2 v3 v4 M10
def f_X0_pass_L113 (v0 : Nat) (v1 : Nat) (v2 : Int32) (v3 : Int32) (v4 : Int32) (M : sMem) : Option (Int32 × sMem) :=
  (sItr (fun a : (Int32 × sMem) => f_X0_pass_K113 v0 v1 v2 v3 a.1 a.2) sFuel (v4, M)).bind (fun b => f_X0_pass_B152 v0 v1 v2 v3 b)
def f_X0_pass_B96 (v0 : Nat) (v1 : Nat) (v2 : Int32) (v3 : Int32) (M : sMem) : Option (Int32 × sMem) :=
  (gR 0 7 0 M v0).bind fun x11 =>
  (gR 2 5 0 M x11).bind fun x12 =>
  (gI 8 8 0 M v1).bind fun x13 =>
  (stI M x12 ((21 : Int32)) x13).bind fun M14 =>
  f_X0_pass_L113 v0 v1 v2 v3 ((0 : Int32)) M14
def f_X0_pass_B88 (v0 : Nat) (v1 : Nat) (v2 : Int32) (v4 : Int32) (s0 : Int32) (s1 : Int32) (M : sMem) : Option ((Int32 × Int32 × Int32 × sMem) ⊕ ((Int32 × Int32 × sMem))) :=
  some (.inl ((v2, ((s0 + s1)), ((v4 + (1 : Int32))), M)))
def f_X0_pass_K24 (v0 : Nat) (v1 : Nat) (v2 : Int32) (v3 : Int32) (v4 : Int32) (M : sMem) : Option ((Int32 × Int32 × Int32 × sMem) ⊕ ((Int32 × Int32 × sMem))) :=
  (gR 0 7 3 M v0).bind fun x15 =>
  (gR 1 10 5 M x15).bind fun x16 =>
  (gI 9 4 3 M x16).bind fun x17 =>
  if x17 ≤ v4 then
    some (.inr ((v2, v3, M)))
  else
    (gR 0 7 6 M v0).bind fun x18 =>
    (gR 0 7 4 M v0).bind fun x19 =>
    (f_X0_waitOf v0 v1 v4 x19 M).bind fun (x20, M21) =>
    (stI M21 x18 v4 x20).bind fun M22 =>
    (gR 0 7 6 M22 v0).bind fun x23 =>
    (ldI 14 M22 x23 v4).bind fun x24 =>
    (f_J9_max_7cf53 ((0 : Int32)) x24 M22).bind fun x25 =>
    (gR 0 7 6 M22 v0).bind fun x26 =>
    (ldI 14 M22 x26 v4).bind fun x27 =>
    if x27 = (-1 : Int32) then
      f_X0_pass_B88 v0 v1 ((v2 + x25)) v4 v3 ((1 : Int32)) M22
    else
      f_X0_pass_B88 v0 v1 ((v2 + x25)) v4 v3 ((0 : Int32)) M22
def f_X0_pass_L24 (v0 : Nat) (v1 : Nat) (v2 : Int32) (v3 : Int32) (v4 : Int32) (M : sMem) : Option (Int32 × sMem) :=
  (sItr (fun a : (Int32 × Int32 × Int32 × sMem) => f_X0_pass_K24 v0 v1 a.1 a.2.1 a.2.2.1 a.2.2.2) sFuel (v2, v3, v4, M)).bind (fun b => f_X0_pass_B96 v0 v1 b.1 b.2.1 b.2.2)
def f_X0_pass (v0 : Nat) (v1 : Nat) (M0 : sMem) : Option (Int32 × sMem) :=
  sRc 0 7 M0 v0 (
    (gR 0 7 1 M0 v0).bind fun x28 =>
    (gI 8 8 1 M0 v1).bind fun x29 =>
    (gR 0 7 4 M0 v0).bind fun x30 =>
    (f_X4_close x28 v1 x29 ((-1 : Int32)) x30 M0).bind fun M31 =>
    f_X0_pass_L24 v0 v1 ((0 : Int32)) ((0 : Int32)) ((0 : Int32)) M31)
set_option maxRecDepth 100000 in
set_option maxHeartbeats 4000000 in
theorem m_X0_pass (G : sG) (l : Launch) (v0 : Nat) (v1 : Nat) (M0 : sMem) : sC G l 6 yX0_pass cX0_pass 5 (some .int) [.ref v0, .ref v1] M0 rvI (f_X0_pass v0 v1 M0) := by
  refine sC_m (ls := [some (.ref v0), some (.ref v1), none, none, none]) (by decide +kernel) rfl (Nat.le_of_ble_eq_true rfl) (fun r M' K hr => ?_)
  unfold f_X0_pass
  have xB152 : ∀ (v0 : Nat) (v1 : Nat) (v2 : Int32) (v3 : Int32) (M : sMem), sX G l 6 yX0_pass cX0_pass 5 (some .int) M0 r M' 152 [some (.ref v0), some (.ref v1), some (.int v2), some (.int v3), none] [] M (f_X0_pass_B152 v0 v1 v2 v3 M) K := by
    intro v0 v1 v2 v3 M
    unfold f_X0_pass_B152
    refine sX_aload_n (i := 1) (by decide +kernel) rfl ?_
    refine sX_iload_n (i := 2) (by decide +kernel) rfl ?_
    refine sX_iload_n (i := 3) (by decide +kernel) rfl ?_
    refine sX_callVv (As := [.int v2, .int v3]) (by decide +kernel) lm_X0_113 mf_X8_keep mi_X8_keep mc_8 (m_X8_keep G l v1 v2 v3 M) (fun _ h => sRc_some h) (by decide) rfl rfl (Nat.le_of_ble_eq_true rfl) (fun M1 => ?_)
    refine sX_aload_n (i := 0) (by decide +kernel) rfl ?_
    refine sX_aload_n (i := 1) (by decide +kernel) rfl ?_
    refine sX_iload_n (i := 2) (by decide +kernel) rfl ?_
    refine sX_callVv (As := [.ref v1, .int v2]) (by decide +kernel) lm_X0_117 mf_X0_delayEras mi_X0_delayEras mc_0 (m_X0_delayEras G l v0 v1 v2 M1) (fun _ h => sRc_some h) (by decide) rfl rfl (Nat.le_of_ble_eq_true rfl) (fun M2 => ?_)
    refine sX_aload_n (i := 1) (by decide +kernel) rfl ?_
    refine sX_dup (by decide +kernel) rfl ?_
    refine sX_getI lf_X0_106 tk_8_0 (by decide +kernel) (fun x3 => ?_)
    refine sX_iconst (n := 1) (v := (1 : Int32)) (by decide +kernel) (by decide) ?_
    refine sX_iadd (by decide +kernel) ?_
    refine sX_putI lf_X0_106 tp_8_0 (by decide +kernel) (by decide) (fun M4 => ?_)
    refine sX_iload_n (i := 2) (by decide +kernel) rfl ?_
    exact sX_some (fun h _ => sW_iret (by decide +kernel) rfl (hr _ h).1.symm (hr _ h).2.symm)
  have xL113 : ∀ (v0 : Nat) (v1 : Nat) (v2 : Int32) (v3 : Int32) (v4 : Int32) (M : sMem), sX G l 6 yX0_pass cX0_pass 5 (some .int) M0 r M' 113 [some (.ref v0), some (.ref v1), some (.int v2), some (.int v3), some (.int v4)] [] M (f_X0_pass_L113 v0 v1 v2 v3 v4 M) K := by
    intro v0 v1 v2 v3 v4 M
    unfold f_X0_pass_L113
    refine sX_bind ?_
    refine sX_loop (LS := fun a : (Int32 × sMem) => [some (.ref v0), some (.ref v1), some (.int v2), some (.int v3), some (.int a.1)]) (MM := fun a => a.2) (fun K1 hb1 he1 => ?_) sFuel ((v4, M))
    have xB146 : ∀ (v4 : Int32) (M : sMem), sX G l 6 yX0_pass cX0_pass 5 (some .int) M0 r M' 146 [some (.ref v0), some (.ref v1), some (.int v2), some (.int v3), some (.int v4)] [] M (f_X0_pass_B146 v0 v1 v2 v3 v4 M) K1 := by
      intro v4 M
      unfold f_X0_pass_B146
      refine sX_iinc (i := 4) (n := 1) (v := v4 + (1 : Int32)) (ls2 := [some (.ref v0), some (.ref v1), some (.int v2), some (.int v3), some (.int (v4 + (1 : Int32)))]) (by decide +kernel) rfl rfl (by decide) rfl ?_
      refine sX_goto (o := -36) (t := 113) (by decide +kernel) (by decide) ?_
      exact sX_back (a := (((v4 + (1 : Int32))), M)) hb1 rfl (sLe_s (sLe_s (sLe_s (sLe_s (sLe_s sLe_e)))))
    have xK113 : ∀ (v4 : Int32) (M : sMem), sX G l 6 yX0_pass cX0_pass 5 (some .int) M0 r M' 113 [some (.ref v0), some (.ref v1), some (.int v2), some (.int v3), some (.int v4)] [] M (f_X0_pass_K113 v0 v1 v2 v3 v4 M) K1 := by
      intro v4 M
      unfold f_X0_pass_K113
      refine sX_iload (i := 4) (by decide +kernel) rfl ?_
      refine sX_aload_n (i := 0) (by decide +kernel) rfl ?_
      refine sX_getR lf_X0_29 tk_0_3 (by decide +kernel) (fun x5 => ?_)
      refine sX_getR lf_X0_71 tk_1_5 (by decide +kernel) (fun x6 => ?_)
      refine sX_getI lf_X0_91 tk_9_3 (by decide +kernel) (fun x7 => ?_)
      refine sX_icge (o := 27) (t := 152) (by decide +kernel) (by decide) (fun _ => ?_) (fun _ => ?_)
      · refine sX_exit he1 ?_
        exact sX.le (xB152 v0 v1 v2 v3 M) (sLe_s (sLe_s (sLe_s (sLe_s (sLe_n sLe_e)))))
      · refine sX_aload_n (i := 0) (by decide +kernel) rfl ?_
        refine sX_getR lf_X0_25 tk_0_6 (by decide +kernel) (fun x8 => ?_)
        refine sX_iload (i := 4) (by decide +kernel) rfl ?_
        refine sX_iaload (by decide +kernel) (fun x9 => ?_)
        refine sX_iconst (n := -1) (v := (-1 : Int32)) (by decide +kernel) (by decide) ?_
        refine sX_iceq (o := 10) (t := 146) (by decide +kernel) (by decide) (fun _ => ?_) (fun _ => ?_)
        · exact sX.le (xB146 v4 M) (sLe_s (sLe_s (sLe_s (sLe_s (sLe_s sLe_e)))))
        · refine sX_aload_n (i := 0) (by decide +kernel) rfl ?_
          refine sX_aload_n (i := 1) (by decide +kernel) rfl ?_
          refine sX_iload (i := 4) (by decide +kernel) rfl ?_
          refine sX_callVv (As := [.ref v1, .int v4]) (by decide +kernel) lm_X0_109 mf_X0_bringCar mi_X0_bringCar mc_0 (m_X0_bringCar G l v0 v1 v4 M) (fun _ h => sRc_some h) (by decide) rfl rfl (Nat.le_of_ble_eq_true rfl) (fun M10 => ?_)
          exact sX.le (xB146 v4 M10) (sLe_s (sLe_s (sLe_s (sLe_s (sLe_s sLe_e)))))
    exact fun a => xK113 a.1 a.2
  have xB96 : ∀ (v0 : Nat) (v1 : Nat) (v2 : Int32) (v3 : Int32) (M : sMem), sX G l 6 yX0_pass cX0_pass 5 (some .int) M0 r M' 96 [some (.ref v0), some (.ref v1), some (.int v2), some (.int v3), none] [] M (f_X0_pass_B96 v0 v1 v2 v3 M) K := by
    intro v0 v1 v2 v3 M
    unfold f_X0_pass_B96
    refine sX_aload_n (i := 0) (by decide +kernel) rfl ?_
    refine sX_getR lf_X0_12 tk_0_0 (by decide +kernel) (fun x11 => ?_)
    refine sX_getR lf_X0_103 tk_2_0 (by decide +kernel) (fun x12 => ?_)
    refine sX_bipush (n := 21) (v := (21 : Int32)) (by decide +kernel) (by decide) ?_
    refine sX_aload_n (i := 1) (by decide +kernel) rfl ?_
    refine sX_getI lf_X0_106 tk_8_0 (by decide +kernel) (fun x13 => ?_)
    refine sX_iastore (by decide +kernel) (by decide) (fun M14 => ?_)
    refine sX_iconst (n := 0) (v := (0 : Int32)) (by decide +kernel) (by decide) ?_
    refine sX_istore (i := 4) (ls2 := [some (.ref v0), some (.ref v1), some (.int v2), some (.int v3), some (.int (0 : Int32))]) (by decide +kernel) (by decide) rfl ?_
    exact sX.le (xL113 v0 v1 v2 v3 ((0 : Int32)) M14) (sLe_s (sLe_s (sLe_s (sLe_s (sLe_s sLe_e)))))
  have xL24 : ∀ (v0 : Nat) (v1 : Nat) (v2 : Int32) (v3 : Int32) (v4 : Int32) (M : sMem), sX G l 6 yX0_pass cX0_pass 5 (some .int) M0 r M' 24 [some (.ref v0), some (.ref v1), some (.int v2), some (.int v3), some (.int v4)] [] M (f_X0_pass_L24 v0 v1 v2 v3 v4 M) K := by
    intro v0 v1 v2 v3 v4 M
    unfold f_X0_pass_L24
    refine sX_bind ?_
    refine sX_loop (LS := fun a : (Int32 × Int32 × Int32 × sMem) => [some (.ref v0), some (.ref v1), some (.int a.1), some (.int a.2.1), some (.int a.2.2.1)]) (MM := fun a => a.2.2.2) (fun K1 hb1 he1 => ?_) sFuel ((v2, v3, v4, M))
    have xB88 : ∀ (v2 : Int32) (v4 : Int32) (s0 : Int32) (s1 : Int32) (M : sMem), sX G l 6 yX0_pass cX0_pass 5 (some .int) M0 r M' 88 [some (.ref v0), some (.ref v1), some (.int v2), none, some (.int v4)] [.int s1, .int s0] M (f_X0_pass_B88 v0 v1 v2 v4 s0 s1 M) K1 := by
      intro v2 v4 s0 s1 M
      unfold f_X0_pass_B88
      refine sX_iadd (by decide +kernel) ?_
      refine sX_istore_n (i := 3) (ls2 := [some (.ref v0), some (.ref v1), some (.int v2), some (.int (s0 + s1)), some (.int v4)]) (by decide +kernel) (by decide) rfl ?_
      refine sX_iinc (i := 4) (n := 1) (v := v4 + (1 : Int32)) (ls2 := [some (.ref v0), some (.ref v1), some (.int v2), some (.int (s0 + s1)), some (.int (v4 + (1 : Int32)))]) (by decide +kernel) rfl rfl (by decide) rfl ?_
      refine sX_goto (o := -69) (t := 24) (by decide +kernel) (by decide) ?_
      exact sX_back (a := (v2, ((s0 + s1)), ((v4 + (1 : Int32))), M)) hb1 rfl (sLe_s (sLe_s (sLe_s (sLe_s (sLe_s sLe_e)))))
    have xK24 : ∀ (v2 : Int32) (v3 : Int32) (v4 : Int32) (M : sMem), sX G l 6 yX0_pass cX0_pass 5 (some .int) M0 r M' 24 [some (.ref v0), some (.ref v1), some (.int v2), some (.int v3), some (.int v4)] [] M (f_X0_pass_K24 v0 v1 v2 v3 v4 M) K1 := by
      intro v2 v3 v4 M
      unfold f_X0_pass_K24
      refine sX_iload (i := 4) (by decide +kernel) rfl ?_
      refine sX_aload_n (i := 0) (by decide +kernel) rfl ?_
      refine sX_getR lf_X0_29 tk_0_3 (by decide +kernel) (fun x15 => ?_)
      refine sX_getR lf_X0_71 tk_1_5 (by decide +kernel) (fun x16 => ?_)
      refine sX_getI lf_X0_91 tk_9_3 (by decide +kernel) (fun x17 => ?_)
      refine sX_icge (o := 60) (t := 96) (by decide +kernel) (by decide) (fun _ => ?_) (fun _ => ?_)
      · refine sX_exit he1 ?_
        exact sX.le (xB96 v0 v1 v2 v3 M) (sLe_s (sLe_s (sLe_s (sLe_s (sLe_n sLe_e)))))
      · refine sX_aload_n (i := 0) (by decide +kernel) rfl ?_
        refine sX_getR lf_X0_25 tk_0_6 (by decide +kernel) (fun x18 => ?_)
        refine sX_iload (i := 4) (by decide +kernel) rfl ?_
        refine sX_aload_n (i := 0) (by decide +kernel) rfl ?_
        refine sX_aload_n (i := 1) (by decide +kernel) rfl ?_
        refine sX_iload (i := 4) (by decide +kernel) rfl ?_
        refine sX_aload_n (i := 0) (by decide +kernel) rfl ?_
        refine sX_getR lf_X0_18 tk_0_4 (by decide +kernel) (fun x19 => ?_)
        refine sX_callV (As := [.ref v1, .int v4, .ref x19]) (by decide +kernel) lm_X0_94 mf_X0_waitOf mi_X0_waitOf mc_0 (m_X0_waitOf G l v0 v1 v4 x19 M) (fun _ h => sRc_some h) (by decide) rfl rfl (Nat.le_of_ble_eq_true rfl) (fun x20 M21 _ => ?_)
        refine sX_iastore (by decide +kernel) (by decide) (fun M22 => ?_)
        refine sX_iload_n (i := 2) (by decide +kernel) rfl ?_
        refine sX_iconst (n := 0) (v := (0 : Int32)) (by decide +kernel) (by decide) ?_
        refine sX_aload_n (i := 0) (by decide +kernel) rfl ?_
        refine sX_getR lf_X0_25 tk_0_6 (by decide +kernel) (fun x23 => ?_)
        refine sX_iload (i := 4) (by decide +kernel) rfl ?_
        refine sX_iaload (by decide +kernel) (fun x24 => ?_)
        refine sX_callSp (As := [.int (0 : Int32), .int x24]) (by decide +kernel) lm_X0_98 mf_J9_max_7cf53 ms_J9_max_7cf53 (m_J9_max_7cf53 G l ((0 : Int32)) x24 M22) (by decide) rfl rfl (Nat.le_of_ble_eq_true rfl) (fun x25 => ?_)
        refine sX_iadd (by decide +kernel) ?_
        refine sX_istore_n (i := 2) (ls2 := [some (.ref v0), some (.ref v1), some (.int (v2 + x25)), some (.int v3), some (.int v4)]) (by decide +kernel) (by decide) rfl ?_
        refine sX_iload_n (i := 3) (by decide +kernel) rfl ?_
        refine sX_aload_n (i := 0) (by decide +kernel) rfl ?_
        refine sX_getR lf_X0_25 tk_0_6 (by decide +kernel) (fun x26 => ?_)
        refine sX_iload (i := 4) (by decide +kernel) rfl ?_
        refine sX_iaload (by decide +kernel) (fun x27 => ?_)
        refine sX_iconst (n := -1) (v := (-1 : Int32)) (by decide +kernel) (by decide) ?_
        refine sX_icne (o := 7) (t := 87) (by decide +kernel) (by decide) (fun _ => ?_) (fun _ => ?_)
        · refine sX_iconst (n := 1) (v := (1 : Int32)) (by decide +kernel) (by decide) ?_
          refine sX_goto (o := 4) (t := 88) (by decide +kernel) (by decide) ?_
          exact sX.le (xB88 ((v2 + x25)) v4 v3 ((1 : Int32)) M22) (sLe_s (sLe_s (sLe_s (sLe_n (sLe_s sLe_e)))))
        · refine sX_iconst (n := 0) (v := (0 : Int32)) (by decide +kernel) (by decide) ?_
          exact sX.le (xB88 ((v2 + x25)) v4 v3 ((0 : Int32)) M22) (sLe_s (sLe_s (sLe_s (sLe_n (sLe_s sLe_e)))))
    exact fun a => xK24 a.1 a.2.1 a.2.2.1 a.2.2.2
  refine sX_rc ?_
  refine sX_aload_n (i := 0) (by decide +kernel) rfl ?_
  refine sX_getR lf_X0_38 tk_0_1 (by decide +kernel) (fun x28 => ?_)
  refine sX_aload_n (i := 1) (by decide +kernel) rfl ?_
  refine sX_aload_n (i := 1) (by decide +kernel) rfl ?_
  refine sX_getI lf_X0_83 tk_8_1 (by decide +kernel) (fun x29 => ?_)
  refine sX_iconst (n := -1) (v := (-1 : Int32)) (by decide +kernel) (by decide) ?_
  refine sX_aload_n (i := 0) (by decide +kernel) rfl ?_
  refine sX_getR lf_X0_18 tk_0_4 (by decide +kernel) (fun x30 => ?_)
  refine sX_callVv (As := [.ref v1, .int x29, .int (-1 : Int32), .ref x30]) (by decide +kernel) lm_X0_87 mf_X4_close mi_X4_close mc_4 (m_X4_close G l x28 v1 x29 ((-1 : Int32)) x30 M0) (fun _ h => sRc_some h) (by decide) rfl rfl (Nat.le_of_ble_eq_true rfl) (fun M31 => ?_)
  refine sX_iconst (n := 0) (v := (0 : Int32)) (by decide +kernel) (by decide) ?_
  refine sX_istore_n (i := 2) (ls2 := [some (.ref v0), some (.ref v1), some (.int (0 : Int32)), none, none]) (by decide +kernel) (by decide) rfl ?_
  refine sX_iconst (n := 0) (v := (0 : Int32)) (by decide +kernel) (by decide) ?_
  refine sX_istore_n (i := 3) (ls2 := [some (.ref v0), some (.ref v1), some (.int (0 : Int32)), some (.int (0 : Int32)), none]) (by decide +kernel) (by decide) rfl ?_
  refine sX_iconst (n := 0) (v := (0 : Int32)) (by decide +kernel) (by decide) ?_
  refine sX_istore (i := 4) (ls2 := [some (.ref v0), some (.ref v1), some (.int (0 : Int32)), some (.int (0 : Int32)), some (.int (0 : Int32))]) (by decide +kernel) (by decide) rfl ?_
  exact sX.le (xL24 v0 v1 ((0 : Int32)) ((0 : Int32)) ((0 : Int32)) M31) (sLe_s (sLe_s (sLe_s (sLe_s (sLe_s sLe_e)))))
