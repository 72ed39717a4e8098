/-! THE LAW: its walk -/
def ldS (G : sG) (i : Int32) : Option Int32 := if ¬ i < 0 ∧ i.toNatClampNeg < G.2.2.2.2.1 then some (G.2.2.2.2.2.1 i.toNatClampNeg) else none
section R10
variable {G : sG} {l : Launch} {d : Nat} {y : MethodName} {cc : ByteArray} {mL : Nat} {ret : Option FieldType} {M0 : sMem} {r : Option Value} {M' : sMem} {pc : Nat} {ls : List (Option Value)} {st : List Value} {M : sMem} {γ : Type} {K : γ → Prop}
theorem sad_scr : sad G sSCR = G.2.2.2.1 := by unfold sad; rw [if_pos rfl]
theorem sX_sld {i : Int32} {f : Int32 → Option γ} (hd : decode cc pc = .ok (.iaload, 1)) (kk : ∀ x, sX G l d y cc mL ret M0 r M' (pc + 1) ls (.int x :: st) M (f x) K) : sX G l d y cc mL ret M0 r M' pc ls (.int i :: .ref sSCR :: st) M ((ldS G i).bind f) K := by
  unfold ldS
  split
  · rename_i hi
    refine sX_rd (fun hA hR hS w => ?_) (kk _)
    have hX := hA.2.2.2.2.2.2.2.2.1.2.2.2.2.1
    have hbl := hA.2.2.2.2.2.2.2.2.1.2.2.2.2.2.1
    rw [List.map_cons, List.map_cons, svm_ref, sad_scr]
    exact va_sld hA.1 hA.2.1 (hX.kept (hA.2.2.2.2.2.2.2.2.2.2 _ hbl)) (by rw [hA.2.2.2.2.2.2.2.2.2.1]; omega) (Nat.not_le.mpr hbl) hS (vp_of hi) hd w
  · exact sX_none
theorem sX_slen {k : Option γ} (hd : decode cc pc = .ok (.arraylength, 1)) (kk : sX G l d y cc mL ret M0 r M' (pc + 1) ls (.int (Int32.ofNat G.2.2.2.2.1) :: st) M k K) : sX G l d y cc mL ret M0 r M' pc ls (.ref sSCR :: st) M k K := by
  refine sX_rd (fun hA hR hS w => ?_) kk
  have hX := hA.2.2.2.2.2.2.2.2.1.2.2.2.2.1
  have hbl := hA.2.2.2.2.2.2.2.2.1.2.2.2.2.2.1
  rw [List.map_cons, svm_ref, sad_scr]
  exact va_slen hA.1 hA.2.1 (hX.kept (hA.2.2.2.2.2.2.2.2.2.2 _ hbl)) (by rw [hA.2.2.2.2.2.2.2.2.2.1]; omega) (Nat.not_le.mpr hbl) hS hd w
end R10
def f_L_law_B1211 (G : sG) (v1 : Nat) (v2 : Nat) (v3 : Int32) (M : sMem) : Option ((Int32 × sMem) ⊕ (((Int32 × sMem)))) :=
  some (.inl ((((v3 + (6 : Int32))), M)))
def f_L_law_B255 (G : sG) (v1 : Nat) (v2 : Nat) (v3 : Int32) (M : sMem) : Option ((Int32 × sMem) ⊕ (((Int32 × sMem)))) :=
  (ldS G ((v3 + (1 : Int32)))).bind fun x1 =>
  (f_X11_end v1 x1 M).bind fun (x2, M3) =>
  (ldS G ((v3 + (1 : Int32)))).bind fun x4 =>
  (f_X12_end v2 x4 M3).bind fun (x5, M6) =>
  if x2 = x5 then
    f_L_law_B1211 G v1 v2 v3 M6
  else
    some (.inr (((0 : Int32), M6)))
def f_L_law_B337 (G : sG) (v1 : Nat) (v2 : Nat) (v3 : Int32) (M : sMem) : Option ((Int32 × sMem) ⊕ (((Int32 × sMem)))) :=
  (ldS G ((v3 + (1 : Int32)))).bind fun x7 =>
  (ldS G ((v3 + (2 : Int32)))).bind fun x8 =>
  (ldS G ((v3 + (3 : Int32)))).bind fun x9 =>
  (f_X11_letter v1 x7 x8 x9 M).bind fun x10 =>
  (ldS G ((v3 + (1 : Int32)))).bind fun x11 =>
  (ldS G ((v3 + (2 : Int32)))).bind fun x12 =>
  (ldS G ((v3 + (3 : Int32)))).bind fun x13 =>
  (f_X12_letter v2 x11 x12 x13 M).bind fun x14 =>
  if x10 = x14 then
    f_L_law_B1211 G v1 v2 v3 M
  else
    some (.inr (((0 : Int32), M)))
def f_L_law_B413 (G : sG) (v1 : Nat) (v2 : Nat) (v3 : Int32) (M : sMem) : Option ((Int32 × sMem) ⊕ (((Int32 × sMem)))) :=
  (ldS G ((v3 + (1 : Int32)))).bind fun x15 =>
  (ldS G ((v3 + (2 : Int32)))).bind fun x16 =>
  (f_X11_era v1 x15 x16 M).bind fun x17 =>
  (ldS G ((v3 + (1 : Int32)))).bind fun x18 =>
  (ldS G ((v3 + (2 : Int32)))).bind fun x19 =>
  (f_X12_era v2 x18 x19 M).bind fun x20 =>
  if x17 = x20 then
    f_L_law_B1211 G v1 v2 v3 M
  else
    some (.inr (((0 : Int32), M)))
def f_L_law_B479 (G : sG) (v1 : Nat) (v2 : Nat) (v3 : Int32) (M : sMem) : Option ((Int32 × sMem) ⊕ (((Int32 × sMem)))) :=
  (ldS G ((v3 + (1 : Int32)))).bind fun x21 =>
  (ldS G ((v3 + (2 : Int32)))).bind fun x22 =>
  (f_X11_kept v1 x21 x22 M).bind fun x23 =>
  (ldS G ((v3 + (1 : Int32)))).bind fun x24 =>
  (ldS G ((v3 + (2 : Int32)))).bind fun x25 =>
  (f_X12_kept v2 x24 x25 M).bind fun x26 =>
  if x23 = x26 then
    f_L_law_B1211 G v1 v2 v3 M
  else
    some (.inr (((0 : Int32), M)))
def f_L_law_B545 (G : sG) (v1 : Nat) (v2 : Nat) (v3 : Int32) (M : sMem) : Option ((Int32 × sMem) ⊕ (((Int32 × sMem)))) :=
  (ldS G ((v3 + (1 : Int32)))).bind fun x27 =>
  (ldS G ((v3 + (2 : Int32)))).bind fun x28 =>
  (f_X11_closed v1 x27 x28 M).bind fun (x29, M30) =>
  (ldS G ((v3 + (1 : Int32)))).bind fun x31 =>
  (ldS G ((v3 + (2 : Int32)))).bind fun x32 =>
  (f_X12_closed v2 x31 x32 M30).bind fun (x33, M34) =>
  if x29 = x33 then
    f_L_law_B1211 G v1 v2 v3 M34
  else
    some (.inr (((0 : Int32), M34)))
def f_L_law_B611 (G : sG) (v1 : Nat) (v2 : Nat) (v3 : Int32) (M : sMem) : Option ((Int32 × sMem) ⊕ (((Int32 × sMem)))) :=
  (ldS G ((v3 + (1 : Int32)))).bind fun x35 =>
  (ldS G ((v3 + (2 : Int32)))).bind fun x36 =>
  (ldS G ((v3 + (3 : Int32)))).bind fun x37 =>
  (f_X11_drive v1 x35 x36 x37 M).bind fun (x38, M39) =>
  (ldS G ((v3 + (1 : Int32)))).bind fun x40 =>
  (ldS G ((v3 + (2 : Int32)))).bind fun x41 =>
  (ldS G ((v3 + (3 : Int32)))).bind fun x42 =>
  (f_X12_drive v2 x40 x41 x42 M39).bind fun (x43, M44) =>
  if x38 = x43 then
    f_L_law_B1211 G v1 v2 v3 M44
  else
    some (.inr (((0 : Int32), M44)))
def f_L_law_B677 (G : sG) (v1 : Nat) (v2 : Nat) (v3 : Int32) (M : sMem) : Option ((Int32 × sMem) ⊕ (((Int32 × sMem)))) :=
  (ldS G ((v3 + (1 : Int32)))).bind fun x45 =>
  (ldS G ((v3 + (2 : Int32)))).bind fun x46 =>
  (ldS G ((v3 + (3 : Int32)))).bind fun x47 =>
  (f_X11_later v1 x45 x46 x47 M).bind fun (x48, M49) =>
  (ldS G ((v3 + (1 : Int32)))).bind fun x50 =>
  (ldS G ((v3 + (2 : Int32)))).bind fun x51 =>
  (ldS G ((v3 + (3 : Int32)))).bind fun x52 =>
  (f_X12_later v2 x50 x51 x52 M49).bind fun (x53, M54) =>
  if x48 = x53 then
    f_L_law_B1211 G v1 v2 v3 M54
  else
    some (.inr (((0 : Int32), M54)))
def f_L_law_B753 (G : sG) (v1 : Nat) (v2 : Nat) (v3 : Int32) (M : sMem) : Option ((Int32 × sMem) ⊕ (((Int32 × sMem)))) :=
  (ldS G ((v3 + (1 : Int32)))).bind fun x55 =>
  (ldS G ((v3 + (2 : Int32)))).bind fun x56 =>
  (f_X11_lift v1 x55 x56 M).bind fun (x57, M58) =>
  (ldS G ((v3 + (1 : Int32)))).bind fun x59 =>
  (ldS G ((v3 + (2 : Int32)))).bind fun x60 =>
  (f_X12_lift v2 x59 x60 M58).bind fun (x61, M62) =>
  if x57 = x61 then
    f_L_law_B1211 G v1 v2 v3 M62
  else
    some (.inr (((0 : Int32), M62)))
def f_L_law_B819 (G : sG) (v1 : Nat) (v2 : Nat) (v3 : Int32) (M : sMem) : Option ((Int32 × sMem) ⊕ (((Int32 × sMem)))) :=
  (ldS G ((v3 + (1 : Int32)))).bind fun x63 =>
  (ldS G ((v3 + (2 : Int32)))).bind fun x64 =>
  (f_X11_closings v1 x63 x64 M).bind fun (x65, M66) =>
  (ldS G ((v3 + (1 : Int32)))).bind fun x67 =>
  (ldS G ((v3 + (2 : Int32)))).bind fun x68 =>
  (f_X12_closings v2 x67 x68 M66).bind fun (x69, M70) =>
  if x65 = x69 then
    f_L_law_B1211 G v1 v2 v3 M70
  else
    some (.inr (((0 : Int32), M70)))
def f_L_law_B911 (G : sG) (v1 : Nat) (v2 : Nat) (v3 : Int32) (M : sMem) : Option ((Int32 × sMem) ⊕ (((Int32 × sMem)))) :=
  (ldS G ((v3 + (1 : Int32)))).bind fun x71 =>
  (ldS G ((v3 + (2 : Int32)))).bind fun x72 =>
  (f_X11_tells v1 x71 x72 M).bind fun (x73, M74) =>
  (ldS G ((v3 + (1 : Int32)))).bind fun x75 =>
  (ldS G ((v3 + (2 : Int32)))).bind fun x76 =>
  (f_X12_tells v2 x75 x76 M74).bind fun (x77, M78) =>
  if x73 = x77 then
    f_L_law_B1211 G v1 v2 v3 M78
  else
    some (.inr (((0 : Int32), M78)))
def f_L_law_B977 (G : sG) (v1 : Nat) (v2 : Nat) (v3 : Int32) (M : sMem) : Option ((Int32 × sMem) ⊕ (((Int32 × sMem)))) :=
  (ldS G ((v3 + (1 : Int32)))).bind fun x79 =>
  (ldS G ((v3 + (2 : Int32)))).bind fun x80 =>
  (f_X11_hold v1 x79 x80 M).bind fun (x81, M82) =>
  (ldS G ((v3 + (1 : Int32)))).bind fun x83 =>
  (ldS G ((v3 + (2 : Int32)))).bind fun x84 =>
  (f_X12_hold v2 x83 x84 M82).bind fun (x85, M86) =>
  if x81 = x85 then
    f_L_law_B1211 G v1 v2 v3 M86
  else
    some (.inr (((0 : Int32), M86)))
def f_L_law_B1043 (G : sG) (v1 : Nat) (v2 : Nat) (v3 : Int32) (M : sMem) : Option ((Int32 × sMem) ⊕ (((Int32 × sMem)))) :=
  (ldS G ((v3 + (1 : Int32)))).bind fun x87 =>
  (f_X11_days v1 x87 M).bind fun (x88, M89) =>
  (ldS G ((v3 + (1 : Int32)))).bind fun x90 =>
  (f_X12_days v2 x90 M89).bind fun (x91, M92) =>
  if x88 = x91 then
    f_L_law_B1211 G v1 v2 v3 M92
  else
    some (.inr (((0 : Int32), M92)))
def f_L_law_B1125 (G : sG) (v1 : Nat) (v2 : Nat) (v3 : Int32) (M : sMem) : Option ((Int32 × sMem) ⊕ (((Int32 × sMem)))) :=
  (f_X11_ask v1 M).bind fun (x93, M94) =>
  (f_X12_ask v2 M94).bind fun (x95, M96) =>
  if x93 = x95 then
    f_L_law_B1211 G v1 v2 v3 M96
  else
    some (.inr (((0 : Int32), M96)))
def f_L_law_K18 (G : sG) (v1 : Nat) (v2 : Nat) (v3 : Int32) (M : sMem) : Option ((Int32 × sMem) ⊕ (((Int32 × sMem)))) :=
  if ((Int32.ofNat G.2.2.2.2.1) - (6 : Int32)) < v3 then
    some (.inr (((1 : Int32), M)))
  else
    (ldS G v3).bind fun x97 =>
    if (x97 &&& (63 : Int32)) = (0 : Int32) then
      (ldS G ((v3 + (1 : Int32)))).bind fun x222 =>
      (ldS G ((v3 + (2 : Int32)))).bind fun x223 =>
      (ldS G ((v3 + (3 : Int32)))).bind fun x224 =>
      (ldS G ((v3 + (4 : Int32)))).bind fun x225 =>
      (ldS G ((v3 + (5 : Int32)))).bind fun x226 =>
      (f_X11_feed v1 x222 x223 x224 x225 x226 M).bind fun (x227, M228) =>
      (ldS G ((v3 + (1 : Int32)))).bind fun x229 =>
      (ldS G ((v3 + (2 : Int32)))).bind fun x230 =>
      (ldS G ((v3 + (3 : Int32)))).bind fun x231 =>
      (ldS G ((v3 + (4 : Int32)))).bind fun x232 =>
      (ldS G ((v3 + (5 : Int32)))).bind fun x233 =>
      (f_X12_feed v2 x229 x230 x231 x232 x233 M228).bind fun (x234, M235) =>
      if x227 = x234 then
        f_L_law_B1211 G v1 v2 v3 M235
      else
        some (.inr (((0 : Int32), M235)))
    else
    if (x97 &&& (63 : Int32)) = (1 : Int32) then
      f_L_law_B255 G v1 v2 v3 M
    else
    if (x97 &&& (63 : Int32)) = (2 : Int32) then
      (f_X11_district v1 M).bind fun (x218, M219) =>
      (f_X12_district v2 M219).bind fun (x220, M221) =>
      if x218 = x220 then
        f_L_law_B1211 G v1 v2 v3 M221
      else
        some (.inr (((0 : Int32), M221)))
    else
    if (x97 &&& (63 : Int32)) = (3 : Int32) then
      (ldS G ((v3 + (1 : Int32)))).bind fun x214 =>
      (f_X11_fault v1 x214 M).bind fun x215 =>
      (ldS G ((v3 + (1 : Int32)))).bind fun x216 =>
      (f_X12_fault v2 x216 M).bind fun x217 =>
      if x215 = x217 then
        f_L_law_B1211 G v1 v2 v3 M
      else
        some (.inr (((0 : Int32), M)))
    else
    if (x97 &&& (63 : Int32)) = (4 : Int32) then
      (ldS G ((v3 + (1 : Int32)))).bind fun x210 =>
      (f_X11_has v1 x210 M).bind fun x211 =>
      (ldS G ((v3 + (1 : Int32)))).bind fun x212 =>
      (f_X12_has v2 x212 M).bind fun x213 =>
      if x211 = x213 then
        f_L_law_B1211 G v1 v2 v3 M
      else
        some (.inr (((0 : Int32), M)))
    else
    if (x97 &&& (63 : Int32)) = (5 : Int32) then
      f_L_law_B337 G v1 v2 v3 M
    else
    if (x97 &&& (63 : Int32)) = (6 : Int32) then
      (ldS G ((v3 + (1 : Int32)))).bind fun x204 =>
      (ldS G ((v3 + (2 : Int32)))).bind fun x205 =>
      (f_X11_gate v1 x204 x205 M).bind fun x206 =>
      (ldS G ((v3 + (1 : Int32)))).bind fun x207 =>
      (ldS G ((v3 + (2 : Int32)))).bind fun x208 =>
      (f_X12_gate v2 x207 x208 M).bind fun x209 =>
      if x206 = x209 then
        f_L_law_B1211 G v1 v2 v3 M
      else
        some (.inr (((0 : Int32), M)))
    else
    if (x97 &&& (63 : Int32)) = (7 : Int32) then
      f_L_law_B413 G v1 v2 v3 M
    else
    if (x97 &&& (63 : Int32)) = (8 : Int32) then
      (ldS G ((v3 + (1 : Int32)))).bind fun x198 =>
      (ldS G ((v3 + (2 : Int32)))).bind fun x199 =>
      (f_X11_car v1 x198 x199 M).bind fun x200 =>
      (ldS G ((v3 + (1 : Int32)))).bind fun x201 =>
      (ldS G ((v3 + (2 : Int32)))).bind fun x202 =>
      (f_X12_car v2 x201 x202 M).bind fun x203 =>
      if x200 = x203 then
        f_L_law_B1211 G v1 v2 v3 M
      else
        some (.inr (((0 : Int32), M)))
    else
    if (x97 &&& (63 : Int32)) = (9 : Int32) then
      f_L_law_B479 G v1 v2 v3 M
    else
    if (x97 &&& (63 : Int32)) = (10 : Int32) then
      (ldS G ((v3 + (1 : Int32)))).bind fun x192 =>
      (ldS G ((v3 + (2 : Int32)))).bind fun x193 =>
      (f_X11_head v1 x192 x193 M).bind fun x194 =>
      (ldS G ((v3 + (1 : Int32)))).bind fun x195 =>
      (ldS G ((v3 + (2 : Int32)))).bind fun x196 =>
      (f_X12_head v2 x195 x196 M).bind fun x197 =>
      if x194 = x197 then
        f_L_law_B1211 G v1 v2 v3 M
      else
        some (.inr (((0 : Int32), M)))
    else
    if (x97 &&& (63 : Int32)) = (11 : Int32) then
      f_L_law_B545 G v1 v2 v3 M
    else
    if (x97 &&& (63 : Int32)) = (12 : Int32) then
      (ldS G ((v3 + (1 : Int32)))).bind fun x184 =>
      (ldS G ((v3 + (2 : Int32)))).bind fun x185 =>
      (f_X11_opens v1 x184 x185 M).bind fun (x186, M187) =>
      (ldS G ((v3 + (1 : Int32)))).bind fun x188 =>
      (ldS G ((v3 + (2 : Int32)))).bind fun x189 =>
      (f_X12_opens v2 x188 x189 M187).bind fun (x190, M191) =>
      if x186 = x190 then
        f_L_law_B1211 G v1 v2 v3 M191
      else
        some (.inr (((0 : Int32), M191)))
    else
    if (x97 &&& (63 : Int32)) = (13 : Int32) then
      f_L_law_B611 G v1 v2 v3 M
    else
    if (x97 &&& (63 : Int32)) = (14 : Int32) then
      (ldS G ((v3 + (1 : Int32)))).bind fun x178 =>
      (f_X11_waits v1 x178 M).bind fun (x179, M180) =>
      (ldS G ((v3 + (1 : Int32)))).bind fun x181 =>
      (f_X12_waits v2 x181 M180).bind fun (x182, M183) =>
      if x179 = x182 then
        f_L_law_B1211 G v1 v2 v3 M183
      else
        some (.inr (((0 : Int32), M183)))
    else
    if (x97 &&& (63 : Int32)) = (15 : Int32) then
      f_L_law_B677 G v1 v2 v3 M
    else
    if (x97 &&& (63 : Int32)) = (16 : Int32) then
      (ldS G ((v3 + (1 : Int32)))).bind fun x170 =>
      (ldS G ((v3 + (2 : Int32)))).bind fun x171 =>
      (f_X11_late v1 x170 x171 M).bind fun (x172, M173) =>
      (ldS G ((v3 + (1 : Int32)))).bind fun x174 =>
      (ldS G ((v3 + (2 : Int32)))).bind fun x175 =>
      (f_X12_late v2 x174 x175 M173).bind fun (x176, M177) =>
      if x172 = x176 then
        f_L_law_B1211 G v1 v2 v3 M177
      else
        some (.inr (((0 : Int32), M177)))
    else
    if (x97 &&& (63 : Int32)) = (17 : Int32) then
      f_L_law_B753 G v1 v2 v3 M
    else
    if (x97 &&& (63 : Int32)) = (18 : Int32) then
      (ldS G ((v3 + (1 : Int32)))).bind fun x162 =>
      (ldS G ((v3 + (2 : Int32)))).bind fun x163 =>
      (f_X11_leave v1 x162 x163 M).bind fun (x164, M165) =>
      (ldS G ((v3 + (1 : Int32)))).bind fun x166 =>
      (ldS G ((v3 + (2 : Int32)))).bind fun x167 =>
      (f_X12_leave v2 x166 x167 M165).bind fun (x168, M169) =>
      if x164 = x168 then
        f_L_law_B1211 G v1 v2 v3 M169
      else
        some (.inr (((0 : Int32), M169)))
    else
    if (x97 &&& (63 : Int32)) = (19 : Int32) then
      f_L_law_B819 G v1 v2 v3 M
    else
    if (x97 &&& (63 : Int32)) = (20 : Int32) then
      (f_X11_keepers v1 M).bind fun (x158, M159) =>
      (f_X12_keepers v2 M159).bind fun (x160, M161) =>
      if x158 = x160 then
        f_L_law_B1211 G v1 v2 v3 M161
      else
        some (.inr (((0 : Int32), M161)))
    else
    if (x97 &&& (63 : Int32)) = (21 : Int32) then
      (f_X11_see v1 M).bind fun (x154, M155) =>
      (f_X12_see v2 M155).bind fun (x156, M157) =>
      if x154 = x156 then
        f_L_law_B1211 G v1 v2 v3 M157
      else
        some (.inr (((0 : Int32), M157)))
    else
    if (x97 &&& (63 : Int32)) = (22 : Int32) then
      (ldS G ((v3 + (1 : Int32)))).bind fun x146 =>
      (ldS G ((v3 + (2 : Int32)))).bind fun x147 =>
      (f_X11_was v1 x146 x147 M).bind fun (x148, M149) =>
      (ldS G ((v3 + (1 : Int32)))).bind fun x150 =>
      (ldS G ((v3 + (2 : Int32)))).bind fun x151 =>
      (f_X12_was v2 x150 x151 M149).bind fun (x152, M153) =>
      if x148 = x152 then
        f_L_law_B1211 G v1 v2 v3 M153
      else
        some (.inr (((0 : Int32), M153)))
    else
    if (x97 &&& (63 : Int32)) = (23 : Int32) then
      f_L_law_B911 G v1 v2 v3 M
    else
    if (x97 &&& (63 : Int32)) = (24 : Int32) then
      (ldS G ((v3 + (1 : Int32)))).bind fun x138 =>
      (ldS G ((v3 + (2 : Int32)))).bind fun x139 =>
      (f_X11_put v1 x138 x139 M).bind fun (x140, M141) =>
      (ldS G ((v3 + (1 : Int32)))).bind fun x142 =>
      (ldS G ((v3 + (2 : Int32)))).bind fun x143 =>
      (f_X12_put v2 x142 x143 M141).bind fun (x144, M145) =>
      if x140 = x144 then
        f_L_law_B1211 G v1 v2 v3 M145
      else
        some (.inr (((0 : Int32), M145)))
    else
    if (x97 &&& (63 : Int32)) = (25 : Int32) then
      f_L_law_B977 G v1 v2 v3 M
    else
    if (x97 &&& (63 : Int32)) = (26 : Int32) then
      (ldS G ((v3 + (1 : Int32)))).bind fun x130 =>
      (ldS G ((v3 + (2 : Int32)))).bind fun x131 =>
      (f_X11_send v1 x130 x131 M).bind fun (x132, M133) =>
      (ldS G ((v3 + (1 : Int32)))).bind fun x134 =>
      (ldS G ((v3 + (2 : Int32)))).bind fun x135 =>
      (f_X12_send v2 x134 x135 M133).bind fun (x136, M137) =>
      if x132 = x136 then
        f_L_law_B1211 G v1 v2 v3 M137
      else
        some (.inr (((0 : Int32), M137)))
    else
    if (x97 &&& (63 : Int32)) = (27 : Int32) then
      f_L_law_B1043 G v1 v2 v3 M
    else
    if (x97 &&& (63 : Int32)) = (28 : Int32) then
      (ldS G ((v3 + (1 : Int32)))).bind fun x124 =>
      (f_X11_chance v1 x124 M).bind fun (x125, M126) =>
      (ldS G ((v3 + (1 : Int32)))).bind fun x127 =>
      (f_X12_chance v2 x127 M126).bind fun (x128, M129) =>
      if x125 = x128 then
        f_L_law_B1211 G v1 v2 v3 M129
      else
        some (.inr (((0 : Int32), M129)))
    else
    if (x97 &&& (63 : Int32)) = (29 : Int32) then
      (f_X11_undo v1 M).bind fun (x120, M121) =>
      (f_X12_undo v2 M121).bind fun (x122, M123) =>
      if x120 = x122 then
        f_L_law_B1211 G v1 v2 v3 M123
      else
        some (.inr (((0 : Int32), M123)))
    else
    if (x97 &&& (63 : Int32)) = (30 : Int32) then
      (ldS G ((v3 + (1 : Int32)))).bind fun x114 =>
      (f_X11_seed v1 x114 M).bind fun (x115, M116) =>
      (ldS G ((v3 + (1 : Int32)))).bind fun x117 =>
      (f_X12_seed v2 x117 M116).bind fun (x118, M119) =>
      if x115 = x118 then
        f_L_law_B1211 G v1 v2 v3 M119
      else
        some (.inr (((0 : Int32), M119)))
    else
    if (x97 &&& (63 : Int32)) = (31 : Int32) then
      f_L_law_B1125 G v1 v2 v3 M
    else
    if (x97 &&& (63 : Int32)) = (32 : Int32) then
      (f_X11_image v1 M).bind fun (x110, M111) =>
      (f_X12_image v2 M111).bind fun (x112, M113) =>
      if x110 = x112 then
        f_L_law_B1211 G v1 v2 v3 M113
      else
        some (.inr (((0 : Int32), M113)))
    else
    if (x97 &&& (63 : Int32)) = (33 : Int32) then
      (ldS G ((v3 + (1 : Int32)))).bind fun x106 =>
      (f_X11_octet v1 x106 M).bind fun x107 =>
      (ldS G ((v3 + (1 : Int32)))).bind fun x108 =>
      (f_X12_octet v2 x108 M).bind fun x109 =>
      if x107 = x109 then
        f_L_law_B1211 G v1 v2 v3 M
      else
        some (.inr (((0 : Int32), M)))
    else
    if (x97 &&& (63 : Int32)) = (34 : Int32) then
      (f_X11_on v1 M).bind fun (x102, M103) =>
      (f_X12_on v2 M103).bind fun (x104, M105) =>
      if x102 = x104 then
        f_L_law_B1211 G v1 v2 v3 M105
      else
        some (.inr (((0 : Int32), M105)))
    else
    if (x97 &&& (63 : Int32)) = (35 : Int32) then
      (ldS G ((v3 + (1 : Int32)))).bind fun x98 =>
      (f_X11_status v1 x98 M).bind fun x99 =>
      (ldS G ((v3 + (1 : Int32)))).bind fun x100 =>
      (f_X12_status v2 x100 M).bind fun x101 =>
      if x99 = x101 then
        f_L_law_B1211 G v1 v2 v3 M
      else
        some (.inr (((0 : Int32), M)))
    else
    f_L_law_B1211 G v1 v2 v3 M
def f_L_law_L18 (G : sG) (v1 : Nat) (v2 : Nat) (v3 : Int32) (M : sMem) : Option (Int32 × sMem) :=
  (sItr (fun a : (Int32 × sMem) => f_L_law_K18 G v1 v2 a.1 a.2) sFuel (v3, M)).bind (fun b => some b)
def f_L_law (G : sG) (M0 : sMem) : Option (Int32 × sMem) :=
  (f_X11_init ((sLen M0)) (sNew 11 20 M0)).bind fun M236 =>
  (f_X12_init ((sLen M236)) (sNew 12 127 M236)).bind fun M237 =>
  f_L_law_L18 G ((sLen M0)) ((sLen M236)) ((0 : Int32)) M237
set_option maxRecDepth 100000 in
set_option maxHeartbeats 8000000 in
theorem x_L_law (G : sG) (l : Launch) (M0 : sMem) (r : Option Value) (M' : sMem) (K : Int32 × sMem → Prop) (hr : ∀ x, K x → rvI x.1 = r ∧ x.2 = M') : sX G l 840 yL_law cL_law 4 (some .boolean) M0 r M' 0 [some (.ref sSCR), none, none, none] [] M0 (f_L_law G M0) K := by
  unfold f_L_law
  have xL18 : ∀ (v1 : Nat) (v2 : Nat) (v3 : Int32) (M : sMem), sX G l 840 yL_law cL_law 4 (some .boolean) M0 r M' 18 [some (.ref sSCR), some (.ref v1), some (.ref v2), some (.int v3)] [] M (f_L_law_L18 G v1 v2 v3 M) K := by
    intro v1 v2 v3 M
    unfold f_L_law_L18
    refine sX_bind ?_
    refine sX_loop (LS := fun a : (Int32 × sMem) => [some (.ref sSCR), some (.ref v1), some (.ref v2), some (.int a.1)]) (MM := fun a => a.2) (fun K1 hb1 he1 => ?_) sFuel ((v3, M))
    have xB1211 : ∀ (v3 : Int32) (M : sMem), sX G l 840 yL_law cL_law 4 (some .boolean) M0 r M' 1211 [some (.ref sSCR), some (.ref v1), some (.ref v2), some (.int v3)] [] M (f_L_law_B1211 G v1 v2 v3 M) K1 := by
      intro v3 M
      unfold f_L_law_B1211
      refine sX_iinc (i := 3) (n := 6) (v := v3 + (6 : Int32)) (ls2 := [some (.ref sSCR), some (.ref v1), some (.ref v2), some (.int (v3 + (6 : Int32)))]) (by decide +kernel) rfl rfl (by decide) rfl ?_
      refine sX_goto (o := -1196) (t := 18) (by decide +kernel) (by decide) ?_
      exact sX_back (a := (((v3 + (6 : Int32))), M)) hb1 rfl (sLe_s (sLe_s (sLe_s (sLe_s sLe_e))))
    have xB255 : ∀ (v3 : Int32) (M : sMem), sX G l 840 yL_law cL_law 4 (some .boolean) M0 r M' 255 [some (.ref sSCR), some (.ref v1), some (.ref v2), some (.int v3)] [] M (f_L_law_B255 G v1 v2 v3 M) K1 := by
      intro v3 M
      unfold f_L_law_B255
      refine sX_aload_n (i := 1) (by decide +kernel) rfl ?_
      refine sX_aload_n (i := 0) (by decide +kernel) rfl ?_
      refine sX_iload_n (i := 3) (by decide +kernel) rfl ?_
      refine sX_iconst (n := 1) (v := (1 : Int32)) (by decide +kernel) (by decide) ?_
      refine sX_iadd (by decide +kernel) ?_
      refine sX_sld (by decide +kernel) (fun x1 => ?_)
      refine sX_callV (As := [.int x1]) (by decide +kernel) lm_L_18 mf_X11_end mi_X11_end mc_11 (m_X11_end G l v1 x1 M) (fun _ h => sRc_some h) (by decide) rfl rfl (Nat.le_of_ble_eq_true rfl) (fun x2 M3 _ => ?_)
      refine sX_aload_n (i := 2) (by decide +kernel) rfl ?_
      refine sX_aload_n (i := 0) (by decide +kernel) rfl ?_
      refine sX_iload_n (i := 3) (by decide +kernel) rfl ?_
      refine sX_iconst (n := 1) (v := (1 : Int32)) (by decide +kernel) (by decide) ?_
      refine sX_iadd (by decide +kernel) ?_
      refine sX_sld (by decide +kernel) (fun x4 => ?_)
      refine sX_callV (As := [.int x4]) (by decide +kernel) lm_L_22 mf_X12_end mi_X12_end mc_12 (m_X12_end G l v2 x4 M3) (fun _ h => sRc_some h) (by decide) rfl rfl (Nat.le_of_ble_eq_true rfl) (fun x5 M6 _ => ?_)
      refine sX_iceq (o := 938) (t := 1211) (by decide +kernel) (by decide) (fun _ => ?_) (fun _ => ?_)
      · exact sX.le (xB1211 v3 M6) (sLe_s (sLe_s (sLe_s (sLe_s sLe_e))))
      · refine sX_iconst (n := 0) (v := (0 : Int32)) (by decide +kernel) (by decide) ?_
        refine sX_exit he1 ?_
        exact sX_some (fun h _ => sW_zret (by decide +kernel) rfl (by decide) (hr _ h).1.symm (hr _ h).2.symm)
    have xB337 : ∀ (v3 : Int32) (M : sMem), sX G l 840 yL_law cL_law 4 (some .boolean) M0 r M' 337 [some (.ref sSCR), some (.ref v1), some (.ref v2), some (.int v3)] [] M (f_L_law_B337 G v1 v2 v3 M) K1 := by
      intro v3 M
      unfold f_L_law_B337
      refine sX_aload_n (i := 1) (by decide +kernel) rfl ?_
      refine sX_aload_n (i := 0) (by decide +kernel) rfl ?_
      refine sX_iload_n (i := 3) (by decide +kernel) rfl ?_
      refine sX_iconst (n := 1) (v := (1 : Int32)) (by decide +kernel) (by decide) ?_
      refine sX_iadd (by decide +kernel) ?_
      refine sX_sld (by decide +kernel) (fun x7 => ?_)
      refine sX_aload_n (i := 0) (by decide +kernel) rfl ?_
      refine sX_iload_n (i := 3) (by decide +kernel) rfl ?_
      refine sX_iconst (n := 2) (v := (2 : Int32)) (by decide +kernel) (by decide) ?_
      refine sX_iadd (by decide +kernel) ?_
      refine sX_sld (by decide +kernel) (fun x8 => ?_)
      refine sX_aload_n (i := 0) (by decide +kernel) rfl ?_
      refine sX_iload_n (i := 3) (by decide +kernel) rfl ?_
      refine sX_iconst (n := 3) (v := (3 : Int32)) (by decide +kernel) (by decide) ?_
      refine sX_iadd (by decide +kernel) ?_
      refine sX_sld (by decide +kernel) (fun x9 => ?_)
      refine sX_callVp (As := [.int x7, .int x8, .int x9]) (by decide +kernel) lm_L_37 mf_X11_letter mi_X11_letter mc_11 (m_X11_letter G l v1 x7 x8 x9 M) (fun _ h => sRc_some h) (by decide) rfl rfl (Nat.le_of_ble_eq_true rfl) (fun x10 => ?_)
      refine sX_aload_n (i := 2) (by decide +kernel) rfl ?_
      refine sX_aload_n (i := 0) (by decide +kernel) rfl ?_
      refine sX_iload_n (i := 3) (by decide +kernel) rfl ?_
      refine sX_iconst (n := 1) (v := (1 : Int32)) (by decide +kernel) (by decide) ?_
      refine sX_iadd (by decide +kernel) ?_
      refine sX_sld (by decide +kernel) (fun x11 => ?_)
      refine sX_aload_n (i := 0) (by decide +kernel) rfl ?_
      refine sX_iload_n (i := 3) (by decide +kernel) rfl ?_
      refine sX_iconst (n := 2) (v := (2 : Int32)) (by decide +kernel) (by decide) ?_
      refine sX_iadd (by decide +kernel) ?_
      refine sX_sld (by decide +kernel) (fun x12 => ?_)
      refine sX_aload_n (i := 0) (by decide +kernel) rfl ?_
      refine sX_iload_n (i := 3) (by decide +kernel) rfl ?_
      refine sX_iconst (n := 3) (v := (3 : Int32)) (by decide +kernel) (by decide) ?_
      refine sX_iadd (by decide +kernel) ?_
      refine sX_sld (by decide +kernel) (fun x13 => ?_)
      refine sX_callVp (As := [.int x11, .int x12, .int x13]) (by decide +kernel) lm_L_41 mf_X12_letter mi_X12_letter mc_12 (m_X12_letter G l v2 x11 x12 x13 M) (fun _ h => sRc_some h) (by decide) rfl rfl (Nat.le_of_ble_eq_true rfl) (fun x14 => ?_)
      refine sX_iceq (o := 836) (t := 1211) (by decide +kernel) (by decide) (fun _ => ?_) (fun _ => ?_)
      · exact sX.le (xB1211 v3 M) (sLe_s (sLe_s (sLe_s (sLe_s sLe_e))))
      · refine sX_iconst (n := 0) (v := (0 : Int32)) (by decide +kernel) (by decide) ?_
        refine sX_exit he1 ?_
        exact sX_some (fun h _ => sW_zret (by decide +kernel) rfl (by decide) (hr _ h).1.symm (hr _ h).2.symm)
    have xB413 : ∀ (v3 : Int32) (M : sMem), sX G l 840 yL_law cL_law 4 (some .boolean) M0 r M' 413 [some (.ref sSCR), some (.ref v1), some (.ref v2), some (.int v3)] [] M (f_L_law_B413 G v1 v2 v3 M) K1 := by
      intro v3 M
      unfold f_L_law_B413
      refine sX_aload_n (i := 1) (by decide +kernel) rfl ?_
      refine sX_aload_n (i := 0) (by decide +kernel) rfl ?_
      refine sX_iload_n (i := 3) (by decide +kernel) rfl ?_
      refine sX_iconst (n := 1) (v := (1 : Int32)) (by decide +kernel) (by decide) ?_
      refine sX_iadd (by decide +kernel) ?_
      refine sX_sld (by decide +kernel) (fun x15 => ?_)
      refine sX_aload_n (i := 0) (by decide +kernel) rfl ?_
      refine sX_iload_n (i := 3) (by decide +kernel) rfl ?_
      refine sX_iconst (n := 2) (v := (2 : Int32)) (by decide +kernel) (by decide) ?_
      refine sX_iadd (by decide +kernel) ?_
      refine sX_sld (by decide +kernel) (fun x16 => ?_)
      refine sX_callVp (As := [.int x15, .int x16]) (by decide +kernel) lm_L_47 mf_X11_era mi_X11_era mc_11 (m_X11_era G l v1 x15 x16 M) (fun _ h => sRc_some h) (by decide) rfl rfl (Nat.le_of_ble_eq_true rfl) (fun x17 => ?_)
      refine sX_aload_n (i := 2) (by decide +kernel) rfl ?_
      refine sX_aload_n (i := 0) (by decide +kernel) rfl ?_
      refine sX_iload_n (i := 3) (by decide +kernel) rfl ?_
      refine sX_iconst (n := 1) (v := (1 : Int32)) (by decide +kernel) (by decide) ?_
      refine sX_iadd (by decide +kernel) ?_
      refine sX_sld (by decide +kernel) (fun x18 => ?_)
      refine sX_aload_n (i := 0) (by decide +kernel) rfl ?_
      refine sX_iload_n (i := 3) (by decide +kernel) rfl ?_
      refine sX_iconst (n := 2) (v := (2 : Int32)) (by decide +kernel) (by decide) ?_
      refine sX_iadd (by decide +kernel) ?_
      refine sX_sld (by decide +kernel) (fun x19 => ?_)
      refine sX_callVp (As := [.int x18, .int x19]) (by decide +kernel) lm_L_50 mf_X12_era mi_X12_era mc_12 (m_X12_era G l v2 x18 x19 M) (fun _ h => sRc_some h) (by decide) rfl rfl (Nat.le_of_ble_eq_true rfl) (fun x20 => ?_)
      refine sX_iceq (o := 770) (t := 1211) (by decide +kernel) (by decide) (fun _ => ?_) (fun _ => ?_)
      · exact sX.le (xB1211 v3 M) (sLe_s (sLe_s (sLe_s (sLe_s sLe_e))))
      · refine sX_iconst (n := 0) (v := (0 : Int32)) (by decide +kernel) (by decide) ?_
        refine sX_exit he1 ?_
        exact sX_some (fun h _ => sW_zret (by decide +kernel) rfl (by decide) (hr _ h).1.symm (hr _ h).2.symm)
    have xB479 : ∀ (v3 : Int32) (M : sMem), sX G l 840 yL_law cL_law 4 (some .boolean) M0 r M' 479 [some (.ref sSCR), some (.ref v1), some (.ref v2), some (.int v3)] [] M (f_L_law_B479 G v1 v2 v3 M) K1 := by
      intro v3 M
      unfold f_L_law_B479
      refine sX_aload_n (i := 1) (by decide +kernel) rfl ?_
      refine sX_aload_n (i := 0) (by decide +kernel) rfl ?_
      refine sX_iload_n (i := 3) (by decide +kernel) rfl ?_
      refine sX_iconst (n := 1) (v := (1 : Int32)) (by decide +kernel) (by decide) ?_
      refine sX_iadd (by decide +kernel) ?_
      refine sX_sld (by decide +kernel) (fun x21 => ?_)
      refine sX_aload_n (i := 0) (by decide +kernel) rfl ?_
      refine sX_iload_n (i := 3) (by decide +kernel) rfl ?_
      refine sX_iconst (n := 2) (v := (2 : Int32)) (by decide +kernel) (by decide) ?_
      refine sX_iadd (by decide +kernel) ?_
      refine sX_sld (by decide +kernel) (fun x22 => ?_)
      refine sX_callVp (As := [.int x21, .int x22]) (by decide +kernel) lm_L_55 mf_X11_kept mi_X11_kept mc_11 (m_X11_kept G l v1 x21 x22 M) (fun _ h => sRc_some h) (by decide) rfl rfl (Nat.le_of_ble_eq_true rfl) (fun x23 => ?_)
      refine sX_aload_n (i := 2) (by decide +kernel) rfl ?_
      refine sX_aload_n (i := 0) (by decide +kernel) rfl ?_
      refine sX_iload_n (i := 3) (by decide +kernel) rfl ?_
      refine sX_iconst (n := 1) (v := (1 : Int32)) (by decide +kernel) (by decide) ?_
      refine sX_iadd (by decide +kernel) ?_
      refine sX_sld (by decide +kernel) (fun x24 => ?_)
      refine sX_aload_n (i := 0) (by decide +kernel) rfl ?_
      refine sX_iload_n (i := 3) (by decide +kernel) rfl ?_
      refine sX_iconst (n := 2) (v := (2 : Int32)) (by decide +kernel) (by decide) ?_
      refine sX_iadd (by decide +kernel) ?_
      refine sX_sld (by decide +kernel) (fun x25 => ?_)
      refine sX_callVp (As := [.int x24, .int x25]) (by decide +kernel) lm_L_58 mf_X12_kept mi_X12_kept mc_12 (m_X12_kept G l v2 x24 x25 M) (fun _ h => sRc_some h) (by decide) rfl rfl (Nat.le_of_ble_eq_true rfl) (fun x26 => ?_)
      refine sX_iceq (o := 704) (t := 1211) (by decide +kernel) (by decide) (fun _ => ?_) (fun _ => ?_)
      · exact sX.le (xB1211 v3 M) (sLe_s (sLe_s (sLe_s (sLe_s sLe_e))))
      · refine sX_iconst (n := 0) (v := (0 : Int32)) (by decide +kernel) (by decide) ?_
        refine sX_exit he1 ?_
        exact sX_some (fun h _ => sW_zret (by decide +kernel) rfl (by decide) (hr _ h).1.symm (hr _ h).2.symm)
    have xB545 : ∀ (v3 : Int32) (M : sMem), sX G l 840 yL_law cL_law 4 (some .boolean) M0 r M' 545 [some (.ref sSCR), some (.ref v1), some (.ref v2), some (.int v3)] [] M (f_L_law_B545 G v1 v2 v3 M) K1 := by
      intro v3 M
      unfold f_L_law_B545
      refine sX_aload_n (i := 1) (by decide +kernel) rfl ?_
      refine sX_aload_n (i := 0) (by decide +kernel) rfl ?_
      refine sX_iload_n (i := 3) (by decide +kernel) rfl ?_
      refine sX_iconst (n := 1) (v := (1 : Int32)) (by decide +kernel) (by decide) ?_
      refine sX_iadd (by decide +kernel) ?_
      refine sX_sld (by decide +kernel) (fun x27 => ?_)
      refine sX_aload_n (i := 0) (by decide +kernel) rfl ?_
      refine sX_iload_n (i := 3) (by decide +kernel) rfl ?_
      refine sX_iconst (n := 2) (v := (2 : Int32)) (by decide +kernel) (by decide) ?_
      refine sX_iadd (by decide +kernel) ?_
      refine sX_sld (by decide +kernel) (fun x28 => ?_)
      refine sX_callV (As := [.int x27, .int x28]) (by decide +kernel) lm_L_63 mf_X11_closed mi_X11_closed mc_11 (m_X11_closed G l v1 x27 x28 M) (fun _ h => sRc_some h) (by decide) rfl rfl (Nat.le_of_ble_eq_true rfl) (fun x29 M30 _ => ?_)
      refine sX_aload_n (i := 2) (by decide +kernel) rfl ?_
      refine sX_aload_n (i := 0) (by decide +kernel) rfl ?_
      refine sX_iload_n (i := 3) (by decide +kernel) rfl ?_
      refine sX_iconst (n := 1) (v := (1 : Int32)) (by decide +kernel) (by decide) ?_
      refine sX_iadd (by decide +kernel) ?_
      refine sX_sld (by decide +kernel) (fun x31 => ?_)
      refine sX_aload_n (i := 0) (by decide +kernel) rfl ?_
      refine sX_iload_n (i := 3) (by decide +kernel) rfl ?_
      refine sX_iconst (n := 2) (v := (2 : Int32)) (by decide +kernel) (by decide) ?_
      refine sX_iadd (by decide +kernel) ?_
      refine sX_sld (by decide +kernel) (fun x32 => ?_)
      refine sX_callV (As := [.int x31, .int x32]) (by decide +kernel) lm_L_66 mf_X12_closed mi_X12_closed mc_12 (m_X12_closed G l v2 x31 x32 M30) (fun _ h => sRc_some h) (by decide) rfl rfl (Nat.le_of_ble_eq_true rfl) (fun x33 M34 _ => ?_)
      refine sX_iceq (o := 638) (t := 1211) (by decide +kernel) (by decide) (fun _ => ?_) (fun _ => ?_)
      · exact sX.le (xB1211 v3 M34) (sLe_s (sLe_s (sLe_s (sLe_s sLe_e))))
      · refine sX_iconst (n := 0) (v := (0 : Int32)) (by decide +kernel) (by decide) ?_
        refine sX_exit he1 ?_
        exact sX_some (fun h _ => sW_zret (by decide +kernel) rfl (by decide) (hr _ h).1.symm (hr _ h).2.symm)
    have xB611 : ∀ (v3 : Int32) (M : sMem), sX G l 840 yL_law cL_law 4 (some .boolean) M0 r M' 611 [some (.ref sSCR), some (.ref v1), some (.ref v2), some (.int v3)] [] M (f_L_law_B611 G v1 v2 v3 M) K1 := by
      intro v3 M
      unfold f_L_law_B611
      refine sX_aload_n (i := 1) (by decide +kernel) rfl ?_
      refine sX_aload_n (i := 0) (by decide +kernel) rfl ?_
      refine sX_iload_n (i := 3) (by decide +kernel) rfl ?_
      refine sX_iconst (n := 1) (v := (1 : Int32)) (by decide +kernel) (by decide) ?_
      refine sX_iadd (by decide +kernel) ?_
      refine sX_sld (by decide +kernel) (fun x35 => ?_)
      refine sX_aload_n (i := 0) (by decide +kernel) rfl ?_
      refine sX_iload_n (i := 3) (by decide +kernel) rfl ?_
      refine sX_iconst (n := 2) (v := (2 : Int32)) (by decide +kernel) (by decide) ?_
      refine sX_iadd (by decide +kernel) ?_
      refine sX_sld (by decide +kernel) (fun x36 => ?_)
      refine sX_aload_n (i := 0) (by decide +kernel) rfl ?_
      refine sX_iload_n (i := 3) (by decide +kernel) rfl ?_
      refine sX_iconst (n := 3) (v := (3 : Int32)) (by decide +kernel) (by decide) ?_
      refine sX_iadd (by decide +kernel) ?_
      refine sX_sld (by decide +kernel) (fun x37 => ?_)
      refine sX_callV (As := [.int x35, .int x36, .int x37]) (by decide +kernel) lm_L_71 mf_X11_drive mi_X11_drive mc_11 (m_X11_drive G l v1 x35 x36 x37 M) (fun _ h => sRc_some h) (by decide) rfl rfl (Nat.le_of_ble_eq_true rfl) (fun x38 M39 _ => ?_)
      refine sX_aload_n (i := 2) (by decide +kernel) rfl ?_
      refine sX_aload_n (i := 0) (by decide +kernel) rfl ?_
      refine sX_iload_n (i := 3) (by decide +kernel) rfl ?_
      refine sX_iconst (n := 1) (v := (1 : Int32)) (by decide +kernel) (by decide) ?_
      refine sX_iadd (by decide +kernel) ?_
      refine sX_sld (by decide +kernel) (fun x40 => ?_)
      refine sX_aload_n (i := 0) (by decide +kernel) rfl ?_
      refine sX_iload_n (i := 3) (by decide +kernel) rfl ?_
      refine sX_iconst (n := 2) (v := (2 : Int32)) (by decide +kernel) (by decide) ?_
      refine sX_iadd (by decide +kernel) ?_
      refine sX_sld (by decide +kernel) (fun x41 => ?_)
      refine sX_aload_n (i := 0) (by decide +kernel) rfl ?_
      refine sX_iload_n (i := 3) (by decide +kernel) rfl ?_
      refine sX_iconst (n := 3) (v := (3 : Int32)) (by decide +kernel) (by decide) ?_
      refine sX_iadd (by decide +kernel) ?_
      refine sX_sld (by decide +kernel) (fun x42 => ?_)
      refine sX_callV (As := [.int x40, .int x41, .int x42]) (by decide +kernel) lm_L_74 mf_X12_drive mi_X12_drive mc_12 (m_X12_drive G l v2 x40 x41 x42 M39) (fun _ h => sRc_some h) (by decide) rfl rfl (Nat.le_of_ble_eq_true rfl) (fun x43 M44 _ => ?_)
      refine sX_iceq (o := 562) (t := 1211) (by decide +kernel) (by decide) (fun _ => ?_) (fun _ => ?_)
      · exact sX.le (xB1211 v3 M44) (sLe_s (sLe_s (sLe_s (sLe_s sLe_e))))
      · refine sX_iconst (n := 0) (v := (0 : Int32)) (by decide +kernel) (by decide) ?_
        refine sX_exit he1 ?_
        exact sX_some (fun h _ => sW_zret (by decide +kernel) rfl (by decide) (hr _ h).1.symm (hr _ h).2.symm)
    have xB677 : ∀ (v3 : Int32) (M : sMem), sX G l 840 yL_law cL_law 4 (some .boolean) M0 r M' 677 [some (.ref sSCR), some (.ref v1), some (.ref v2), some (.int v3)] [] M (f_L_law_B677 G v1 v2 v3 M) K1 := by
      intro v3 M
      unfold f_L_law_B677
      refine sX_aload_n (i := 1) (by decide +kernel) rfl ?_
      refine sX_aload_n (i := 0) (by decide +kernel) rfl ?_
      refine sX_iload_n (i := 3) (by decide +kernel) rfl ?_
      refine sX_iconst (n := 1) (v := (1 : Int32)) (by decide +kernel) (by decide) ?_
      refine sX_iadd (by decide +kernel) ?_
      refine sX_sld (by decide +kernel) (fun x45 => ?_)
      refine sX_aload_n (i := 0) (by decide +kernel) rfl ?_
      refine sX_iload_n (i := 3) (by decide +kernel) rfl ?_
      refine sX_iconst (n := 2) (v := (2 : Int32)) (by decide +kernel) (by decide) ?_
      refine sX_iadd (by decide +kernel) ?_
      refine sX_sld (by decide +kernel) (fun x46 => ?_)
      refine sX_aload_n (i := 0) (by decide +kernel) rfl ?_
      refine sX_iload_n (i := 3) (by decide +kernel) rfl ?_
      refine sX_iconst (n := 3) (v := (3 : Int32)) (by decide +kernel) (by decide) ?_
      refine sX_iadd (by decide +kernel) ?_
      refine sX_sld (by decide +kernel) (fun x47 => ?_)
      refine sX_callV (As := [.int x45, .int x46, .int x47]) (by decide +kernel) lm_L_79 mf_X11_later mi_X11_later mc_11 (m_X11_later G l v1 x45 x46 x47 M) (fun _ h => sRc_some h) (by decide) rfl rfl (Nat.le_of_ble_eq_true rfl) (fun x48 M49 _ => ?_)
      refine sX_aload_n (i := 2) (by decide +kernel) rfl ?_
      refine sX_aload_n (i := 0) (by decide +kernel) rfl ?_
      refine sX_iload_n (i := 3) (by decide +kernel) rfl ?_
      refine sX_iconst (n := 1) (v := (1 : Int32)) (by decide +kernel) (by decide) ?_
      refine sX_iadd (by decide +kernel) ?_
      refine sX_sld (by decide +kernel) (fun x50 => ?_)
      refine sX_aload_n (i := 0) (by decide +kernel) rfl ?_
      refine sX_iload_n (i := 3) (by decide +kernel) rfl ?_
      refine sX_iconst (n := 2) (v := (2 : Int32)) (by decide +kernel) (by decide) ?_
      refine sX_iadd (by decide +kernel) ?_
      refine sX_sld (by decide +kernel) (fun x51 => ?_)
      refine sX_aload_n (i := 0) (by decide +kernel) rfl ?_
      refine sX_iload_n (i := 3) (by decide +kernel) rfl ?_
      refine sX_iconst (n := 3) (v := (3 : Int32)) (by decide +kernel) (by decide) ?_
      refine sX_iadd (by decide +kernel) ?_
      refine sX_sld (by decide +kernel) (fun x52 => ?_)
      refine sX_callV (As := [.int x50, .int x51, .int x52]) (by decide +kernel) lm_L_82 mf_X12_later mi_X12_later mc_12 (m_X12_later G l v2 x50 x51 x52 M49) (fun _ h => sRc_some h) (by decide) rfl rfl (Nat.le_of_ble_eq_true rfl) (fun x53 M54 _ => ?_)
      refine sX_iceq (o := 496) (t := 1211) (by decide +kernel) (by decide) (fun _ => ?_) (fun _ => ?_)
      · exact sX.le (xB1211 v3 M54) (sLe_s (sLe_s (sLe_s (sLe_s sLe_e))))
      · refine sX_iconst (n := 0) (v := (0 : Int32)) (by decide +kernel) (by decide) ?_
        refine sX_exit he1 ?_
        exact sX_some (fun h _ => sW_zret (by decide +kernel) rfl (by decide) (hr _ h).1.symm (hr _ h).2.symm)
    have xB753 : ∀ (v3 : Int32) (M : sMem), sX G l 840 yL_law cL_law 4 (some .boolean) M0 r M' 753 [some (.ref sSCR), some (.ref v1), some (.ref v2), some (.int v3)] [] M (f_L_law_B753 G v1 v2 v3 M) K1 := by
      intro v3 M
      unfold f_L_law_B753
      refine sX_aload_n (i := 1) (by decide +kernel) rfl ?_
      refine sX_aload_n (i := 0) (by decide +kernel) rfl ?_
      refine sX_iload_n (i := 3) (by decide +kernel) rfl ?_
      refine sX_iconst (n := 1) (v := (1 : Int32)) (by decide +kernel) (by decide) ?_
      refine sX_iadd (by decide +kernel) ?_
      refine sX_sld (by decide +kernel) (fun x55 => ?_)
      refine sX_aload_n (i := 0) (by decide +kernel) rfl ?_
      refine sX_iload_n (i := 3) (by decide +kernel) rfl ?_
      refine sX_iconst (n := 2) (v := (2 : Int32)) (by decide +kernel) (by decide) ?_
      refine sX_iadd (by decide +kernel) ?_
      refine sX_sld (by decide +kernel) (fun x56 => ?_)
      refine sX_callV (As := [.int x55, .int x56]) (by decide +kernel) lm_L_87 mf_X11_lift mi_X11_lift mc_11 (m_X11_lift G l v1 x55 x56 M) (fun _ h => sRc_some h) (by decide) rfl rfl (Nat.le_of_ble_eq_true rfl) (fun x57 M58 _ => ?_)
      refine sX_aload_n (i := 2) (by decide +kernel) rfl ?_
      refine sX_aload_n (i := 0) (by decide +kernel) rfl ?_
      refine sX_iload_n (i := 3) (by decide +kernel) rfl ?_
      refine sX_iconst (n := 1) (v := (1 : Int32)) (by decide +kernel) (by decide) ?_
      refine sX_iadd (by decide +kernel) ?_
      refine sX_sld (by decide +kernel) (fun x59 => ?_)
      refine sX_aload_n (i := 0) (by decide +kernel) rfl ?_
      refine sX_iload_n (i := 3) (by decide +kernel) rfl ?_
      refine sX_iconst (n := 2) (v := (2 : Int32)) (by decide +kernel) (by decide) ?_
      refine sX_iadd (by decide +kernel) ?_
      refine sX_sld (by decide +kernel) (fun x60 => ?_)
      refine sX_callV (As := [.int x59, .int x60]) (by decide +kernel) lm_L_90 mf_X12_lift mi_X12_lift mc_12 (m_X12_lift G l v2 x59 x60 M58) (fun _ h => sRc_some h) (by decide) rfl rfl (Nat.le_of_ble_eq_true rfl) (fun x61 M62 _ => ?_)
      refine sX_iceq (o := 430) (t := 1211) (by decide +kernel) (by decide) (fun _ => ?_) (fun _ => ?_)
      · exact sX.le (xB1211 v3 M62) (sLe_s (sLe_s (sLe_s (sLe_s sLe_e))))
      · refine sX_iconst (n := 0) (v := (0 : Int32)) (by decide +kernel) (by decide) ?_
        refine sX_exit he1 ?_
        exact sX_some (fun h _ => sW_zret (by decide +kernel) rfl (by decide) (hr _ h).1.symm (hr _ h).2.symm)
    have xB819 : ∀ (v3 : Int32) (M : sMem), sX G l 840 yL_law cL_law 4 (some .boolean) M0 r M' 819 [some (.ref sSCR), some (.ref v1), some (.ref v2), some (.int v3)] [] M (f_L_law_B819 G v1 v2 v3 M) K1 := by
      intro v3 M
      unfold f_L_law_B819
      refine sX_aload_n (i := 1) (by decide +kernel) rfl ?_
      refine sX_aload_n (i := 0) (by decide +kernel) rfl ?_
      refine sX_iload_n (i := 3) (by decide +kernel) rfl ?_
      refine sX_iconst (n := 1) (v := (1 : Int32)) (by decide +kernel) (by decide) ?_
      refine sX_iadd (by decide +kernel) ?_
      refine sX_sld (by decide +kernel) (fun x63 => ?_)
      refine sX_aload_n (i := 0) (by decide +kernel) rfl ?_
      refine sX_iload_n (i := 3) (by decide +kernel) rfl ?_
      refine sX_iconst (n := 2) (v := (2 : Int32)) (by decide +kernel) (by decide) ?_
      refine sX_iadd (by decide +kernel) ?_
      refine sX_sld (by decide +kernel) (fun x64 => ?_)
      refine sX_callV (As := [.int x63, .int x64]) (by decide +kernel) lm_L_95 mf_X11_closings mi_X11_closings mc_11 (m_X11_closings G l v1 x63 x64 M) (fun _ h => sRc_some h) (by decide) rfl rfl (Nat.le_of_ble_eq_true rfl) (fun x65 M66 _ => ?_)
      refine sX_aload_n (i := 2) (by decide +kernel) rfl ?_
      refine sX_aload_n (i := 0) (by decide +kernel) rfl ?_
      refine sX_iload_n (i := 3) (by decide +kernel) rfl ?_
      refine sX_iconst (n := 1) (v := (1 : Int32)) (by decide +kernel) (by decide) ?_
      refine sX_iadd (by decide +kernel) ?_
      refine sX_sld (by decide +kernel) (fun x67 => ?_)
      refine sX_aload_n (i := 0) (by decide +kernel) rfl ?_
      refine sX_iload_n (i := 3) (by decide +kernel) rfl ?_
      refine sX_iconst (n := 2) (v := (2 : Int32)) (by decide +kernel) (by decide) ?_
      refine sX_iadd (by decide +kernel) ?_
      refine sX_sld (by decide +kernel) (fun x68 => ?_)
      refine sX_callV (As := [.int x67, .int x68]) (by decide +kernel) lm_L_98 mf_X12_closings mi_X12_closings mc_12 (m_X12_closings G l v2 x67 x68 M66) (fun _ h => sRc_some h) (by decide) rfl rfl (Nat.le_of_ble_eq_true rfl) (fun x69 M70 _ => ?_)
      refine sX_iceq (o := 364) (t := 1211) (by decide +kernel) (by decide) (fun _ => ?_) (fun _ => ?_)
      · exact sX.le (xB1211 v3 M70) (sLe_s (sLe_s (sLe_s (sLe_s sLe_e))))
      · refine sX_iconst (n := 0) (v := (0 : Int32)) (by decide +kernel) (by decide) ?_
        refine sX_exit he1 ?_
        exact sX_some (fun h _ => sW_zret (by decide +kernel) rfl (by decide) (hr _ h).1.symm (hr _ h).2.symm)
    have xB911 : ∀ (v3 : Int32) (M : sMem), sX G l 840 yL_law cL_law 4 (some .boolean) M0 r M' 911 [some (.ref sSCR), some (.ref v1), some (.ref v2), some (.int v3)] [] M (f_L_law_B911 G v1 v2 v3 M) K1 := by
      intro v3 M
      unfold f_L_law_B911
      refine sX_aload_n (i := 1) (by decide +kernel) rfl ?_
      refine sX_aload_n (i := 0) (by decide +kernel) rfl ?_
      refine sX_iload_n (i := 3) (by decide +kernel) rfl ?_
      refine sX_iconst (n := 1) (v := (1 : Int32)) (by decide +kernel) (by decide) ?_
      refine sX_iadd (by decide +kernel) ?_
      refine sX_sld (by decide +kernel) (fun x71 => ?_)
      refine sX_aload_n (i := 0) (by decide +kernel) rfl ?_
      refine sX_iload_n (i := 3) (by decide +kernel) rfl ?_
      refine sX_iconst (n := 2) (v := (2 : Int32)) (by decide +kernel) (by decide) ?_
      refine sX_iadd (by decide +kernel) ?_
      refine sX_sld (by decide +kernel) (fun x72 => ?_)
      refine sX_callV (As := [.int x71, .int x72]) (by decide +kernel) lm_L_111 mf_X11_tells mi_X11_tells mc_11 (m_X11_tells G l v1 x71 x72 M) (fun _ h => sRc_some h) (by decide) rfl rfl (Nat.le_of_ble_eq_true rfl) (fun x73 M74 _ => ?_)
      refine sX_aload_n (i := 2) (by decide +kernel) rfl ?_
      refine sX_aload_n (i := 0) (by decide +kernel) rfl ?_
      refine sX_iload_n (i := 3) (by decide +kernel) rfl ?_
      refine sX_iconst (n := 1) (v := (1 : Int32)) (by decide +kernel) (by decide) ?_
      refine sX_iadd (by decide +kernel) ?_
      refine sX_sld (by decide +kernel) (fun x75 => ?_)
      refine sX_aload_n (i := 0) (by decide +kernel) rfl ?_
      refine sX_iload_n (i := 3) (by decide +kernel) rfl ?_
      refine sX_iconst (n := 2) (v := (2 : Int32)) (by decide +kernel) (by decide) ?_
      refine sX_iadd (by decide +kernel) ?_
      refine sX_sld (by decide +kernel) (fun x76 => ?_)
      refine sX_callV (As := [.int x75, .int x76]) (by decide +kernel) lm_L_114 mf_X12_tells mi_X12_tells mc_12 (m_X12_tells G l v2 x75 x76 M74) (fun _ h => sRc_some h) (by decide) rfl rfl (Nat.le_of_ble_eq_true rfl) (fun x77 M78 _ => ?_)
      refine sX_iceq (o := 272) (t := 1211) (by decide +kernel) (by decide) (fun _ => ?_) (fun _ => ?_)
      · exact sX.le (xB1211 v3 M78) (sLe_s (sLe_s (sLe_s (sLe_s sLe_e))))
      · refine sX_iconst (n := 0) (v := (0 : Int32)) (by decide +kernel) (by decide) ?_
        refine sX_exit he1 ?_
        exact sX_some (fun h _ => sW_zret (by decide +kernel) rfl (by decide) (hr _ h).1.symm (hr _ h).2.symm)
    have xB977 : ∀ (v3 : Int32) (M : sMem), sX G l 840 yL_law cL_law 4 (some .boolean) M0 r M' 977 [some (.ref sSCR), some (.ref v1), some (.ref v2), some (.int v3)] [] M (f_L_law_B977 G v1 v2 v3 M) K1 := by
      intro v3 M
      unfold f_L_law_B977
      refine sX_aload_n (i := 1) (by decide +kernel) rfl ?_
      refine sX_aload_n (i := 0) (by decide +kernel) rfl ?_
      refine sX_iload_n (i := 3) (by decide +kernel) rfl ?_
      refine sX_iconst (n := 1) (v := (1 : Int32)) (by decide +kernel) (by decide) ?_
      refine sX_iadd (by decide +kernel) ?_
      refine sX_sld (by decide +kernel) (fun x79 => ?_)
      refine sX_aload_n (i := 0) (by decide +kernel) rfl ?_
      refine sX_iload_n (i := 3) (by decide +kernel) rfl ?_
      refine sX_iconst (n := 2) (v := (2 : Int32)) (by decide +kernel) (by decide) ?_
      refine sX_iadd (by decide +kernel) ?_
      refine sX_sld (by decide +kernel) (fun x80 => ?_)
      refine sX_callV (As := [.int x79, .int x80]) (by decide +kernel) lm_L_120 mf_X11_hold mi_X11_hold mc_11 (m_X11_hold G l v1 x79 x80 M) (fun _ h => sRc_some h) (by decide) rfl rfl (Nat.le_of_ble_eq_true rfl) (fun x81 M82 _ => ?_)
      refine sX_aload_n (i := 2) (by decide +kernel) rfl ?_
      refine sX_aload_n (i := 0) (by decide +kernel) rfl ?_
      refine sX_iload_n (i := 3) (by decide +kernel) rfl ?_
      refine sX_iconst (n := 1) (v := (1 : Int32)) (by decide +kernel) (by decide) ?_
      refine sX_iadd (by decide +kernel) ?_
      refine sX_sld (by decide +kernel) (fun x83 => ?_)
      refine sX_aload_n (i := 0) (by decide +kernel) rfl ?_
      refine sX_iload_n (i := 3) (by decide +kernel) rfl ?_
      refine sX_iconst (n := 2) (v := (2 : Int32)) (by decide +kernel) (by decide) ?_
      refine sX_iadd (by decide +kernel) ?_
      refine sX_sld (by decide +kernel) (fun x84 => ?_)
      refine sX_callV (As := [.int x83, .int x84]) (by decide +kernel) lm_L_123 mf_X12_hold mi_X12_hold mc_12 (m_X12_hold G l v2 x83 x84 M82) (fun _ h => sRc_some h) (by decide) rfl rfl (Nat.le_of_ble_eq_true rfl) (fun x85 M86 _ => ?_)
      refine sX_iceq (o := 206) (t := 1211) (by decide +kernel) (by decide) (fun _ => ?_) (fun _ => ?_)
      · exact sX.le (xB1211 v3 M86) (sLe_s (sLe_s (sLe_s (sLe_s sLe_e))))
      · refine sX_iconst (n := 0) (v := (0 : Int32)) (by decide +kernel) (by decide) ?_
        refine sX_exit he1 ?_
        exact sX_some (fun h _ => sW_zret (by decide +kernel) rfl (by decide) (hr _ h).1.symm (hr _ h).2.symm)
    have xB1043 : ∀ (v3 : Int32) (M : sMem), sX G l 840 yL_law cL_law 4 (some .boolean) M0 r M' 1043 [some (.ref sSCR), some (.ref v1), some (.ref v2), some (.int v3)] [] M (f_L_law_B1043 G v1 v2 v3 M) K1 := by
      intro v3 M
      unfold f_L_law_B1043
      refine sX_aload_n (i := 1) (by decide +kernel) rfl ?_
      refine sX_aload_n (i := 0) (by decide +kernel) rfl ?_
      refine sX_iload_n (i := 3) (by decide +kernel) rfl ?_
      refine sX_iconst (n := 1) (v := (1 : Int32)) (by decide +kernel) (by decide) ?_
      refine sX_iadd (by decide +kernel) ?_
      refine sX_sld (by decide +kernel) (fun x87 => ?_)
      refine sX_callV (As := [.int x87]) (by decide +kernel) lm_L_128 mf_X11_days mi_X11_days mc_11 (m_X11_days G l v1 x87 M) (fun _ h => sRc_some h) (by decide) rfl rfl (Nat.le_of_ble_eq_true rfl) (fun x88 M89 _ => ?_)
      refine sX_aload_n (i := 2) (by decide +kernel) rfl ?_
      refine sX_aload_n (i := 0) (by decide +kernel) rfl ?_
      refine sX_iload_n (i := 3) (by decide +kernel) rfl ?_
      refine sX_iconst (n := 1) (v := (1 : Int32)) (by decide +kernel) (by decide) ?_
      refine sX_iadd (by decide +kernel) ?_
      refine sX_sld (by decide +kernel) (fun x90 => ?_)
      refine sX_callV (As := [.int x90]) (by decide +kernel) lm_L_131 mf_X12_days mi_X12_days mc_12 (m_X12_days G l v2 x90 M89) (fun _ h => sRc_some h) (by decide) rfl rfl (Nat.le_of_ble_eq_true rfl) (fun x91 M92 _ => ?_)
      refine sX_iceq (o := 150) (t := 1211) (by decide +kernel) (by decide) (fun _ => ?_) (fun _ => ?_)
      · exact sX.le (xB1211 v3 M92) (sLe_s (sLe_s (sLe_s (sLe_s sLe_e))))
      · refine sX_iconst (n := 0) (v := (0 : Int32)) (by decide +kernel) (by decide) ?_
        refine sX_exit he1 ?_
        exact sX_some (fun h _ => sW_zret (by decide +kernel) rfl (by decide) (hr _ h).1.symm (hr _ h).2.symm)
    have xB1125 : ∀ (v3 : Int32) (M : sMem), sX G l 840 yL_law cL_law 4 (some .boolean) M0 r M' 1125 [some (.ref sSCR), some (.ref v1), some (.ref v2), some (.int v3)] [] M (f_L_law_B1125 G v1 v2 v3 M) K1 := by
      intro v3 M
      unfold f_L_law_B1125
      refine sX_aload_n (i := 1) (by decide +kernel) rfl ?_
      refine sX_callV (As := []) (by decide +kernel) lm_L_145 mf_X11_ask mi_X11_ask mc_11 (m_X11_ask G l v1 M) (fun _ h => sRc_some h) (by decide) rfl rfl (Nat.le_of_ble_eq_true rfl) (fun x93 M94 _ => ?_)
      refine sX_aload_n (i := 2) (by decide +kernel) rfl ?_
      refine sX_callV (As := []) (by decide +kernel) lm_L_149 mf_X12_ask mi_X12_ask mc_12 (m_X12_ask G l v2 M94) (fun _ h => sRc_some h) (by decide) rfl rfl (Nat.le_of_ble_eq_true rfl) (fun x95 M96 _ => ?_)
      refine sX_lceq (o := 77) (t := 1211) (by decide +kernel) (by decide +kernel) (by decide) (fun _ => ?_) (fun _ => ?_)
      · exact sX.le (xB1211 v3 M96) (sLe_s (sLe_s (sLe_s (sLe_s sLe_e))))
      · refine sX_iconst (n := 0) (v := (0 : Int32)) (by decide +kernel) (by decide) ?_
        refine sX_exit he1 ?_
        exact sX_some (fun h _ => sW_zret (by decide +kernel) rfl (by decide) (hr _ h).1.symm (hr _ h).2.symm)
    have xK18 : ∀ (v3 : Int32) (M : sMem), sX G l 840 yL_law cL_law 4 (some .boolean) M0 r M' 18 [some (.ref sSCR), some (.ref v1), some (.ref v2), some (.int v3)] [] M (f_L_law_K18 G v1 v2 v3 M) K1 := by
      intro v3 M
      unfold f_L_law_K18
      refine sX_iload_n (i := 3) (by decide +kernel) rfl ?_
      refine sX_aload_n (i := 0) (by decide +kernel) rfl ?_
      refine sX_slen (by decide +kernel) ?_
      refine sX_bipush (n := 6) (v := (6 : Int32)) (by decide +kernel) (by decide) ?_
      refine sX_isub (by decide +kernel) ?_
      refine sX_icgt (o := 1193) (t := 1217) (by decide +kernel) (by decide) (fun _ => ?_) (fun _ => ?_)
      · refine sX_iconst (n := 1) (v := (1 : Int32)) (by decide +kernel) (by decide) ?_
        refine sX_exit he1 ?_
        exact sX_some (fun h _ => sW_zret (by decide +kernel) rfl (by decide) (hr _ h).1.symm (hr _ h).2.symm)
      · refine sX_aload_n (i := 0) (by decide +kernel) rfl ?_
        refine sX_iload_n (i := 3) (by decide +kernel) rfl ?_
        refine sX_sld (by decide +kernel) (fun x97 => ?_)
        refine sX_bipush (n := 63) (v := (63 : Int32)) (by decide +kernel) (by decide) ?_
        refine sX_iand (by decide +kernel) ?_
        refine sX_if (fun hx => ?_) (fun n0 => ?_)
        · refine sX_tin (n := (0 : Int32)) (t := 192) (off := 159) (dflt := 1178) (lo := 0) (hi := 35) (offs := #[159, 222, 245, 258, 281, 304, 347, 380, 413, 446, 479, 512, 545, 578, 621, 644, 687, 720, 753, 786, 819, 832, 845, 878, 911, 944, 977, 1010, 1033, 1056, 1069, 1092, 1106, 1119, 1142, 1155]) (len := 159) (by decide +kernel) hx (by decide) (by decide) (by decide) (by decide) ?_
          refine sX_aload_n (i := 1) (by decide +kernel) rfl ?_
          refine sX_aload_n (i := 0) (by decide +kernel) rfl ?_
          refine sX_iload_n (i := 3) (by decide +kernel) rfl ?_
          refine sX_iconst (n := 1) (v := (1 : Int32)) (by decide +kernel) (by decide) ?_
          refine sX_iadd (by decide +kernel) ?_
          refine sX_sld (by decide +kernel) (fun x222 => ?_)
          refine sX_aload_n (i := 0) (by decide +kernel) rfl ?_
          refine sX_iload_n (i := 3) (by decide +kernel) rfl ?_
          refine sX_iconst (n := 2) (v := (2 : Int32)) (by decide +kernel) (by decide) ?_
          refine sX_iadd (by decide +kernel) ?_
          refine sX_sld (by decide +kernel) (fun x223 => ?_)
          refine sX_aload_n (i := 0) (by decide +kernel) rfl ?_
          refine sX_iload_n (i := 3) (by decide +kernel) rfl ?_
          refine sX_iconst (n := 3) (v := (3 : Int32)) (by decide +kernel) (by decide) ?_
          refine sX_iadd (by decide +kernel) ?_
          refine sX_sld (by decide +kernel) (fun x224 => ?_)
          refine sX_aload_n (i := 0) (by decide +kernel) rfl ?_
          refine sX_iload_n (i := 3) (by decide +kernel) rfl ?_
          refine sX_iconst (n := 4) (v := (4 : Int32)) (by decide +kernel) (by decide) ?_
          refine sX_iadd (by decide +kernel) ?_
          refine sX_sld (by decide +kernel) (fun x225 => ?_)
          refine sX_aload_n (i := 0) (by decide +kernel) rfl ?_
          refine sX_iload_n (i := 3) (by decide +kernel) rfl ?_
          refine sX_iconst (n := 5) (v := (5 : Int32)) (by decide +kernel) (by decide) ?_
          refine sX_iadd (by decide +kernel) ?_
          refine sX_sld (by decide +kernel) (fun x226 => ?_)
          refine sX_callV (As := [.int x222, .int x223, .int x224, .int x225, .int x226]) (by decide +kernel) lm_L_13 mf_X11_feed mi_X11_feed mc_11 (m_X11_feed G l v1 x222 x223 x224 x225 x226 M) (fun _ h => sRc_some h) (by decide) rfl rfl (Nat.le_of_ble_eq_true rfl) (fun x227 M228 _ => ?_)
          refine sX_aload_n (i := 2) (by decide +kernel) rfl ?_
          refine sX_aload_n (i := 0) (by decide +kernel) rfl ?_
          refine sX_iload_n (i := 3) (by decide +kernel) rfl ?_
          refine sX_iconst (n := 1) (v := (1 : Int32)) (by decide +kernel) (by decide) ?_
          refine sX_iadd (by decide +kernel) ?_
          refine sX_sld (by decide +kernel) (fun x229 => ?_)
          refine sX_aload_n (i := 0) (by decide +kernel) rfl ?_
          refine sX_iload_n (i := 3) (by decide +kernel) rfl ?_
          refine sX_iconst (n := 2) (v := (2 : Int32)) (by decide +kernel) (by decide) ?_
          refine sX_iadd (by decide +kernel) ?_
          refine sX_sld (by decide +kernel) (fun x230 => ?_)
          refine sX_aload_n (i := 0) (by decide +kernel) rfl ?_
          refine sX_iload_n (i := 3) (by decide +kernel) rfl ?_
          refine sX_iconst (n := 3) (v := (3 : Int32)) (by decide +kernel) (by decide) ?_
          refine sX_iadd (by decide +kernel) ?_
          refine sX_sld (by decide +kernel) (fun x231 => ?_)
          refine sX_aload_n (i := 0) (by decide +kernel) rfl ?_
          refine sX_iload_n (i := 3) (by decide +kernel) rfl ?_
          refine sX_iconst (n := 4) (v := (4 : Int32)) (by decide +kernel) (by decide) ?_
          refine sX_iadd (by decide +kernel) ?_
          refine sX_sld (by decide +kernel) (fun x232 => ?_)
          refine sX_aload_n (i := 0) (by decide +kernel) rfl ?_
          refine sX_iload_n (i := 3) (by decide +kernel) rfl ?_
          refine sX_iconst (n := 5) (v := (5 : Int32)) (by decide +kernel) (by decide) ?_
          refine sX_iadd (by decide +kernel) ?_
          refine sX_sld (by decide +kernel) (fun x233 => ?_)
          refine sX_callV (As := [.int x229, .int x230, .int x231, .int x232, .int x233]) (by decide +kernel) lm_L_17 mf_X12_feed mi_X12_feed mc_12 (m_X12_feed G l v2 x229 x230 x231 x232 x233 M228) (fun _ h => sRc_some h) (by decide) rfl rfl (Nat.le_of_ble_eq_true rfl) (fun x234 M235 _ => ?_)
          refine sX_iceq (o := 961) (t := 1211) (by decide +kernel) (by decide) (fun _ => ?_) (fun _ => ?_)
          · exact sX.le (xB1211 v3 M235) (sLe_s (sLe_s (sLe_s (sLe_s sLe_e))))
          · refine sX_iconst (n := 0) (v := (0 : Int32)) (by decide +kernel) (by decide) ?_
            refine sX_exit he1 ?_
            exact sX_some (fun h _ => sW_zret (by decide +kernel) rfl (by decide) (hr _ h).1.symm (hr _ h).2.symm)
        · refine sX_if (fun hx => ?_) (fun n1 => ?_)
          · refine sX_tin (n := (1 : Int32)) (t := 255) (off := 222) (dflt := 1178) (lo := 0) (hi := 35) (offs := #[159, 222, 245, 258, 281, 304, 347, 380, 413, 446, 479, 512, 545, 578, 621, 644, 687, 720, 753, 786, 819, 832, 845, 878, 911, 944, 977, 1010, 1033, 1056, 1069, 1092, 1106, 1119, 1142, 1155]) (len := 159) (by decide +kernel) hx (by decide) (by decide) (by decide) (by decide) ?_
            exact sX.le (xB255 v3 M) (sLe_s (sLe_s (sLe_s (sLe_s sLe_e))))
          · refine sX_if (fun hx => ?_) (fun n2 => ?_)
            · refine sX_tin (n := (2 : Int32)) (t := 278) (off := 245) (dflt := 1178) (lo := 0) (hi := 35) (offs := #[159, 222, 245, 258, 281, 304, 347, 380, 413, 446, 479, 512, 545, 578, 621, 644, 687, 720, 753, 786, 819, 832, 845, 878, 911, 944, 977, 1010, 1033, 1056, 1069, 1092, 1106, 1119, 1142, 1155]) (len := 159) (by decide +kernel) hx (by decide) (by decide) (by decide) (by decide) ?_
              refine sX_aload_n (i := 1) (by decide +kernel) rfl ?_
              refine sX_callV (As := []) (by decide +kernel) lm_L_23 mf_X11_district mi_X11_district mc_11 (m_X11_district G l v1 M) (fun _ h => sRc_some h) (by decide) rfl rfl (Nat.le_of_ble_eq_true rfl) (fun x218 M219 _ => ?_)
              refine sX_aload_n (i := 2) (by decide +kernel) rfl ?_
              refine sX_callV (As := []) (by decide +kernel) lm_L_27 mf_X12_district mi_X12_district mc_12 (m_X12_district G l v2 M219) (fun _ h => sRc_some h) (by decide) rfl rfl (Nat.le_of_ble_eq_true rfl) (fun x220 M221 _ => ?_)
              refine sX_iceq (o := 925) (t := 1211) (by decide +kernel) (by decide) (fun _ => ?_) (fun _ => ?_)
              · exact sX.le (xB1211 v3 M221) (sLe_s (sLe_s (sLe_s (sLe_s sLe_e))))
              · refine sX_iconst (n := 0) (v := (0 : Int32)) (by decide +kernel) (by decide) ?_
                refine sX_exit he1 ?_
                exact sX_some (fun h _ => sW_zret (by decide +kernel) rfl (by decide) (hr _ h).1.symm (hr _ h).2.symm)
            · refine sX_if (fun hx => ?_) (fun n3 => ?_)
              · refine sX_tin (n := (3 : Int32)) (t := 291) (off := 258) (dflt := 1178) (lo := 0) (hi := 35) (offs := #[159, 222, 245, 258, 281, 304, 347, 380, 413, 446, 479, 512, 545, 578, 621, 644, 687, 720, 753, 786, 819, 832, 845, 878, 911, 944, 977, 1010, 1033, 1056, 1069, 1092, 1106, 1119, 1142, 1155]) (len := 159) (by decide +kernel) hx (by decide) (by decide) (by decide) (by decide) ?_
                refine sX_aload_n (i := 1) (by decide +kernel) rfl ?_
                refine sX_aload_n (i := 0) (by decide +kernel) rfl ?_
                refine sX_iload_n (i := 3) (by decide +kernel) rfl ?_
                refine sX_iconst (n := 1) (v := (1 : Int32)) (by decide +kernel) (by decide) ?_
                refine sX_iadd (by decide +kernel) ?_
                refine sX_sld (by decide +kernel) (fun x214 => ?_)
                refine sX_callVp (As := [.int x214]) (by decide +kernel) lm_L_28 mf_X11_fault mi_X11_fault mc_11 (m_X11_fault G l v1 x214 M) (fun _ h => sRc_some h) (by decide) rfl rfl (Nat.le_of_ble_eq_true rfl) (fun x215 => ?_)
                refine sX_aload_n (i := 2) (by decide +kernel) rfl ?_
                refine sX_aload_n (i := 0) (by decide +kernel) rfl ?_
                refine sX_iload_n (i := 3) (by decide +kernel) rfl ?_
                refine sX_iconst (n := 1) (v := (1 : Int32)) (by decide +kernel) (by decide) ?_
                refine sX_iadd (by decide +kernel) ?_
                refine sX_sld (by decide +kernel) (fun x216 => ?_)
                refine sX_callVp (As := [.int x216]) (by decide +kernel) lm_L_32 mf_X12_fault mi_X12_fault mc_12 (m_X12_fault G l v2 x216 M) (fun _ h => sRc_some h) (by decide) rfl rfl (Nat.le_of_ble_eq_true rfl) (fun x217 => ?_)
                refine sX_iceq (o := 902) (t := 1211) (by decide +kernel) (by decide) (fun _ => ?_) (fun _ => ?_)
                · exact sX.le (xB1211 v3 M) (sLe_s (sLe_s (sLe_s (sLe_s sLe_e))))
                · refine sX_iconst (n := 0) (v := (0 : Int32)) (by decide +kernel) (by decide) ?_
                  refine sX_exit he1 ?_
                  exact sX_some (fun h _ => sW_zret (by decide +kernel) rfl (by decide) (hr _ h).1.symm (hr _ h).2.symm)
              · refine sX_if (fun hx => ?_) (fun n4 => ?_)
                · refine sX_tin (n := (4 : Int32)) (t := 314) (off := 281) (dflt := 1178) (lo := 0) (hi := 35) (offs := #[159, 222, 245, 258, 281, 304, 347, 380, 413, 446, 479, 512, 545, 578, 621, 644, 687, 720, 753, 786, 819, 832, 845, 878, 911, 944, 977, 1010, 1033, 1056, 1069, 1092, 1106, 1119, 1142, 1155]) (len := 159) (by decide +kernel) hx (by decide) (by decide) (by decide) (by decide) ?_
                  refine sX_aload_n (i := 1) (by decide +kernel) rfl ?_
                  refine sX_aload_n (i := 0) (by decide +kernel) rfl ?_
                  refine sX_iload_n (i := 3) (by decide +kernel) rfl ?_
                  refine sX_iconst (n := 1) (v := (1 : Int32)) (by decide +kernel) (by decide) ?_
                  refine sX_iadd (by decide +kernel) ?_
                  refine sX_sld (by decide +kernel) (fun x210 => ?_)
                  refine sX_callVp (As := [.int x210]) (by decide +kernel) lm_L_33 mf_X11_has mi_X11_has mc_11 (m_X11_has G l v1 x210 M) (fun _ h => sRc_some h) (by decide) rfl rfl (Nat.le_of_ble_eq_true rfl) (fun x211 => ?_)
                  refine sX_aload_n (i := 2) (by decide +kernel) rfl ?_
                  refine sX_aload_n (i := 0) (by decide +kernel) rfl ?_
                  refine sX_iload_n (i := 3) (by decide +kernel) rfl ?_
                  refine sX_iconst (n := 1) (v := (1 : Int32)) (by decide +kernel) (by decide) ?_
                  refine sX_iadd (by decide +kernel) ?_
                  refine sX_sld (by decide +kernel) (fun x212 => ?_)
                  refine sX_callVp (As := [.int x212]) (by decide +kernel) lm_L_36 mf_X12_has mi_X12_has mc_12 (m_X12_has G l v2 x212 M) (fun _ h => sRc_some h) (by decide) rfl rfl (Nat.le_of_ble_eq_true rfl) (fun x213 => ?_)
                  refine sX_iceq (o := 879) (t := 1211) (by decide +kernel) (by decide) (fun _ => ?_) (fun _ => ?_)
                  · exact sX.le (xB1211 v3 M) (sLe_s (sLe_s (sLe_s (sLe_s sLe_e))))
                  · refine sX_iconst (n := 0) (v := (0 : Int32)) (by decide +kernel) (by decide) ?_
                    refine sX_exit he1 ?_
                    exact sX_some (fun h _ => sW_zret (by decide +kernel) rfl (by decide) (hr _ h).1.symm (hr _ h).2.symm)
                · refine sX_if (fun hx => ?_) (fun n5 => ?_)
                  · refine sX_tin (n := (5 : Int32)) (t := 337) (off := 304) (dflt := 1178) (lo := 0) (hi := 35) (offs := #[159, 222, 245, 258, 281, 304, 347, 380, 413, 446, 479, 512, 545, 578, 621, 644, 687, 720, 753, 786, 819, 832, 845, 878, 911, 944, 977, 1010, 1033, 1056, 1069, 1092, 1106, 1119, 1142, 1155]) (len := 159) (by decide +kernel) hx (by decide) (by decide) (by decide) (by decide) ?_
                    exact sX.le (xB337 v3 M) (sLe_s (sLe_s (sLe_s (sLe_s sLe_e))))
                  · refine sX_if (fun hx => ?_) (fun n6 => ?_)
                    · refine sX_tin (n := (6 : Int32)) (t := 380) (off := 347) (dflt := 1178) (lo := 0) (hi := 35) (offs := #[159, 222, 245, 258, 281, 304, 347, 380, 413, 446, 479, 512, 545, 578, 621, 644, 687, 720, 753, 786, 819, 832, 845, 878, 911, 944, 977, 1010, 1033, 1056, 1069, 1092, 1106, 1119, 1142, 1155]) (len := 159) (by decide +kernel) hx (by decide) (by decide) (by decide) (by decide) ?_
                      refine sX_aload_n (i := 1) (by decide +kernel) rfl ?_
                      refine sX_aload_n (i := 0) (by decide +kernel) rfl ?_
                      refine sX_iload_n (i := 3) (by decide +kernel) rfl ?_
                      refine sX_iconst (n := 1) (v := (1 : Int32)) (by decide +kernel) (by decide) ?_
                      refine sX_iadd (by decide +kernel) ?_
                      refine sX_sld (by decide +kernel) (fun x204 => ?_)
                      refine sX_aload_n (i := 0) (by decide +kernel) rfl ?_
                      refine sX_iload_n (i := 3) (by decide +kernel) rfl ?_
                      refine sX_iconst (n := 2) (v := (2 : Int32)) (by decide +kernel) (by decide) ?_
                      refine sX_iadd (by decide +kernel) ?_
                      refine sX_sld (by decide +kernel) (fun x205 => ?_)
                      refine sX_callVp (As := [.int x204, .int x205]) (by decide +kernel) lm_L_42 mf_X11_gate mi_X11_gate mc_11 (m_X11_gate G l v1 x204 x205 M) (fun _ h => sRc_some h) (by decide) rfl rfl (Nat.le_of_ble_eq_true rfl) (fun x206 => ?_)
                      refine sX_aload_n (i := 2) (by decide +kernel) rfl ?_
                      refine sX_aload_n (i := 0) (by decide +kernel) rfl ?_
                      refine sX_iload_n (i := 3) (by decide +kernel) rfl ?_
                      refine sX_iconst (n := 1) (v := (1 : Int32)) (by decide +kernel) (by decide) ?_
                      refine sX_iadd (by decide +kernel) ?_
                      refine sX_sld (by decide +kernel) (fun x207 => ?_)
                      refine sX_aload_n (i := 0) (by decide +kernel) rfl ?_
                      refine sX_iload_n (i := 3) (by decide +kernel) rfl ?_
                      refine sX_iconst (n := 2) (v := (2 : Int32)) (by decide +kernel) (by decide) ?_
                      refine sX_iadd (by decide +kernel) ?_
                      refine sX_sld (by decide +kernel) (fun x208 => ?_)
                      refine sX_callVp (As := [.int x207, .int x208]) (by decide +kernel) lm_L_46 mf_X12_gate mi_X12_gate mc_12 (m_X12_gate G l v2 x207 x208 M) (fun _ h => sRc_some h) (by decide) rfl rfl (Nat.le_of_ble_eq_true rfl) (fun x209 => ?_)
                      refine sX_iceq (o := 803) (t := 1211) (by decide +kernel) (by decide) (fun _ => ?_) (fun _ => ?_)
                      · exact sX.le (xB1211 v3 M) (sLe_s (sLe_s (sLe_s (sLe_s sLe_e))))
                      · refine sX_iconst (n := 0) (v := (0 : Int32)) (by decide +kernel) (by decide) ?_
                        refine sX_exit he1 ?_
                        exact sX_some (fun h _ => sW_zret (by decide +kernel) rfl (by decide) (hr _ h).1.symm (hr _ h).2.symm)
                    · refine sX_if (fun hx => ?_) (fun n7 => ?_)
                      · refine sX_tin (n := (7 : Int32)) (t := 413) (off := 380) (dflt := 1178) (lo := 0) (hi := 35) (offs := #[159, 222, 245, 258, 281, 304, 347, 380, 413, 446, 479, 512, 545, 578, 621, 644, 687, 720, 753, 786, 819, 832, 845, 878, 911, 944, 977, 1010, 1033, 1056, 1069, 1092, 1106, 1119, 1142, 1155]) (len := 159) (by decide +kernel) hx (by decide) (by decide) (by decide) (by decide) ?_
                        exact sX.le (xB413 v3 M) (sLe_s (sLe_s (sLe_s (sLe_s sLe_e))))
                      · refine sX_if (fun hx => ?_) (fun n8 => ?_)
                        · refine sX_tin (n := (8 : Int32)) (t := 446) (off := 413) (dflt := 1178) (lo := 0) (hi := 35) (offs := #[159, 222, 245, 258, 281, 304, 347, 380, 413, 446, 479, 512, 545, 578, 621, 644, 687, 720, 753, 786, 819, 832, 845, 878, 911, 944, 977, 1010, 1033, 1056, 1069, 1092, 1106, 1119, 1142, 1155]) (len := 159) (by decide +kernel) hx (by decide) (by decide) (by decide) (by decide) ?_
                          refine sX_aload_n (i := 1) (by decide +kernel) rfl ?_
                          refine sX_aload_n (i := 0) (by decide +kernel) rfl ?_
                          refine sX_iload_n (i := 3) (by decide +kernel) rfl ?_
                          refine sX_iconst (n := 1) (v := (1 : Int32)) (by decide +kernel) (by decide) ?_
                          refine sX_iadd (by decide +kernel) ?_
                          refine sX_sld (by decide +kernel) (fun x198 => ?_)
                          refine sX_aload_n (i := 0) (by decide +kernel) rfl ?_
                          refine sX_iload_n (i := 3) (by decide +kernel) rfl ?_
                          refine sX_iconst (n := 2) (v := (2 : Int32)) (by decide +kernel) (by decide) ?_
                          refine sX_iadd (by decide +kernel) ?_
                          refine sX_sld (by decide +kernel) (fun x199 => ?_)
                          refine sX_callVp (As := [.int x198, .int x199]) (by decide +kernel) lm_L_51 mf_X11_car mi_X11_car mc_11 (m_X11_car G l v1 x198 x199 M) (fun _ h => sRc_some h) (by decide) rfl rfl (Nat.le_of_ble_eq_true rfl) (fun x200 => ?_)
                          refine sX_aload_n (i := 2) (by decide +kernel) rfl ?_
                          refine sX_aload_n (i := 0) (by decide +kernel) rfl ?_
                          refine sX_iload_n (i := 3) (by decide +kernel) rfl ?_
                          refine sX_iconst (n := 1) (v := (1 : Int32)) (by decide +kernel) (by decide) ?_
                          refine sX_iadd (by decide +kernel) ?_
                          refine sX_sld (by decide +kernel) (fun x201 => ?_)
                          refine sX_aload_n (i := 0) (by decide +kernel) rfl ?_
                          refine sX_iload_n (i := 3) (by decide +kernel) rfl ?_
                          refine sX_iconst (n := 2) (v := (2 : Int32)) (by decide +kernel) (by decide) ?_
                          refine sX_iadd (by decide +kernel) ?_
                          refine sX_sld (by decide +kernel) (fun x202 => ?_)
                          refine sX_callVp (As := [.int x201, .int x202]) (by decide +kernel) lm_L_54 mf_X12_car mi_X12_car mc_12 (m_X12_car G l v2 x201 x202 M) (fun _ h => sRc_some h) (by decide) rfl rfl (Nat.le_of_ble_eq_true rfl) (fun x203 => ?_)
                          refine sX_iceq (o := 737) (t := 1211) (by decide +kernel) (by decide) (fun _ => ?_) (fun _ => ?_)
                          · exact sX.le (xB1211 v3 M) (sLe_s (sLe_s (sLe_s (sLe_s sLe_e))))
                          · refine sX_iconst (n := 0) (v := (0 : Int32)) (by decide +kernel) (by decide) ?_
                            refine sX_exit he1 ?_
                            exact sX_some (fun h _ => sW_zret (by decide +kernel) rfl (by decide) (hr _ h).1.symm (hr _ h).2.symm)
                        · refine sX_if (fun hx => ?_) (fun n9 => ?_)
                          · refine sX_tin (n := (9 : Int32)) (t := 479) (off := 446) (dflt := 1178) (lo := 0) (hi := 35) (offs := #[159, 222, 245, 258, 281, 304, 347, 380, 413, 446, 479, 512, 545, 578, 621, 644, 687, 720, 753, 786, 819, 832, 845, 878, 911, 944, 977, 1010, 1033, 1056, 1069, 1092, 1106, 1119, 1142, 1155]) (len := 159) (by decide +kernel) hx (by decide) (by decide) (by decide) (by decide) ?_
                            exact sX.le (xB479 v3 M) (sLe_s (sLe_s (sLe_s (sLe_s sLe_e))))
                          · refine sX_if (fun hx => ?_) (fun n10 => ?_)
                            · refine sX_tin (n := (10 : Int32)) (t := 512) (off := 479) (dflt := 1178) (lo := 0) (hi := 35) (offs := #[159, 222, 245, 258, 281, 304, 347, 380, 413, 446, 479, 512, 545, 578, 621, 644, 687, 720, 753, 786, 819, 832, 845, 878, 911, 944, 977, 1010, 1033, 1056, 1069, 1092, 1106, 1119, 1142, 1155]) (len := 159) (by decide +kernel) hx (by decide) (by decide) (by decide) (by decide) ?_
                              refine sX_aload_n (i := 1) (by decide +kernel) rfl ?_
                              refine sX_aload_n (i := 0) (by decide +kernel) rfl ?_
                              refine sX_iload_n (i := 3) (by decide +kernel) rfl ?_
                              refine sX_iconst (n := 1) (v := (1 : Int32)) (by decide +kernel) (by decide) ?_
                              refine sX_iadd (by decide +kernel) ?_
                              refine sX_sld (by decide +kernel) (fun x192 => ?_)
                              refine sX_aload_n (i := 0) (by decide +kernel) rfl ?_
                              refine sX_iload_n (i := 3) (by decide +kernel) rfl ?_
                              refine sX_iconst (n := 2) (v := (2 : Int32)) (by decide +kernel) (by decide) ?_
                              refine sX_iadd (by decide +kernel) ?_
                              refine sX_sld (by decide +kernel) (fun x193 => ?_)
                              refine sX_callVp (As := [.int x192, .int x193]) (by decide +kernel) lm_L_59 mf_X11_head mi_X11_head mc_11 (m_X11_head G l v1 x192 x193 M) (fun _ h => sRc_some h) (by decide) rfl rfl (Nat.le_of_ble_eq_true rfl) (fun x194 => ?_)
                              refine sX_aload_n (i := 2) (by decide +kernel) rfl ?_
                              refine sX_aload_n (i := 0) (by decide +kernel) rfl ?_
                              refine sX_iload_n (i := 3) (by decide +kernel) rfl ?_
                              refine sX_iconst (n := 1) (v := (1 : Int32)) (by decide +kernel) (by decide) ?_
                              refine sX_iadd (by decide +kernel) ?_
                              refine sX_sld (by decide +kernel) (fun x195 => ?_)
                              refine sX_aload_n (i := 0) (by decide +kernel) rfl ?_
                              refine sX_iload_n (i := 3) (by decide +kernel) rfl ?_
                              refine sX_iconst (n := 2) (v := (2 : Int32)) (by decide +kernel) (by decide) ?_
                              refine sX_iadd (by decide +kernel) ?_
                              refine sX_sld (by decide +kernel) (fun x196 => ?_)
                              refine sX_callVp (As := [.int x195, .int x196]) (by decide +kernel) lm_L_62 mf_X12_head mi_X12_head mc_12 (m_X12_head G l v2 x195 x196 M) (fun _ h => sRc_some h) (by decide) rfl rfl (Nat.le_of_ble_eq_true rfl) (fun x197 => ?_)
                              refine sX_iceq (o := 671) (t := 1211) (by decide +kernel) (by decide) (fun _ => ?_) (fun _ => ?_)
                              · exact sX.le (xB1211 v3 M) (sLe_s (sLe_s (sLe_s (sLe_s sLe_e))))
                              · refine sX_iconst (n := 0) (v := (0 : Int32)) (by decide +kernel) (by decide) ?_
                                refine sX_exit he1 ?_
                                exact sX_some (fun h _ => sW_zret (by decide +kernel) rfl (by decide) (hr _ h).1.symm (hr _ h).2.symm)
                            · refine sX_if (fun hx => ?_) (fun n11 => ?_)
                              · refine sX_tin (n := (11 : Int32)) (t := 545) (off := 512) (dflt := 1178) (lo := 0) (hi := 35) (offs := #[159, 222, 245, 258, 281, 304, 347, 380, 413, 446, 479, 512, 545, 578, 621, 644, 687, 720, 753, 786, 819, 832, 845, 878, 911, 944, 977, 1010, 1033, 1056, 1069, 1092, 1106, 1119, 1142, 1155]) (len := 159) (by decide +kernel) hx (by decide) (by decide) (by decide) (by decide) ?_
                                exact sX.le (xB545 v3 M) (sLe_s (sLe_s (sLe_s (sLe_s sLe_e))))
                              · refine sX_if (fun hx => ?_) (fun n12 => ?_)
                                · refine sX_tin (n := (12 : Int32)) (t := 578) (off := 545) (dflt := 1178) (lo := 0) (hi := 35) (offs := #[159, 222, 245, 258, 281, 304, 347, 380, 413, 446, 479, 512, 545, 578, 621, 644, 687, 720, 753, 786, 819, 832, 845, 878, 911, 944, 977, 1010, 1033, 1056, 1069, 1092, 1106, 1119, 1142, 1155]) (len := 159) (by decide +kernel) hx (by decide) (by decide) (by decide) (by decide) ?_
                                  refine sX_aload_n (i := 1) (by decide +kernel) rfl ?_
                                  refine sX_aload_n (i := 0) (by decide +kernel) rfl ?_
                                  refine sX_iload_n (i := 3) (by decide +kernel) rfl ?_
                                  refine sX_iconst (n := 1) (v := (1 : Int32)) (by decide +kernel) (by decide) ?_
                                  refine sX_iadd (by decide +kernel) ?_
                                  refine sX_sld (by decide +kernel) (fun x184 => ?_)
                                  refine sX_aload_n (i := 0) (by decide +kernel) rfl ?_
                                  refine sX_iload_n (i := 3) (by decide +kernel) rfl ?_
                                  refine sX_iconst (n := 2) (v := (2 : Int32)) (by decide +kernel) (by decide) ?_
                                  refine sX_iadd (by decide +kernel) ?_
                                  refine sX_sld (by decide +kernel) (fun x185 => ?_)
                                  refine sX_callV (As := [.int x184, .int x185]) (by decide +kernel) lm_L_67 mf_X11_opens mi_X11_opens mc_11 (m_X11_opens G l v1 x184 x185 M) (fun _ h => sRc_some h) (by decide) rfl rfl (Nat.le_of_ble_eq_true rfl) (fun x186 M187 _ => ?_)
                                  refine sX_aload_n (i := 2) (by decide +kernel) rfl ?_
                                  refine sX_aload_n (i := 0) (by decide +kernel) rfl ?_
                                  refine sX_iload_n (i := 3) (by decide +kernel) rfl ?_
                                  refine sX_iconst (n := 1) (v := (1 : Int32)) (by decide +kernel) (by decide) ?_
                                  refine sX_iadd (by decide +kernel) ?_
                                  refine sX_sld (by decide +kernel) (fun x188 => ?_)
                                  refine sX_aload_n (i := 0) (by decide +kernel) rfl ?_
                                  refine sX_iload_n (i := 3) (by decide +kernel) rfl ?_
                                  refine sX_iconst (n := 2) (v := (2 : Int32)) (by decide +kernel) (by decide) ?_
                                  refine sX_iadd (by decide +kernel) ?_
                                  refine sX_sld (by decide +kernel) (fun x189 => ?_)
                                  refine sX_callV (As := [.int x188, .int x189]) (by decide +kernel) lm_L_70 mf_X12_opens mi_X12_opens mc_12 (m_X12_opens G l v2 x188 x189 M187) (fun _ h => sRc_some h) (by decide) rfl rfl (Nat.le_of_ble_eq_true rfl) (fun x190 M191 _ => ?_)
                                  refine sX_iceq (o := 605) (t := 1211) (by decide +kernel) (by decide) (fun _ => ?_) (fun _ => ?_)
                                  · exact sX.le (xB1211 v3 M191) (sLe_s (sLe_s (sLe_s (sLe_s sLe_e))))
                                  · refine sX_iconst (n := 0) (v := (0 : Int32)) (by decide +kernel) (by decide) ?_
                                    refine sX_exit he1 ?_
                                    exact sX_some (fun h _ => sW_zret (by decide +kernel) rfl (by decide) (hr _ h).1.symm (hr _ h).2.symm)
                                · refine sX_if (fun hx => ?_) (fun n13 => ?_)
                                  · refine sX_tin (n := (13 : Int32)) (t := 611) (off := 578) (dflt := 1178) (lo := 0) (hi := 35) (offs := #[159, 222, 245, 258, 281, 304, 347, 380, 413, 446, 479, 512, 545, 578, 621, 644, 687, 720, 753, 786, 819, 832, 845, 878, 911, 944, 977, 1010, 1033, 1056, 1069, 1092, 1106, 1119, 1142, 1155]) (len := 159) (by decide +kernel) hx (by decide) (by decide) (by decide) (by decide) ?_
                                    exact sX.le (xB611 v3 M) (sLe_s (sLe_s (sLe_s (sLe_s sLe_e))))
                                  · refine sX_if (fun hx => ?_) (fun n14 => ?_)
                                    · refine sX_tin (n := (14 : Int32)) (t := 654) (off := 621) (dflt := 1178) (lo := 0) (hi := 35) (offs := #[159, 222, 245, 258, 281, 304, 347, 380, 413, 446, 479, 512, 545, 578, 621, 644, 687, 720, 753, 786, 819, 832, 845, 878, 911, 944, 977, 1010, 1033, 1056, 1069, 1092, 1106, 1119, 1142, 1155]) (len := 159) (by decide +kernel) hx (by decide) (by decide) (by decide) (by decide) ?_
                                      refine sX_aload_n (i := 1) (by decide +kernel) rfl ?_
                                      refine sX_aload_n (i := 0) (by decide +kernel) rfl ?_
                                      refine sX_iload_n (i := 3) (by decide +kernel) rfl ?_
                                      refine sX_iconst (n := 1) (v := (1 : Int32)) (by decide +kernel) (by decide) ?_
                                      refine sX_iadd (by decide +kernel) ?_
                                      refine sX_sld (by decide +kernel) (fun x178 => ?_)
                                      refine sX_callV (As := [.int x178]) (by decide +kernel) lm_L_75 mf_X11_waits mi_X11_waits mc_11 (m_X11_waits G l v1 x178 M) (fun _ h => sRc_some h) (by decide) rfl rfl (Nat.le_of_ble_eq_true rfl) (fun x179 M180 _ => ?_)
                                      refine sX_aload_n (i := 2) (by decide +kernel) rfl ?_
                                      refine sX_aload_n (i := 0) (by decide +kernel) rfl ?_
                                      refine sX_iload_n (i := 3) (by decide +kernel) rfl ?_
                                      refine sX_iconst (n := 1) (v := (1 : Int32)) (by decide +kernel) (by decide) ?_
                                      refine sX_iadd (by decide +kernel) ?_
                                      refine sX_sld (by decide +kernel) (fun x181 => ?_)
                                      refine sX_callV (As := [.int x181]) (by decide +kernel) lm_L_78 mf_X12_waits mi_X12_waits mc_12 (m_X12_waits G l v2 x181 M180) (fun _ h => sRc_some h) (by decide) rfl rfl (Nat.le_of_ble_eq_true rfl) (fun x182 M183 _ => ?_)
                                      refine sX_iceq (o := 539) (t := 1211) (by decide +kernel) (by decide) (fun _ => ?_) (fun _ => ?_)
                                      · exact sX.le (xB1211 v3 M183) (sLe_s (sLe_s (sLe_s (sLe_s sLe_e))))
                                      · refine sX_iconst (n := 0) (v := (0 : Int32)) (by decide +kernel) (by decide) ?_
                                        refine sX_exit he1 ?_
                                        exact sX_some (fun h _ => sW_zret (by decide +kernel) rfl (by decide) (hr _ h).1.symm (hr _ h).2.symm)
                                    · refine sX_if (fun hx => ?_) (fun n15 => ?_)
                                      · refine sX_tin (n := (15 : Int32)) (t := 677) (off := 644) (dflt := 1178) (lo := 0) (hi := 35) (offs := #[159, 222, 245, 258, 281, 304, 347, 380, 413, 446, 479, 512, 545, 578, 621, 644, 687, 720, 753, 786, 819, 832, 845, 878, 911, 944, 977, 1010, 1033, 1056, 1069, 1092, 1106, 1119, 1142, 1155]) (len := 159) (by decide +kernel) hx (by decide) (by decide) (by decide) (by decide) ?_
                                        exact sX.le (xB677 v3 M) (sLe_s (sLe_s (sLe_s (sLe_s sLe_e))))
                                      · refine sX_if (fun hx => ?_) (fun n16 => ?_)
                                        · refine sX_tin (n := (16 : Int32)) (t := 720) (off := 687) (dflt := 1178) (lo := 0) (hi := 35) (offs := #[159, 222, 245, 258, 281, 304, 347, 380, 413, 446, 479, 512, 545, 578, 621, 644, 687, 720, 753, 786, 819, 832, 845, 878, 911, 944, 977, 1010, 1033, 1056, 1069, 1092, 1106, 1119, 1142, 1155]) (len := 159) (by decide +kernel) hx (by decide) (by decide) (by decide) (by decide) ?_
                                          refine sX_aload_n (i := 1) (by decide +kernel) rfl ?_
                                          refine sX_aload_n (i := 0) (by decide +kernel) rfl ?_
                                          refine sX_iload_n (i := 3) (by decide +kernel) rfl ?_
                                          refine sX_iconst (n := 1) (v := (1 : Int32)) (by decide +kernel) (by decide) ?_
                                          refine sX_iadd (by decide +kernel) ?_
                                          refine sX_sld (by decide +kernel) (fun x170 => ?_)
                                          refine sX_aload_n (i := 0) (by decide +kernel) rfl ?_
                                          refine sX_iload_n (i := 3) (by decide +kernel) rfl ?_
                                          refine sX_iconst (n := 2) (v := (2 : Int32)) (by decide +kernel) (by decide) ?_
                                          refine sX_iadd (by decide +kernel) ?_
                                          refine sX_sld (by decide +kernel) (fun x171 => ?_)
                                          refine sX_callV (As := [.int x170, .int x171]) (by decide +kernel) lm_L_83 mf_X11_late mi_X11_late mc_11 (m_X11_late G l v1 x170 x171 M) (fun _ h => sRc_some h) (by decide) rfl rfl (Nat.le_of_ble_eq_true rfl) (fun x172 M173 _ => ?_)
                                          refine sX_aload_n (i := 2) (by decide +kernel) rfl ?_
                                          refine sX_aload_n (i := 0) (by decide +kernel) rfl ?_
                                          refine sX_iload_n (i := 3) (by decide +kernel) rfl ?_
                                          refine sX_iconst (n := 1) (v := (1 : Int32)) (by decide +kernel) (by decide) ?_
                                          refine sX_iadd (by decide +kernel) ?_
                                          refine sX_sld (by decide +kernel) (fun x174 => ?_)
                                          refine sX_aload_n (i := 0) (by decide +kernel) rfl ?_
                                          refine sX_iload_n (i := 3) (by decide +kernel) rfl ?_
                                          refine sX_iconst (n := 2) (v := (2 : Int32)) (by decide +kernel) (by decide) ?_
                                          refine sX_iadd (by decide +kernel) ?_
                                          refine sX_sld (by decide +kernel) (fun x175 => ?_)
                                          refine sX_callV (As := [.int x174, .int x175]) (by decide +kernel) lm_L_86 mf_X12_late mi_X12_late mc_12 (m_X12_late G l v2 x174 x175 M173) (fun _ h => sRc_some h) (by decide) rfl rfl (Nat.le_of_ble_eq_true rfl) (fun x176 M177 _ => ?_)
                                          refine sX_iceq (o := 463) (t := 1211) (by decide +kernel) (by decide) (fun _ => ?_) (fun _ => ?_)
                                          · exact sX.le (xB1211 v3 M177) (sLe_s (sLe_s (sLe_s (sLe_s sLe_e))))
                                          · refine sX_iconst (n := 0) (v := (0 : Int32)) (by decide +kernel) (by decide) ?_
                                            refine sX_exit he1 ?_
                                            exact sX_some (fun h _ => sW_zret (by decide +kernel) rfl (by decide) (hr _ h).1.symm (hr _ h).2.symm)
                                        · refine sX_if (fun hx => ?_) (fun n17 => ?_)
                                          · refine sX_tin (n := (17 : Int32)) (t := 753) (off := 720) (dflt := 1178) (lo := 0) (hi := 35) (offs := #[159, 222, 245, 258, 281, 304, 347, 380, 413, 446, 479, 512, 545, 578, 621, 644, 687, 720, 753, 786, 819, 832, 845, 878, 911, 944, 977, 1010, 1033, 1056, 1069, 1092, 1106, 1119, 1142, 1155]) (len := 159) (by decide +kernel) hx (by decide) (by decide) (by decide) (by decide) ?_
                                            exact sX.le (xB753 v3 M) (sLe_s (sLe_s (sLe_s (sLe_s sLe_e))))
                                          · refine sX_if (fun hx => ?_) (fun n18 => ?_)
                                            · refine sX_tin (n := (18 : Int32)) (t := 786) (off := 753) (dflt := 1178) (lo := 0) (hi := 35) (offs := #[159, 222, 245, 258, 281, 304, 347, 380, 413, 446, 479, 512, 545, 578, 621, 644, 687, 720, 753, 786, 819, 832, 845, 878, 911, 944, 977, 1010, 1033, 1056, 1069, 1092, 1106, 1119, 1142, 1155]) (len := 159) (by decide +kernel) hx (by decide) (by decide) (by decide) (by decide) ?_
                                              refine sX_aload_n (i := 1) (by decide +kernel) rfl ?_
                                              refine sX_aload_n (i := 0) (by decide +kernel) rfl ?_
                                              refine sX_iload_n (i := 3) (by decide +kernel) rfl ?_
                                              refine sX_iconst (n := 1) (v := (1 : Int32)) (by decide +kernel) (by decide) ?_
                                              refine sX_iadd (by decide +kernel) ?_
                                              refine sX_sld (by decide +kernel) (fun x162 => ?_)
                                              refine sX_aload_n (i := 0) (by decide +kernel) rfl ?_
                                              refine sX_iload_n (i := 3) (by decide +kernel) rfl ?_
                                              refine sX_iconst (n := 2) (v := (2 : Int32)) (by decide +kernel) (by decide) ?_
                                              refine sX_iadd (by decide +kernel) ?_
                                              refine sX_sld (by decide +kernel) (fun x163 => ?_)
                                              refine sX_callV (As := [.int x162, .int x163]) (by decide +kernel) lm_L_91 mf_X11_leave mi_X11_leave mc_11 (m_X11_leave G l v1 x162 x163 M) (fun _ h => sRc_some h) (by decide) rfl rfl (Nat.le_of_ble_eq_true rfl) (fun x164 M165 _ => ?_)
                                              refine sX_aload_n (i := 2) (by decide +kernel) rfl ?_
                                              refine sX_aload_n (i := 0) (by decide +kernel) rfl ?_
                                              refine sX_iload_n (i := 3) (by decide +kernel) rfl ?_
                                              refine sX_iconst (n := 1) (v := (1 : Int32)) (by decide +kernel) (by decide) ?_
                                              refine sX_iadd (by decide +kernel) ?_
                                              refine sX_sld (by decide +kernel) (fun x166 => ?_)
                                              refine sX_aload_n (i := 0) (by decide +kernel) rfl ?_
                                              refine sX_iload_n (i := 3) (by decide +kernel) rfl ?_
                                              refine sX_iconst (n := 2) (v := (2 : Int32)) (by decide +kernel) (by decide) ?_
                                              refine sX_iadd (by decide +kernel) ?_
                                              refine sX_sld (by decide +kernel) (fun x167 => ?_)
                                              refine sX_callV (As := [.int x166, .int x167]) (by decide +kernel) lm_L_94 mf_X12_leave mi_X12_leave mc_12 (m_X12_leave G l v2 x166 x167 M165) (fun _ h => sRc_some h) (by decide) rfl rfl (Nat.le_of_ble_eq_true rfl) (fun x168 M169 _ => ?_)
                                              refine sX_iceq (o := 397) (t := 1211) (by decide +kernel) (by decide) (fun _ => ?_) (fun _ => ?_)
                                              · exact sX.le (xB1211 v3 M169) (sLe_s (sLe_s (sLe_s (sLe_s sLe_e))))
                                              · refine sX_iconst (n := 0) (v := (0 : Int32)) (by decide +kernel) (by decide) ?_
                                                refine sX_exit he1 ?_
                                                exact sX_some (fun h _ => sW_zret (by decide +kernel) rfl (by decide) (hr _ h).1.symm (hr _ h).2.symm)
                                            · refine sX_if (fun hx => ?_) (fun n19 => ?_)
                                              · refine sX_tin (n := (19 : Int32)) (t := 819) (off := 786) (dflt := 1178) (lo := 0) (hi := 35) (offs := #[159, 222, 245, 258, 281, 304, 347, 380, 413, 446, 479, 512, 545, 578, 621, 644, 687, 720, 753, 786, 819, 832, 845, 878, 911, 944, 977, 1010, 1033, 1056, 1069, 1092, 1106, 1119, 1142, 1155]) (len := 159) (by decide +kernel) hx (by decide) (by decide) (by decide) (by decide) ?_
                                                exact sX.le (xB819 v3 M) (sLe_s (sLe_s (sLe_s (sLe_s sLe_e))))
                                              · refine sX_if (fun hx => ?_) (fun n20 => ?_)
                                                · refine sX_tin (n := (20 : Int32)) (t := 852) (off := 819) (dflt := 1178) (lo := 0) (hi := 35) (offs := #[159, 222, 245, 258, 281, 304, 347, 380, 413, 446, 479, 512, 545, 578, 621, 644, 687, 720, 753, 786, 819, 832, 845, 878, 911, 944, 977, 1010, 1033, 1056, 1069, 1092, 1106, 1119, 1142, 1155]) (len := 159) (by decide +kernel) hx (by decide) (by decide) (by decide) (by decide) ?_
                                                  refine sX_aload_n (i := 1) (by decide +kernel) rfl ?_
                                                  refine sX_callV (As := []) (by decide +kernel) lm_L_99 mf_X11_keepers mi_X11_keepers mc_11 (m_X11_keepers G l v1 M) (fun _ h => sRc_some h) (by decide) rfl rfl (Nat.le_of_ble_eq_true rfl) (fun x158 M159 _ => ?_)
                                                  refine sX_aload_n (i := 2) (by decide +kernel) rfl ?_
                                                  refine sX_callV (As := []) (by decide +kernel) lm_L_102 mf_X12_keepers mi_X12_keepers mc_12 (m_X12_keepers G l v2 M159) (fun _ h => sRc_some h) (by decide) rfl rfl (Nat.le_of_ble_eq_true rfl) (fun x160 M161 _ => ?_)
                                                  refine sX_iceq (o := 351) (t := 1211) (by decide +kernel) (by decide) (fun _ => ?_) (fun _ => ?_)
                                                  · exact sX.le (xB1211 v3 M161) (sLe_s (sLe_s (sLe_s (sLe_s sLe_e))))
                                                  · refine sX_iconst (n := 0) (v := (0 : Int32)) (by decide +kernel) (by decide) ?_
                                                    refine sX_exit he1 ?_
                                                    exact sX_some (fun h _ => sW_zret (by decide +kernel) rfl (by decide) (hr _ h).1.symm (hr _ h).2.symm)
                                                · refine sX_if (fun hx => ?_) (fun n21 => ?_)
                                                  · refine sX_tin (n := (21 : Int32)) (t := 865) (off := 832) (dflt := 1178) (lo := 0) (hi := 35) (offs := #[159, 222, 245, 258, 281, 304, 347, 380, 413, 446, 479, 512, 545, 578, 621, 644, 687, 720, 753, 786, 819, 832, 845, 878, 911, 944, 977, 1010, 1033, 1056, 1069, 1092, 1106, 1119, 1142, 1155]) (len := 159) (by decide +kernel) hx (by decide) (by decide) (by decide) (by decide) ?_
                                                    refine sX_aload_n (i := 1) (by decide +kernel) rfl ?_
                                                    refine sX_callV (As := []) (by decide +kernel) lm_L_103 mf_X11_see mi_X11_see mc_11 (m_X11_see G l v1 M) (fun _ h => sRc_some h) (by decide) rfl rfl (Nat.le_of_ble_eq_true rfl) (fun x154 M155 _ => ?_)
                                                    refine sX_aload_n (i := 2) (by decide +kernel) rfl ?_
                                                    refine sX_callV (As := []) (by decide +kernel) lm_L_106 mf_X12_see mi_X12_see mc_12 (m_X12_see G l v2 M155) (fun _ h => sRc_some h) (by decide) rfl rfl (Nat.le_of_ble_eq_true rfl) (fun x156 M157 _ => ?_)
                                                    refine sX_iceq (o := 338) (t := 1211) (by decide +kernel) (by decide) (fun _ => ?_) (fun _ => ?_)
                                                    · exact sX.le (xB1211 v3 M157) (sLe_s (sLe_s (sLe_s (sLe_s sLe_e))))
                                                    · refine sX_iconst (n := 0) (v := (0 : Int32)) (by decide +kernel) (by decide) ?_
                                                      refine sX_exit he1 ?_
                                                      exact sX_some (fun h _ => sW_zret (by decide +kernel) rfl (by decide) (hr _ h).1.symm (hr _ h).2.symm)
                                                  · refine sX_if (fun hx => ?_) (fun n22 => ?_)
                                                    · refine sX_tin (n := (22 : Int32)) (t := 878) (off := 845) (dflt := 1178) (lo := 0) (hi := 35) (offs := #[159, 222, 245, 258, 281, 304, 347, 380, 413, 446, 479, 512, 545, 578, 621, 644, 687, 720, 753, 786, 819, 832, 845, 878, 911, 944, 977, 1010, 1033, 1056, 1069, 1092, 1106, 1119, 1142, 1155]) (len := 159) (by decide +kernel) hx (by decide) (by decide) (by decide) (by decide) ?_
                                                      refine sX_aload_n (i := 1) (by decide +kernel) rfl ?_
                                                      refine sX_aload_n (i := 0) (by decide +kernel) rfl ?_
                                                      refine sX_iload_n (i := 3) (by decide +kernel) rfl ?_
                                                      refine sX_iconst (n := 1) (v := (1 : Int32)) (by decide +kernel) (by decide) ?_
                                                      refine sX_iadd (by decide +kernel) ?_
                                                      refine sX_sld (by decide +kernel) (fun x146 => ?_)
                                                      refine sX_aload_n (i := 0) (by decide +kernel) rfl ?_
                                                      refine sX_iload_n (i := 3) (by decide +kernel) rfl ?_
                                                      refine sX_iconst (n := 2) (v := (2 : Int32)) (by decide +kernel) (by decide) ?_
                                                      refine sX_iadd (by decide +kernel) ?_
                                                      refine sX_sld (by decide +kernel) (fun x147 => ?_)
                                                      refine sX_callV (As := [.int x146, .int x147]) (by decide +kernel) lm_L_107 mf_X11_was mi_X11_was mc_11 (m_X11_was G l v1 x146 x147 M) (fun _ h => sRc_some h) (by decide) rfl rfl (Nat.le_of_ble_eq_true rfl) (fun x148 M149 _ => ?_)
                                                      refine sX_aload_n (i := 2) (by decide +kernel) rfl ?_
                                                      refine sX_aload_n (i := 0) (by decide +kernel) rfl ?_
                                                      refine sX_iload_n (i := 3) (by decide +kernel) rfl ?_
                                                      refine sX_iconst (n := 1) (v := (1 : Int32)) (by decide +kernel) (by decide) ?_
                                                      refine sX_iadd (by decide +kernel) ?_
                                                      refine sX_sld (by decide +kernel) (fun x150 => ?_)
                                                      refine sX_aload_n (i := 0) (by decide +kernel) rfl ?_
                                                      refine sX_iload_n (i := 3) (by decide +kernel) rfl ?_
                                                      refine sX_iconst (n := 2) (v := (2 : Int32)) (by decide +kernel) (by decide) ?_
                                                      refine sX_iadd (by decide +kernel) ?_
                                                      refine sX_sld (by decide +kernel) (fun x151 => ?_)
                                                      refine sX_callV (As := [.int x150, .int x151]) (by decide +kernel) lm_L_110 mf_X12_was mi_X12_was mc_12 (m_X12_was G l v2 x150 x151 M149) (fun _ h => sRc_some h) (by decide) rfl rfl (Nat.le_of_ble_eq_true rfl) (fun x152 M153 _ => ?_)
                                                      refine sX_iceq (o := 305) (t := 1211) (by decide +kernel) (by decide) (fun _ => ?_) (fun _ => ?_)
                                                      · exact sX.le (xB1211 v3 M153) (sLe_s (sLe_s (sLe_s (sLe_s sLe_e))))
                                                      · refine sX_iconst (n := 0) (v := (0 : Int32)) (by decide +kernel) (by decide) ?_
                                                        refine sX_exit he1 ?_
                                                        exact sX_some (fun h _ => sW_zret (by decide +kernel) rfl (by decide) (hr _ h).1.symm (hr _ h).2.symm)
                                                    · refine sX_if (fun hx => ?_) (fun n23 => ?_)
                                                      · refine sX_tin (n := (23 : Int32)) (t := 911) (off := 878) (dflt := 1178) (lo := 0) (hi := 35) (offs := #[159, 222, 245, 258, 281, 304, 347, 380, 413, 446, 479, 512, 545, 578, 621, 644, 687, 720, 753, 786, 819, 832, 845, 878, 911, 944, 977, 1010, 1033, 1056, 1069, 1092, 1106, 1119, 1142, 1155]) (len := 159) (by decide +kernel) hx (by decide) (by decide) (by decide) (by decide) ?_
                                                        exact sX.le (xB911 v3 M) (sLe_s (sLe_s (sLe_s (sLe_s sLe_e))))
                                                      · refine sX_if (fun hx => ?_) (fun n24 => ?_)
                                                        · refine sX_tin (n := (24 : Int32)) (t := 944) (off := 911) (dflt := 1178) (lo := 0) (hi := 35) (offs := #[159, 222, 245, 258, 281, 304, 347, 380, 413, 446, 479, 512, 545, 578, 621, 644, 687, 720, 753, 786, 819, 832, 845, 878, 911, 944, 977, 1010, 1033, 1056, 1069, 1092, 1106, 1119, 1142, 1155]) (len := 159) (by decide +kernel) hx (by decide) (by decide) (by decide) (by decide) ?_
                                                          refine sX_aload_n (i := 1) (by decide +kernel) rfl ?_
                                                          refine sX_aload_n (i := 0) (by decide +kernel) rfl ?_
                                                          refine sX_iload_n (i := 3) (by decide +kernel) rfl ?_
                                                          refine sX_iconst (n := 1) (v := (1 : Int32)) (by decide +kernel) (by decide) ?_
                                                          refine sX_iadd (by decide +kernel) ?_
                                                          refine sX_sld (by decide +kernel) (fun x138 => ?_)
                                                          refine sX_aload_n (i := 0) (by decide +kernel) rfl ?_
                                                          refine sX_iload_n (i := 3) (by decide +kernel) rfl ?_
                                                          refine sX_iconst (n := 2) (v := (2 : Int32)) (by decide +kernel) (by decide) ?_
                                                          refine sX_iadd (by decide +kernel) ?_
                                                          refine sX_sld (by decide +kernel) (fun x139 => ?_)
                                                          refine sX_callV (As := [.int x138, .int x139]) (by decide +kernel) lm_L_115 mf_X11_put mi_X11_put mc_11 (m_X11_put G l v1 x138 x139 M) (fun _ h => sRc_some h) (by decide) rfl rfl (Nat.le_of_ble_eq_true rfl) (fun x140 M141 _ => ?_)
                                                          refine sX_aload_n (i := 2) (by decide +kernel) rfl ?_
                                                          refine sX_aload_n (i := 0) (by decide +kernel) rfl ?_
                                                          refine sX_iload_n (i := 3) (by decide +kernel) rfl ?_
                                                          refine sX_iconst (n := 1) (v := (1 : Int32)) (by decide +kernel) (by decide) ?_
                                                          refine sX_iadd (by decide +kernel) ?_
                                                          refine sX_sld (by decide +kernel) (fun x142 => ?_)
                                                          refine sX_aload_n (i := 0) (by decide +kernel) rfl ?_
                                                          refine sX_iload_n (i := 3) (by decide +kernel) rfl ?_
                                                          refine sX_iconst (n := 2) (v := (2 : Int32)) (by decide +kernel) (by decide) ?_
                                                          refine sX_iadd (by decide +kernel) ?_
                                                          refine sX_sld (by decide +kernel) (fun x143 => ?_)
                                                          refine sX_callV (As := [.int x142, .int x143]) (by decide +kernel) lm_L_119 mf_X12_put mi_X12_put mc_12 (m_X12_put G l v2 x142 x143 M141) (fun _ h => sRc_some h) (by decide) rfl rfl (Nat.le_of_ble_eq_true rfl) (fun x144 M145 _ => ?_)
                                                          refine sX_iceq (o := 239) (t := 1211) (by decide +kernel) (by decide) (fun _ => ?_) (fun _ => ?_)
                                                          · exact sX.le (xB1211 v3 M145) (sLe_s (sLe_s (sLe_s (sLe_s sLe_e))))
                                                          · refine sX_iconst (n := 0) (v := (0 : Int32)) (by decide +kernel) (by decide) ?_
                                                            refine sX_exit he1 ?_
                                                            exact sX_some (fun h _ => sW_zret (by decide +kernel) rfl (by decide) (hr _ h).1.symm (hr _ h).2.symm)
                                                        · refine sX_if (fun hx => ?_) (fun n25 => ?_)
                                                          · refine sX_tin (n := (25 : Int32)) (t := 977) (off := 944) (dflt := 1178) (lo := 0) (hi := 35) (offs := #[159, 222, 245, 258, 281, 304, 347, 380, 413, 446, 479, 512, 545, 578, 621, 644, 687, 720, 753, 786, 819, 832, 845, 878, 911, 944, 977, 1010, 1033, 1056, 1069, 1092, 1106, 1119, 1142, 1155]) (len := 159) (by decide +kernel) hx (by decide) (by decide) (by decide) (by decide) ?_
                                                            exact sX.le (xB977 v3 M) (sLe_s (sLe_s (sLe_s (sLe_s sLe_e))))
                                                          · refine sX_if (fun hx => ?_) (fun n26 => ?_)
                                                            · refine sX_tin (n := (26 : Int32)) (t := 1010) (off := 977) (dflt := 1178) (lo := 0) (hi := 35) (offs := #[159, 222, 245, 258, 281, 304, 347, 380, 413, 446, 479, 512, 545, 578, 621, 644, 687, 720, 753, 786, 819, 832, 845, 878, 911, 944, 977, 1010, 1033, 1056, 1069, 1092, 1106, 1119, 1142, 1155]) (len := 159) (by decide +kernel) hx (by decide) (by decide) (by decide) (by decide) ?_
                                                              refine sX_aload_n (i := 1) (by decide +kernel) rfl ?_
                                                              refine sX_aload_n (i := 0) (by decide +kernel) rfl ?_
                                                              refine sX_iload_n (i := 3) (by decide +kernel) rfl ?_
                                                              refine sX_iconst (n := 1) (v := (1 : Int32)) (by decide +kernel) (by decide) ?_
                                                              refine sX_iadd (by decide +kernel) ?_
                                                              refine sX_sld (by decide +kernel) (fun x130 => ?_)
                                                              refine sX_aload_n (i := 0) (by decide +kernel) rfl ?_
                                                              refine sX_iload_n (i := 3) (by decide +kernel) rfl ?_
                                                              refine sX_iconst (n := 2) (v := (2 : Int32)) (by decide +kernel) (by decide) ?_
                                                              refine sX_iadd (by decide +kernel) ?_
                                                              refine sX_sld (by decide +kernel) (fun x131 => ?_)
                                                              refine sX_callV (As := [.int x130, .int x131]) (by decide +kernel) lm_L_124 mf_X11_send mi_X11_send mc_11 (m_X11_send G l v1 x130 x131 M) (fun _ h => sRc_some h) (by decide) rfl rfl (Nat.le_of_ble_eq_true rfl) (fun x132 M133 _ => ?_)
                                                              refine sX_aload_n (i := 2) (by decide +kernel) rfl ?_
                                                              refine sX_aload_n (i := 0) (by decide +kernel) rfl ?_
                                                              refine sX_iload_n (i := 3) (by decide +kernel) rfl ?_
                                                              refine sX_iconst (n := 1) (v := (1 : Int32)) (by decide +kernel) (by decide) ?_
                                                              refine sX_iadd (by decide +kernel) ?_
                                                              refine sX_sld (by decide +kernel) (fun x134 => ?_)
                                                              refine sX_aload_n (i := 0) (by decide +kernel) rfl ?_
                                                              refine sX_iload_n (i := 3) (by decide +kernel) rfl ?_
                                                              refine sX_iconst (n := 2) (v := (2 : Int32)) (by decide +kernel) (by decide) ?_
                                                              refine sX_iadd (by decide +kernel) ?_
                                                              refine sX_sld (by decide +kernel) (fun x135 => ?_)
                                                              refine sX_callV (As := [.int x134, .int x135]) (by decide +kernel) lm_L_127 mf_X12_send mi_X12_send mc_12 (m_X12_send G l v2 x134 x135 M133) (fun _ h => sRc_some h) (by decide) rfl rfl (Nat.le_of_ble_eq_true rfl) (fun x136 M137 _ => ?_)
                                                              refine sX_iceq (o := 173) (t := 1211) (by decide +kernel) (by decide) (fun _ => ?_) (fun _ => ?_)
                                                              · exact sX.le (xB1211 v3 M137) (sLe_s (sLe_s (sLe_s (sLe_s sLe_e))))
                                                              · refine sX_iconst (n := 0) (v := (0 : Int32)) (by decide +kernel) (by decide) ?_
                                                                refine sX_exit he1 ?_
                                                                exact sX_some (fun h _ => sW_zret (by decide +kernel) rfl (by decide) (hr _ h).1.symm (hr _ h).2.symm)
                                                            · refine sX_if (fun hx => ?_) (fun n27 => ?_)
                                                              · refine sX_tin (n := (27 : Int32)) (t := 1043) (off := 1010) (dflt := 1178) (lo := 0) (hi := 35) (offs := #[159, 222, 245, 258, 281, 304, 347, 380, 413, 446, 479, 512, 545, 578, 621, 644, 687, 720, 753, 786, 819, 832, 845, 878, 911, 944, 977, 1010, 1033, 1056, 1069, 1092, 1106, 1119, 1142, 1155]) (len := 159) (by decide +kernel) hx (by decide) (by decide) (by decide) (by decide) ?_
                                                                exact sX.le (xB1043 v3 M) (sLe_s (sLe_s (sLe_s (sLe_s sLe_e))))
                                                              · refine sX_if (fun hx => ?_) (fun n28 => ?_)
                                                                · refine sX_tin (n := (28 : Int32)) (t := 1066) (off := 1033) (dflt := 1178) (lo := 0) (hi := 35) (offs := #[159, 222, 245, 258, 281, 304, 347, 380, 413, 446, 479, 512, 545, 578, 621, 644, 687, 720, 753, 786, 819, 832, 845, 878, 911, 944, 977, 1010, 1033, 1056, 1069, 1092, 1106, 1119, 1142, 1155]) (len := 159) (by decide +kernel) hx (by decide) (by decide) (by decide) (by decide) ?_
                                                                  refine sX_aload_n (i := 1) (by decide +kernel) rfl ?_
                                                                  refine sX_aload_n (i := 0) (by decide +kernel) rfl ?_
                                                                  refine sX_iload_n (i := 3) (by decide +kernel) rfl ?_
                                                                  refine sX_iconst (n := 1) (v := (1 : Int32)) (by decide +kernel) (by decide) ?_
                                                                  refine sX_iadd (by decide +kernel) ?_
                                                                  refine sX_sld (by decide +kernel) (fun x124 => ?_)
                                                                  refine sX_callV (As := [.int x124]) (by decide +kernel) lm_L_132 mf_X11_chance mi_X11_chance mc_11 (m_X11_chance G l v1 x124 M) (fun _ h => sRc_some h) (by decide) rfl rfl (Nat.le_of_ble_eq_true rfl) (fun x125 M126 _ => ?_)
                                                                  refine sX_aload_n (i := 2) (by decide +kernel) rfl ?_
                                                                  refine sX_aload_n (i := 0) (by decide +kernel) rfl ?_
                                                                  refine sX_iload_n (i := 3) (by decide +kernel) rfl ?_
                                                                  refine sX_iconst (n := 1) (v := (1 : Int32)) (by decide +kernel) (by decide) ?_
                                                                  refine sX_iadd (by decide +kernel) ?_
                                                                  refine sX_sld (by decide +kernel) (fun x127 => ?_)
                                                                  refine sX_callV (As := [.int x127]) (by decide +kernel) lm_L_135 mf_X12_chance mi_X12_chance mc_12 (m_X12_chance G l v2 x127 M126) (fun _ h => sRc_some h) (by decide) rfl rfl (Nat.le_of_ble_eq_true rfl) (fun x128 M129 _ => ?_)
                                                                  refine sX_iceq (o := 127) (t := 1211) (by decide +kernel) (by decide) (fun _ => ?_) (fun _ => ?_)
                                                                  · exact sX.le (xB1211 v3 M129) (sLe_s (sLe_s (sLe_s (sLe_s sLe_e))))
                                                                  · refine sX_iconst (n := 0) (v := (0 : Int32)) (by decide +kernel) (by decide) ?_
                                                                    refine sX_exit he1 ?_
                                                                    exact sX_some (fun h _ => sW_zret (by decide +kernel) rfl (by decide) (hr _ h).1.symm (hr _ h).2.symm)
                                                                · refine sX_if (fun hx => ?_) (fun n29 => ?_)
                                                                  · refine sX_tin (n := (29 : Int32)) (t := 1089) (off := 1056) (dflt := 1178) (lo := 0) (hi := 35) (offs := #[159, 222, 245, 258, 281, 304, 347, 380, 413, 446, 479, 512, 545, 578, 621, 644, 687, 720, 753, 786, 819, 832, 845, 878, 911, 944, 977, 1010, 1033, 1056, 1069, 1092, 1106, 1119, 1142, 1155]) (len := 159) (by decide +kernel) hx (by decide) (by decide) (by decide) (by decide) ?_
                                                                    refine sX_aload_n (i := 1) (by decide +kernel) rfl ?_
                                                                    refine sX_callV (As := []) (by decide +kernel) lm_L_136 mf_X11_undo mi_X11_undo mc_11 (m_X11_undo G l v1 M) (fun _ h => sRc_some h) (by decide) rfl rfl (Nat.le_of_ble_eq_true rfl) (fun x120 M121 _ => ?_)
                                                                    refine sX_aload_n (i := 2) (by decide +kernel) rfl ?_
                                                                    refine sX_callV (As := []) (by decide +kernel) lm_L_140 mf_X12_undo mi_X12_undo mc_12 (m_X12_undo G l v2 M121) (fun _ h => sRc_some h) (by decide) rfl rfl (Nat.le_of_ble_eq_true rfl) (fun x122 M123 _ => ?_)
                                                                    refine sX_iceq (o := 114) (t := 1211) (by decide +kernel) (by decide) (fun _ => ?_) (fun _ => ?_)
                                                                    · exact sX.le (xB1211 v3 M123) (sLe_s (sLe_s (sLe_s (sLe_s sLe_e))))
                                                                    · refine sX_iconst (n := 0) (v := (0 : Int32)) (by decide +kernel) (by decide) ?_
                                                                      refine sX_exit he1 ?_
                                                                      exact sX_some (fun h _ => sW_zret (by decide +kernel) rfl (by decide) (hr _ h).1.symm (hr _ h).2.symm)
                                                                  · refine sX_if (fun hx => ?_) (fun n30 => ?_)
                                                                    · refine sX_tin (n := (30 : Int32)) (t := 1102) (off := 1069) (dflt := 1178) (lo := 0) (hi := 35) (offs := #[159, 222, 245, 258, 281, 304, 347, 380, 413, 446, 479, 512, 545, 578, 621, 644, 687, 720, 753, 786, 819, 832, 845, 878, 911, 944, 977, 1010, 1033, 1056, 1069, 1092, 1106, 1119, 1142, 1155]) (len := 159) (by decide +kernel) hx (by decide) (by decide) (by decide) (by decide) ?_
                                                                      refine sX_aload_n (i := 1) (by decide +kernel) rfl ?_
                                                                      refine sX_aload_n (i := 0) (by decide +kernel) rfl ?_
                                                                      refine sX_iload_n (i := 3) (by decide +kernel) rfl ?_
                                                                      refine sX_iconst (n := 1) (v := (1 : Int32)) (by decide +kernel) (by decide) ?_
                                                                      refine sX_iadd (by decide +kernel) ?_
                                                                      refine sX_sld (by decide +kernel) (fun x114 => ?_)
                                                                      refine sX_callV (As := [.int x114]) (by decide +kernel) lm_L_141 mf_X11_seed mi_X11_seed mc_11 (m_X11_seed G l v1 x114 M) (fun _ h => sRc_some h) (by decide) rfl rfl (Nat.le_of_ble_eq_true rfl) (fun x115 M116 _ => ?_)
                                                                      refine sX_aload_n (i := 2) (by decide +kernel) rfl ?_
                                                                      refine sX_aload_n (i := 0) (by decide +kernel) rfl ?_
                                                                      refine sX_iload_n (i := 3) (by decide +kernel) rfl ?_
                                                                      refine sX_iconst (n := 1) (v := (1 : Int32)) (by decide +kernel) (by decide) ?_
                                                                      refine sX_iadd (by decide +kernel) ?_
                                                                      refine sX_sld (by decide +kernel) (fun x117 => ?_)
                                                                      refine sX_callV (As := [.int x117]) (by decide +kernel) lm_L_144 mf_X12_seed mi_X12_seed mc_12 (m_X12_seed G l v2 x117 M116) (fun _ h => sRc_some h) (by decide) rfl rfl (Nat.le_of_ble_eq_true rfl) (fun x118 M119 _ => ?_)
                                                                      refine sX_iceq (o := 91) (t := 1211) (by decide +kernel) (by decide) (fun _ => ?_) (fun _ => ?_)
                                                                      · exact sX.le (xB1211 v3 M119) (sLe_s (sLe_s (sLe_s (sLe_s sLe_e))))
                                                                      · refine sX_iconst (n := 0) (v := (0 : Int32)) (by decide +kernel) (by decide) ?_
                                                                        refine sX_exit he1 ?_
                                                                        exact sX_some (fun h _ => sW_zret (by decide +kernel) rfl (by decide) (hr _ h).1.symm (hr _ h).2.symm)
                                                                    · refine sX_if (fun hx => ?_) (fun n31 => ?_)
                                                                      · refine sX_tin (n := (31 : Int32)) (t := 1125) (off := 1092) (dflt := 1178) (lo := 0) (hi := 35) (offs := #[159, 222, 245, 258, 281, 304, 347, 380, 413, 446, 479, 512, 545, 578, 621, 644, 687, 720, 753, 786, 819, 832, 845, 878, 911, 944, 977, 1010, 1033, 1056, 1069, 1092, 1106, 1119, 1142, 1155]) (len := 159) (by decide +kernel) hx (by decide) (by decide) (by decide) (by decide) ?_
                                                                        exact sX.le (xB1125 v3 M) (sLe_s (sLe_s (sLe_s (sLe_s sLe_e))))
                                                                      · refine sX_if (fun hx => ?_) (fun n32 => ?_)
                                                                        · refine sX_tin (n := (32 : Int32)) (t := 1139) (off := 1106) (dflt := 1178) (lo := 0) (hi := 35) (offs := #[159, 222, 245, 258, 281, 304, 347, 380, 413, 446, 479, 512, 545, 578, 621, 644, 687, 720, 753, 786, 819, 832, 845, 878, 911, 944, 977, 1010, 1033, 1056, 1069, 1092, 1106, 1119, 1142, 1155]) (len := 159) (by decide +kernel) hx (by decide) (by decide) (by decide) (by decide) ?_
                                                                          refine sX_aload_n (i := 1) (by decide +kernel) rfl ?_
                                                                          refine sX_callV (As := []) (by decide +kernel) lm_L_150 mf_X11_image mi_X11_image mc_11 (m_X11_image G l v1 M) (fun _ h => sRc_some h) (by decide) rfl rfl (Nat.le_of_ble_eq_true rfl) (fun x110 M111 _ => ?_)
                                                                          refine sX_aload_n (i := 2) (by decide +kernel) rfl ?_
                                                                          refine sX_callV (As := []) (by decide +kernel) lm_L_153 mf_X12_image mi_X12_image mc_12 (m_X12_image G l v2 M111) (fun _ h => sRc_some h) (by decide) rfl rfl (Nat.le_of_ble_eq_true rfl) (fun x112 M113 _ => ?_)
                                                                          refine sX_iceq (o := 64) (t := 1211) (by decide +kernel) (by decide) (fun _ => ?_) (fun _ => ?_)
                                                                          · exact sX.le (xB1211 v3 M113) (sLe_s (sLe_s (sLe_s (sLe_s sLe_e))))
                                                                          · refine sX_iconst (n := 0) (v := (0 : Int32)) (by decide +kernel) (by decide) ?_
                                                                            refine sX_exit he1 ?_
                                                                            exact sX_some (fun h _ => sW_zret (by decide +kernel) rfl (by decide) (hr _ h).1.symm (hr _ h).2.symm)
                                                                        · refine sX_if (fun hx => ?_) (fun n33 => ?_)
                                                                          · refine sX_tin (n := (33 : Int32)) (t := 1152) (off := 1119) (dflt := 1178) (lo := 0) (hi := 35) (offs := #[159, 222, 245, 258, 281, 304, 347, 380, 413, 446, 479, 512, 545, 578, 621, 644, 687, 720, 753, 786, 819, 832, 845, 878, 911, 944, 977, 1010, 1033, 1056, 1069, 1092, 1106, 1119, 1142, 1155]) (len := 159) (by decide +kernel) hx (by decide) (by decide) (by decide) (by decide) ?_
                                                                            refine sX_aload_n (i := 1) (by decide +kernel) rfl ?_
                                                                            refine sX_aload_n (i := 0) (by decide +kernel) rfl ?_
                                                                            refine sX_iload_n (i := 3) (by decide +kernel) rfl ?_
                                                                            refine sX_iconst (n := 1) (v := (1 : Int32)) (by decide +kernel) (by decide) ?_
                                                                            refine sX_iadd (by decide +kernel) ?_
                                                                            refine sX_sld (by decide +kernel) (fun x106 => ?_)
                                                                            refine sX_callVp (As := [.int x106]) (by decide +kernel) lm_L_154 mf_X11_octet mi_X11_octet mc_11 (m_X11_octet G l v1 x106 M) (fun _ h => sRc_some h) (by decide) rfl rfl (Nat.le_of_ble_eq_true rfl) (fun x107 => ?_)
                                                                            refine sX_aload_n (i := 2) (by decide +kernel) rfl ?_
                                                                            refine sX_aload_n (i := 0) (by decide +kernel) rfl ?_
                                                                            refine sX_iload_n (i := 3) (by decide +kernel) rfl ?_
                                                                            refine sX_iconst (n := 1) (v := (1 : Int32)) (by decide +kernel) (by decide) ?_
                                                                            refine sX_iadd (by decide +kernel) ?_
                                                                            refine sX_sld (by decide +kernel) (fun x108 => ?_)
                                                                            refine sX_callVp (As := [.int x108]) (by decide +kernel) lm_L_157 mf_X12_octet mi_X12_octet mc_12 (m_X12_octet G l v2 x108 M) (fun _ h => sRc_some h) (by decide) rfl rfl (Nat.le_of_ble_eq_true rfl) (fun x109 => ?_)
                                                                            refine sX_iceq (o := 41) (t := 1211) (by decide +kernel) (by decide) (fun _ => ?_) (fun _ => ?_)
                                                                            · exact sX.le (xB1211 v3 M) (sLe_s (sLe_s (sLe_s (sLe_s sLe_e))))
                                                                            · refine sX_iconst (n := 0) (v := (0 : Int32)) (by decide +kernel) (by decide) ?_
                                                                              refine sX_exit he1 ?_
                                                                              exact sX_some (fun h _ => sW_zret (by decide +kernel) rfl (by decide) (hr _ h).1.symm (hr _ h).2.symm)
                                                                          · refine sX_if (fun hx => ?_) (fun n34 => ?_)
                                                                            · refine sX_tin (n := (34 : Int32)) (t := 1175) (off := 1142) (dflt := 1178) (lo := 0) (hi := 35) (offs := #[159, 222, 245, 258, 281, 304, 347, 380, 413, 446, 479, 512, 545, 578, 621, 644, 687, 720, 753, 786, 819, 832, 845, 878, 911, 944, 977, 1010, 1033, 1056, 1069, 1092, 1106, 1119, 1142, 1155]) (len := 159) (by decide +kernel) hx (by decide) (by decide) (by decide) (by decide) ?_
                                                                              refine sX_aload_n (i := 1) (by decide +kernel) rfl ?_
                                                                              refine sX_callV (As := []) (by decide +kernel) lm_L_158 mf_X11_on mi_X11_on mc_11 (m_X11_on G l v1 M) (fun _ h => sRc_some h) (by decide) rfl rfl (Nat.le_of_ble_eq_true rfl) (fun x102 M103 _ => ?_)
                                                                              refine sX_aload_n (i := 2) (by decide +kernel) rfl ?_
                                                                              refine sX_callV (As := []) (by decide +kernel) lm_L_161 mf_X12_on mi_X12_on mc_12 (m_X12_on G l v2 M103) (fun _ h => sRc_some h) (by decide) rfl rfl (Nat.le_of_ble_eq_true rfl) (fun x104 M105 _ => ?_)
                                                                              refine sX_iceq (o := 28) (t := 1211) (by decide +kernel) (by decide) (fun _ => ?_) (fun _ => ?_)
                                                                              · exact sX.le (xB1211 v3 M105) (sLe_s (sLe_s (sLe_s (sLe_s sLe_e))))
                                                                              · refine sX_iconst (n := 0) (v := (0 : Int32)) (by decide +kernel) (by decide) ?_
                                                                                refine sX_exit he1 ?_
                                                                                exact sX_some (fun h _ => sW_zret (by decide +kernel) rfl (by decide) (hr _ h).1.symm (hr _ h).2.symm)
                                                                            · refine sX_if (fun hx => ?_) (fun n35 => ?_)
                                                                              · refine sX_tin (n := (35 : Int32)) (t := 1188) (off := 1155) (dflt := 1178) (lo := 0) (hi := 35) (offs := #[159, 222, 245, 258, 281, 304, 347, 380, 413, 446, 479, 512, 545, 578, 621, 644, 687, 720, 753, 786, 819, 832, 845, 878, 911, 944, 977, 1010, 1033, 1056, 1069, 1092, 1106, 1119, 1142, 1155]) (len := 159) (by decide +kernel) hx (by decide) (by decide) (by decide) (by decide) ?_
                                                                                refine sX_aload_n (i := 1) (by decide +kernel) rfl ?_
                                                                                refine sX_aload_n (i := 0) (by decide +kernel) rfl ?_
                                                                                refine sX_iload_n (i := 3) (by decide +kernel) rfl ?_
                                                                                refine sX_iconst (n := 1) (v := (1 : Int32)) (by decide +kernel) (by decide) ?_
                                                                                refine sX_iadd (by decide +kernel) ?_
                                                                                refine sX_sld (by decide +kernel) (fun x98 => ?_)
                                                                                refine sX_callVp (As := [.int x98]) (by decide +kernel) lm_L_162 mf_X11_status mi_X11_status mc_11 (m_X11_status G l v1 x98 M) (fun _ h => sRc_some h) (by decide) rfl rfl (Nat.le_of_ble_eq_true rfl) (fun x99 => ?_)
                                                                                refine sX_aload_n (i := 2) (by decide +kernel) rfl ?_
                                                                                refine sX_aload_n (i := 0) (by decide +kernel) rfl ?_
                                                                                refine sX_iload_n (i := 3) (by decide +kernel) rfl ?_
                                                                                refine sX_iconst (n := 1) (v := (1 : Int32)) (by decide +kernel) (by decide) ?_
                                                                                refine sX_iadd (by decide +kernel) ?_
                                                                                refine sX_sld (by decide +kernel) (fun x100 => ?_)
                                                                                refine sX_callVp (As := [.int x100]) (by decide +kernel) lm_L_165 mf_X12_status mi_X12_status mc_12 (m_X12_status G l v2 x100 M) (fun _ h => sRc_some h) (by decide) rfl rfl (Nat.le_of_ble_eq_true rfl) (fun x101 => ?_)
                                                                                refine sX_iceq (o := 5) (t := 1211) (by decide +kernel) (by decide) (fun _ => ?_) (fun _ => ?_)
                                                                                · exact sX.le (xB1211 v3 M) (sLe_s (sLe_s (sLe_s (sLe_s sLe_e))))
                                                                                · refine sX_iconst (n := 0) (v := (0 : Int32)) (by decide +kernel) (by decide) ?_
                                                                                  refine sX_exit he1 ?_
                                                                                  exact sX_some (fun h _ => sW_zret (by decide +kernel) rfl (by decide) (hr _ h).1.symm (hr _ h).2.symm)
                                                                              · refine sX_tout (t := 1211) (dflt := 1178) (lo := 0) (hi := 35) (offs := #[159, 222, 245, 258, 281, 304, 347, 380, 413, 446, 479, 512, 545, 578, 621, 644, 687, 720, 753, 786, 819, 832, 845, 878, 911, 944, 977, 1010, 1033, 1056, 1069, 1092, 1106, 1119, 1142, 1155]) (len := 159) (by decide +kernel) (by have e0 := sNe n0 (z := 0) (by decide); have e1 := sNe n1 (z := 1) (by decide); have e2 := sNe n2 (z := 2) (by decide); have e3 := sNe n3 (z := 3) (by decide); have e4 := sNe n4 (z := 4) (by decide); have e5 := sNe n5 (z := 5) (by decide); have e6 := sNe n6 (z := 6) (by decide); have e7 := sNe n7 (z := 7) (by decide); have e8 := sNe n8 (z := 8) (by decide); have e9 := sNe n9 (z := 9) (by decide); have e10 := sNe n10 (z := 10) (by decide); have e11 := sNe n11 (z := 11) (by decide); have e12 := sNe n12 (z := 12) (by decide); have e13 := sNe n13 (z := 13) (by decide); have e14 := sNe n14 (z := 14) (by decide); have e15 := sNe n15 (z := 15) (by decide); have e16 := sNe n16 (z := 16) (by decide); have e17 := sNe n17 (z := 17) (by decide); have e18 := sNe n18 (z := 18) (by decide); have e19 := sNe n19 (z := 19) (by decide); have e20 := sNe n20 (z := 20) (by decide); have e21 := sNe n21 (z := 21) (by decide); have e22 := sNe n22 (z := 22) (by decide); have e23 := sNe n23 (z := 23) (by decide); have e24 := sNe n24 (z := 24) (by decide); have e25 := sNe n25 (z := 25) (by decide); have e26 := sNe n26 (z := 26) (by decide); have e27 := sNe n27 (z := 27) (by decide); have e28 := sNe n28 (z := 28) (by decide); have e29 := sNe n29 (z := 29) (by decide); have e30 := sNe n30 (z := 30) (by decide); have e31 := sNe n31 (z := 31) (by decide); have e32 := sNe n32 (z := 32) (by decide); have e33 := sNe n33 (z := 33) (by decide); have e34 := sNe n34 (z := 34) (by decide); have e35 := sNe n35 (z := 35) (by decide); omega) (by decide) ?_
                                                                                exact sX.le (xB1211 v3 M) (sLe_s (sLe_s (sLe_s (sLe_s sLe_e))))
    exact fun a => xK18 a.1 a.2
  refine sX_new cw_L_7 (by decide +kernel) (by decide) ?_
  refine sX_dup (by decide +kernel) rfl ?_
  refine sX_callIv (As := []) (by decide +kernel) lm_L_9 mf_X11_init mj_X11_init (m_X11_init G l ((sLen M0)) (sNew 11 20 M0)) (by decide) rfl rfl (Nat.le_of_ble_eq_true rfl) (fun M236 => ?_)
  refine sX_astore_n (i := 1) (ls2 := [some (.ref sSCR), some (.ref (sLen M0)), none, none]) (by decide +kernel) (by decide) rfl ?_
  refine sX_new cw_L_10 (by decide +kernel) (by decide) ?_
  refine sX_dup (by decide +kernel) rfl ?_
  refine sX_callIv (As := []) (by decide +kernel) lm_L_12 mf_X12_init mj_X12_init (m_X12_init G l ((sLen M236)) (sNew 12 127 M236)) (by decide) rfl rfl (Nat.le_of_ble_eq_true rfl) (fun M237 => ?_)
  refine sX_astore_n (i := 2) (ls2 := [some (.ref sSCR), some (.ref (sLen M0)), some (.ref (sLen M236)), none]) (by decide +kernel) (by decide) rfl ?_
  refine sX_iconst (n := 0) (v := (0 : Int32)) (by decide +kernel) (by decide) ?_
  refine sX_istore_n (i := 3) (ls2 := [some (.ref sSCR), some (.ref (sLen M0)), some (.ref (sLen M236)), some (.int (0 : Int32))]) (by decide +kernel) (by decide) rfl ?_
  exact sX.le (xL18 ((sLen M0)) ((sLen M236)) ((0 : Int32)) M237) (sLe_s (sLe_s (sLe_s (sLe_s sLe_e))))

