/-! THE REFERENCE's statements: gate, place, road, lane, era, car -/
section RS4
variable {b : Nat → Int32} {n e t c kd wh : Nat} {T : Tk} {sa sz : Nat → Nat} {M N : sMem} {s : Cs} {d : Ds}
theorem h_gate (hL : Lex b n T e sa sz) (hB : RG b n d M) (hS : RS T e sa sz M (.inr t)) (at' : Int32) : ∃ N, f_X12_gateTold 94 at' M = some N ∧ RE b n T e sa sz M N (gateR b T sa sz d at' t) := by
  have hs := hB.1.1
  obtain ⟨x, M1, a1, a2⟩ := h_full (kd := 0) hB (by decide) hS at'
  replace a1 : f_X12_isFull 94 0 6 at' M = some (x, M1) := a1
  unfold f_X12_gateTold f_X12_gateTold_B83 gateR
  rw [sr94 hs, a1]
  dsimp only [Option.bind_some]
  rcases a2 with ⟨e1, x1, k1, k2⟩ | ⟨e1, l, x0, k⟩
  · rw [x1, if_neg (by decide), e1]; exact ⟨M1, rfl, up_rd k1, hB.1.rl k1, k2⟩
  · subst k
    rw [x0, if_pos rfl, e1, sb_r]
    obtain ⟨v, N1, b1, b2, b3, b4⟩ := h_new hL hB hS
    obtain ⟨N2, c1, c2, c3, c4⟩ := h_w2 hL b3 b4 99 (Or.inl ⟨by decide, by decide⟩) (w := 2) rfl
    obtain ⟨y, N3, d1, d2, d3, d4⟩ := h_n hL c3 c4 0 d.1.1
    have F := (b2.tr c2).tr d2
    have hs3 := d3.1.1
    rw [b1]; dsimp only [Option.bind_some]
    rw [gr94_13 b3.1.1, Option.bind_some, c1, Option.bind_some, gr94_45 c3.1.1, Option.bind_some, show (0 : Int32) = nI 0 from rfl, ldI_n (rs130 c3.1.1) (by decide) (by decide), Option.bind_some, c3.2.1.2.2.2.2.2.1.1, show nI 0 = (0 : Int32) from rfl, d1]
    dsimp only [Option.bind_some]
    have hl6 : (d.2.1 0).length < 6 := l
    have h131 := d3.2.1.1.1 0 (by decide)
    have o2 := h_end (W := (gR 12 127 47 N3 94).bind fun x12 => (gR 12 127 46 N3 94).bind fun x13 => (ldI 14 N3 x13 ((0 : Int32))).bind fun x14 => (stJ N3 x12 (((0 : Int32) + x14)) v).bind fun M15 => (gR 12 127 48 M15 94).bind fun x16 => (gR 12 127 46 M15 94).bind fun x17 => (ldI 14 M15 x17 ((0 : Int32))).bind fun x18 => (stI M15 x16 x18 y).bind fun M19 => (gR 12 127 46 M19 94).bind fun x20 => (ldI 14 M19 x20 ((0 : Int32))).bind fun x21 => (stI M19 x20 ((0 : Int32)) ((x21 + (1 : Int32)))).bind fun M22 => some M22) (f := fun a : List Nat × Int32 => addD d 0 (a.1, [a.2, 0, 0, 0])) F d3 d4 (fun a ha => by
      obtain ⟨p1, p2⟩ := ha
      simp (disch := first | assumption | (simp only [wrI_sh, wrI_rf, wrJ_sh, wrJ_rf, StS_wi, StS_wj]; assumption) | omega | rfl | decide) only [gi94, gj94, pi94, pj94, pr94, sr94, gr94_0, gr94_9, gr94_11, gr94_12, gr94_13, gr94_14, gr94_15, gr94_16, gr94_17, gr94_18, gr94_19, gr94_20, gr94_21, gr94_22, gr94_23, gr94_24, gr94_25, gr94_26, gr94_27, gr94_28, gr94_29, gr94_30, gr94_31, gr94_32, gr94_33, gr94_34, gr94_35, gr94_36, gr94_37, gr94_38, gr94_39, gr94_40, gr94_41, gr94_42, gr94_43, gr94_45, gr94_46, gr94_47, gr94_48, gr94_49, gr94_50, gr94_51, gr94_52, gr94_53, gr94_54, gr94_59, gr94_60, gr94_66, gr94_67, gr94_68, gr94_69, gr94_73, gr94_74, gr94_75, gr94_76, gr94_77, gr94_78, gr94_79, gr94_81, gr94_82, gr94_84, gr94_88, gr94_89, gr94_90, gr94_91, gr94_92, gr94_93, gr94_94, gr94_95, gr94_96, gr94_97, gr94_98, gr94_99, gr94_100, gr94_101, gr94_102, gr94_103, gr94_104, gr94_105, gr94_106, gr94_107, gr94_108, gr94_109, gr94_110, gr94_111, gr94_112, gr94_113, gr94_114, gr94_115, gr94_117, gr94_121, gr94_125, ld131, st131, al131, ld132, st132, al132, ld133, st133, al133, wrI_eq, wrI_ne, wrJ_eq, wrJ_ne, wrI_lg, wrJ_in, h131, nlit, nneg, nI_add, pk_mul, nsub, Option.bind_some, if_true, if_false, Nat.reduceEqDiff, Nat.reduceLeDiff, Nat.reduceLT, Nat.reduceAdd, Nat.reduceMul, Nat.reduceSub]
      refine ⟨_, rfl, ?_⟩
      rw [← p2]
      exact rd_gate d3.2.1 hB.2.2 hl6 p1 (by rw [Nat.zero_add]))
    simp only [sb_a, sb_r] at o2
    exact o2
theorem h_place (hL : Lex b n T e sa sz) (hB : RG b n d M) (hS : RS T e sa sz M (.inr t)) (at' : Int32) : ∃ N, f_X12_placeTold 94 at' M = some N ∧ RE b n T e sa sz M N (placeR b T sa sz d at' t) := by
  have hs := hB.1.1
  obtain ⟨x, M1, a1, a2⟩ := h_full (kd := 1) hB (by decide) hS at'
  replace a1 : f_X12_isFull 94 1 7 at' M = some (x, M1) := a1
  unfold f_X12_placeTold placeR
  rw [sr94 hs, a1]
  dsimp only [Option.bind_some]
  rcases a2 with ⟨e1, x1, k1, k2⟩ | ⟨e1, l, x0, k⟩
  · rw [x1, if_neg (by decide), e1]; exact ⟨M1, rfl, up_rd k1, hB.1.rl k1, k2⟩
  · subst k
    rw [x0, if_pos rfl, e1, sb_r]
    obtain ⟨v, N3, b1, b2, d3, d4⟩ := h_new hL hB hS
    have hs3 := d3.1.1
    rw [b1]; dsimp only [Option.bind_some]
    have hl6 : (d.2.1 1).length < 7 := l
    have h131 := d3.2.1.1.1 1 (by decide)
    have o2 := h_end (W := (gR 12 127 47 N3 94).bind fun x6 => (gR 12 127 46 N3 94).bind fun x7 => (ldI 14 N3 x7 ((1 : Int32))).bind fun x8 => (stJ N3 x6 (((8 : Int32) + x8)) v).bind fun M9 => (gR 12 127 46 M9 94).bind fun x10 => (ldI 14 M9 x10 ((1 : Int32))).bind fun x11 => (stI M9 x10 ((1 : Int32)) ((x11 + (1 : Int32)))).bind fun M12 => some M12) (f := fun a : List Nat => addD d 1 (a, [0, 0, 0, 0])) b2 d3 d4 (fun a ha => by
      simp (disch := first | assumption | (simp only [wrI_sh, wrI_rf, wrJ_sh, wrJ_rf, StS_wi, StS_wj]; assumption) | omega | rfl | decide) only [gi94, gj94, pi94, pj94, pr94, sr94, gr94_0, gr94_9, gr94_11, gr94_12, gr94_13, gr94_14, gr94_15, gr94_16, gr94_17, gr94_18, gr94_19, gr94_20, gr94_21, gr94_22, gr94_23, gr94_24, gr94_25, gr94_26, gr94_27, gr94_28, gr94_29, gr94_30, gr94_31, gr94_32, gr94_33, gr94_34, gr94_35, gr94_36, gr94_37, gr94_38, gr94_39, gr94_40, gr94_41, gr94_42, gr94_43, gr94_45, gr94_46, gr94_47, gr94_48, gr94_49, gr94_50, gr94_51, gr94_52, gr94_53, gr94_54, gr94_59, gr94_60, gr94_66, gr94_67, gr94_68, gr94_69, gr94_73, gr94_74, gr94_75, gr94_76, gr94_77, gr94_78, gr94_79, gr94_81, gr94_82, gr94_84, gr94_88, gr94_89, gr94_90, gr94_91, gr94_92, gr94_93, gr94_94, gr94_95, gr94_96, gr94_97, gr94_98, gr94_99, gr94_100, gr94_101, gr94_102, gr94_103, gr94_104, gr94_105, gr94_106, gr94_107, gr94_108, gr94_109, gr94_110, gr94_111, gr94_112, gr94_113, gr94_114, gr94_115, gr94_117, gr94_121, gr94_125, ld131, st131, al131, ld132, st132, al132, ld133, st133, al133, wrI_eq, wrI_ne, wrJ_eq, wrJ_ne, wrI_lg, wrJ_in, h131, nlit, nneg, nI_add, pk_mul, nsub, Option.bind_some, if_true, if_false, Nat.reduceEqDiff, Nat.reduceLeDiff, Nat.reduceLT, Nat.reduceAdd, Nat.reduceMul, Nat.reduceSub]
      refine ⟨_, rfl, ?_⟩
      exact rd_place d3.2.1 hB.2.2 hl6 ha rfl)
    exact o2
theorem h_era (hL : Lex b n T e sa sz) (hB : RG b n d M) (hS : RS T e sa sz M (.inr t)) (at' : Int32) : ∃ N, f_X12_eraTold 94 at' M = some N ∧ RE b n T e sa sz M N (eraR b T sa sz d at' t) := by
  have hs := hB.1.1
  obtain ⟨x, M1, a1, a2⟩ := h_full (kd := 2) hB (by decide) hS at'
  replace a1 : f_X12_isFull 94 2 5 at' M = some (x, M1) := a1
  unfold f_X12_eraTold f_X12_eraTold_B83 eraR
  rw [sr94 hs, a1]
  dsimp only [Option.bind_some]
  rcases a2 with ⟨e1, x1, k1, k2⟩ | ⟨e1, l, x0, k⟩
  · rw [x1, if_neg (by decide), e1]; exact ⟨M1, rfl, up_rd k1, hB.1.rl k1, k2⟩
  · subst k
    rw [x0, if_pos rfl, e1, sb_r]
    obtain ⟨v, N1, b1, b2, b3, b4⟩ := h_new hL hB hS
    obtain ⟨N2, c1, c2, c3, c4⟩ := h_w2 hL b3 b4 107 (Or.inl ⟨by decide, by decide⟩) (w := 10) rfl
    obtain ⟨y, N4, d1, d2, d3, d4⟩ := h_n hL c3 c4 1 30
    obtain ⟨N5, e1, e2, e3, e4⟩ := h_w2 hL d3 d4 108 (Or.inl ⟨by decide, by decide⟩) (w := 11) rfl
    obtain ⟨y2, N6, f1, f2, f3, f4⟩ := h_n hL e3 e4 1 9
    obtain ⟨N7, g1, g2, g3, g4⟩ := h_w2 hL f3 f4 109 (Or.inl ⟨by decide, by decide⟩) (w := 12) rfl
    obtain ⟨y3, N3, i1, i2, i3, i4⟩ := h_n hL g3 g4 0 99
    have F := (((((b2.tr c2).tr d2).tr e2).tr f2).tr g2).tr i2
    have hs3 := i3.1.1
    rw [b1]; dsimp only [Option.bind_some]
    rw [gr94_21 b3.1.1, Option.bind_some, c1, Option.bind_some, d1]
    dsimp only [Option.bind_some]
    rw [gr94_22 d3.1.1, Option.bind_some, e1, Option.bind_some, f1]
    dsimp only [Option.bind_some]
    rw [gr94_23 f3.1.1, Option.bind_some, g1, Option.bind_some, i1]
    dsimp only [Option.bind_some]
    have hl6 : (d.2.1 2).length < 5 := l
    have h131 := i3.2.1.1.1 2 (by decide)
    have o2 := h_end (W := (gR 12 127 46 N3 94).bind fun x29 => (ldI 14 N3 x29 ((2 : Int32))).bind fun v7 => (gR 12 127 47 N3 94).bind fun x1 => (stJ N3 x1 (((16 : Int32) + v7)) v).bind fun M2 => (gR 12 127 50 M2 94).bind fun x3 => (stI M2 x3 (((3 : Int32) * v7)) y).bind fun M4 => (gR 12 127 50 M4 94).bind fun x5 => (stI M4 x5 ((((3 : Int32) * v7) + (1 : Int32))) y2).bind fun M6 => (gR 12 127 50 M6 94).bind fun x7 => (stI M6 x7 ((((3 : Int32) * v7) + (2 : Int32))) y3).bind fun M8 => (gR 12 127 46 M8 94).bind fun x9 => (ldI 14 M8 x9 ((2 : Int32))).bind fun x10 => (stI M8 x9 ((2 : Int32)) ((x10 + (1 : Int32)))).bind fun M11 => some M11) (f := fun a : ((List Nat × Int32) × Int32) × Int32 => addD d 2 (a.1.1.1, [a.1.1.2, a.1.2, a.2, 0])) F i3 i4 (fun a ha => by
      obtain ⟨⟨⟨p1, p2⟩, p3⟩, p4⟩ := ha
      simp (disch := first | assumption | (simp only [wrI_sh, wrI_rf, wrJ_sh, wrJ_rf, StS_wi, StS_wj]; assumption) | omega | rfl | decide) only [gi94, gj94, pi94, pj94, pr94, sr94, gr94_0, gr94_9, gr94_11, gr94_12, gr94_13, gr94_14, gr94_15, gr94_16, gr94_17, gr94_18, gr94_19, gr94_20, gr94_21, gr94_22, gr94_23, gr94_24, gr94_25, gr94_26, gr94_27, gr94_28, gr94_29, gr94_30, gr94_31, gr94_32, gr94_33, gr94_34, gr94_35, gr94_36, gr94_37, gr94_38, gr94_39, gr94_40, gr94_41, gr94_42, gr94_43, gr94_45, gr94_46, gr94_47, gr94_48, gr94_49, gr94_50, gr94_51, gr94_52, gr94_53, gr94_54, gr94_59, gr94_60, gr94_66, gr94_67, gr94_68, gr94_69, gr94_73, gr94_74, gr94_75, gr94_76, gr94_77, gr94_78, gr94_79, gr94_81, gr94_82, gr94_84, gr94_88, gr94_89, gr94_90, gr94_91, gr94_92, gr94_93, gr94_94, gr94_95, gr94_96, gr94_97, gr94_98, gr94_99, gr94_100, gr94_101, gr94_102, gr94_103, gr94_104, gr94_105, gr94_106, gr94_107, gr94_108, gr94_109, gr94_110, gr94_111, gr94_112, gr94_113, gr94_114, gr94_115, gr94_117, gr94_121, gr94_125, ld131, st131, al131, ld132, st132, al132, ld135, st135, al135, wrI_eq, wrI_ne, wrJ_eq, wrJ_ne, wrI_lg, wrJ_in, h131, nlit, nneg, nI_add, pk_mul, nsub, Option.bind_some, if_true, if_false, Nat.reduceEqDiff, Nat.reduceLeDiff, Nat.reduceLT, Nat.reduceAdd, Nat.reduceMul, Nat.reduceSub]
      refine ⟨_, rfl, ?_⟩
      rw [← p2, ← p3, ← p4]
      exact rd_era i3.2.1 hB.2.2 hl6 p1 rfl)
    simp only [sb_a, sb_r] at o2
    exact o2
theorem h_car (hL : Lex b n T e sa sz) (hB : RG b n d M) (hS : RS T e sa sz M (.inr t)) (at' : Int32) : ∃ N, f_X12_carTold 94 at' M = some N ∧ RE b n T e sa sz M N (carR b T sa sz d at' t) := by
  have hs := hB.1.1
  obtain ⟨x, M1, a1, a2⟩ := h_full (kd := 3) hB (by decide) hS at'
  replace a1 : f_X12_isFull 94 3 5 at' M = some (x, M1) := a1
  unfold f_X12_carTold f_X12_carTold_B82 carR
  rw [sr94 hs, a1]
  dsimp only [Option.bind_some]
  rcases a2 with ⟨e1, x1, k1, k2⟩ | ⟨e1, l, x0, k⟩
  · rw [x1, if_neg (by decide), e1]; exact ⟨M1, rfl, up_rd k1, hB.1.rl k1, k2⟩
  · subst k
    rw [x0, if_pos rfl, e1, sb_r]
    obtain ⟨v, N1, b1, b2, b3, b4⟩ := h_new hL hB hS
    obtain ⟨N2, c1, c2, c3, c4⟩ := h_w2 hL b3 b4 99 (Or.inl ⟨by decide, by decide⟩) (w := 2) rfl
    obtain ⟨y, N4, d1, d2, d3, d4⟩ := h_old hL c3 (show 1 < 4 by decide) c4 (-1) (fun _ => -1) (fun _ _ => rfl)
    replace d1 : f_X12_named 94 1 (-1) N2 = some (y, N4) := d1
    obtain ⟨N5, e1, e2, e3, e4⟩ := h_w2 hL d3 d4 102 (Or.inl ⟨by decide, by decide⟩) (w := 5) rfl
    obtain ⟨y2, N6, f1, f2, f3, f4⟩ := h_old hL e3 (show 1 < 4 by decide) e4 y (fun a => a.2) (fun a ha => ha.2)
    replace f1 : f_X12_named 94 1 y N5 = some (y2, N6) := f1
    obtain ⟨N7, g1, g2, g3, g4⟩ := h_w2 hL f3 f4 109 (Or.inl ⟨by decide, by decide⟩) (w := 12) rfl
    obtain ⟨y3, N3, i1, i2, i3, i4⟩ := h_n hL g3 g4 0 99
    have F := (((((b2.tr c2).tr d2).tr e2).tr f2).tr g2).tr i2
    have hs3 := i3.1.1
    rw [b1]; dsimp only [Option.bind_some]
    rw [gr94_13 b3.1.1, Option.bind_some, c1, Option.bind_some, d1]
    dsimp only [Option.bind_some]
    rw [gr94_16 d3.1.1, Option.bind_some, e1, Option.bind_some, f1]
    dsimp only [Option.bind_some]
    rw [gr94_23 f3.1.1, Option.bind_some, g1, Option.bind_some, i1]
    dsimp only [Option.bind_some]
    have hl6 : (d.2.1 3).length < 5 := l
    have h131 := i3.2.1.1.1 3 (by decide)
    have o2 := h_end (W := (gR 12 127 46 N3 94).bind fun x29 => (ldI 14 N3 x29 ((3 : Int32))).bind fun v7 => (gR 12 127 47 N3 94).bind fun x1 => (stJ N3 x1 (((24 : Int32) + v7)) v).bind fun M2 => (gR 12 127 51 M2 94).bind fun x3 => (stI M2 x3 (((3 : Int32) * v7)) y).bind fun M4 => (gR 12 127 51 M4 94).bind fun x5 => (stI M4 x5 ((((3 : Int32) * v7) + (1 : Int32))) y2).bind fun M6 => (gR 12 127 51 M6 94).bind fun x7 => (stI M6 x7 ((((3 : Int32) * v7) + (2 : Int32))) y3).bind fun M8 => (gR 12 127 46 M8 94).bind fun x9 => (ldI 14 M8 x9 ((3 : Int32))).bind fun x10 => (stI M8 x9 ((3 : Int32)) ((x10 + (1 : Int32)))).bind fun M11 => some M11) (f := fun a : ((List Nat × Int32) × Int32) × Int32 => addD d 3 (a.1.1.1, [a.1.1.2, a.1.2, a.2, 0])) F i3 i4 (fun a ha => by
      obtain ⟨⟨⟨p1, p2⟩, p3⟩, p4⟩ := ha
      simp (disch := first | assumption | (simp only [wrI_sh, wrI_rf, wrJ_sh, wrJ_rf, StS_wi, StS_wj]; assumption) | omega | rfl | decide) only [gi94, gj94, pi94, pj94, pr94, sr94, gr94_0, gr94_9, gr94_11, gr94_12, gr94_13, gr94_14, gr94_15, gr94_16, gr94_17, gr94_18, gr94_19, gr94_20, gr94_21, gr94_22, gr94_23, gr94_24, gr94_25, gr94_26, gr94_27, gr94_28, gr94_29, gr94_30, gr94_31, gr94_32, gr94_33, gr94_34, gr94_35, gr94_36, gr94_37, gr94_38, gr94_39, gr94_40, gr94_41, gr94_42, gr94_43, gr94_45, gr94_46, gr94_47, gr94_48, gr94_49, gr94_50, gr94_51, gr94_52, gr94_53, gr94_54, gr94_59, gr94_60, gr94_66, gr94_67, gr94_68, gr94_69, gr94_73, gr94_74, gr94_75, gr94_76, gr94_77, gr94_78, gr94_79, gr94_81, gr94_82, gr94_84, gr94_88, gr94_89, gr94_90, gr94_91, gr94_92, gr94_93, gr94_94, gr94_95, gr94_96, gr94_97, gr94_98, gr94_99, gr94_100, gr94_101, gr94_102, gr94_103, gr94_104, gr94_105, gr94_106, gr94_107, gr94_108, gr94_109, gr94_110, gr94_111, gr94_112, gr94_113, gr94_114, gr94_115, gr94_117, gr94_121, gr94_125, ld131, st131, al131, ld132, st132, al132, ld136, st136, al136, wrI_eq, wrI_ne, wrJ_eq, wrJ_ne, wrI_lg, wrJ_in, h131, nlit, nneg, nI_add, pk_mul, nsub, Option.bind_some, if_true, if_false, Nat.reduceEqDiff, Nat.reduceLeDiff, Nat.reduceLT, Nat.reduceAdd, Nat.reduceMul, Nat.reduceSub]
      refine ⟨_, rfl, ?_⟩
      rw [← p2, ← p3, ← p4]
      exact rd_car i3.2.1 hB.2.2 hl6 p1 rfl)
    simp only [sb_a, sb_r] at o2
    exact o2
theorem h_way (hL : Lex b n T e sa sz) (hB : RG b n d M) (hS : RS T e sa sz M (.inr t)) (ov : Bool) (at' : Int32) : ∃ N, f_X12_roadTold 94 (if ov then 1 else 0) at' M = some N ∧ RE b n T e sa sz M N (wayR b T sa sz d ov at' t) := by
  have hs := hB.1.1
  obtain ⟨x, M1, a1, a2⟩ := h_full (kd := 4) hB (by decide) hS at'
  replace a1 : f_X12_isFull 94 4 12 at' M = some (x, M1) := a1
  unfold f_X12_roadTold f_X12_roadTold_B75 wayR
  rw [sr94 hs, a1]
  dsimp only [Option.bind_some]
  rcases a2 with ⟨e1, x1, k1, k2⟩ | ⟨e1, l, x0, k⟩
  · rw [x1, if_neg (by decide), e1]; exact ⟨M1, rfl, up_rd k1, hB.1.rl k1, k2⟩
  · subst k
    rw [x0, if_pos rfl, e1, sb_r]
    have h0 : RH T e sa sz M1 (.inr ((), t)) (fun _ : Unit => True) := ⟨trivial, hS⟩
    obtain ⟨y, N4, d1, d2, d3, d4⟩ := h_old hL hB (show 1 < 4 by decide) h0 (-1) (fun _ => -1) (fun _ _ => rfl)
    replace d1 : f_X12_named 94 1 (-1) M1 = some (y, N4) := d1
    obtain ⟨N5, e1, e2, e3, e4⟩ := h_w2 hL d3 d4 102 (Or.inl ⟨by decide, by decide⟩) (w := 5) rfl
    obtain ⟨y2, N6, f1, f2, f3, f4⟩ := h_old hL e3 (show 1 < 4 by decide) e4 y (fun a => a.2) (fun a ha => ha.2)
    replace f1 : f_X12_named 94 1 y N5 = some (y2, N6) := f1
    obtain ⟨N7, g1, g2, g3, g4⟩ := h_w2 hL f3 f4 103 (Or.inl ⟨by decide, by decide⟩) (w := 6) rfl
    obtain ⟨y3, N8, i1, i2, i3, i4⟩ := h_n hL g3 g4 1 60
    have F := (((d2.tr e2).tr f2).tr g2).tr i2
    rw [d1]; dsimp only [Option.bind_some]
    rw [gr94_16 d3.1.1, Option.bind_some, e1, Option.bind_some, f1]
    dsimp only [Option.bind_some]
    rw [gr94_17 f3.1.1, Option.bind_some, g1, Option.bind_some, i1]
    dsimp only [Option.bind_some]
    have hl6 : (d.2.1 4).length < 12 := l
    cases ov
    · rw [if_pos (by decide)]
      have hs3 := i3.1.1
      have h131 := i3.2.1.1.1 4 (by decide)
      have o2 := h_end (W := (gR 12 127 46 N8 94).bind fun x2 => (ldI 14 N8 x2 ((4 : Int32))).bind fun x3 => (gR 12 127 49 N8 94).bind fun x4 => (stI N8 x4 (((4 : Int32) * x3)) y).bind fun M5 => (gR 12 127 49 M5 94).bind fun x6 => (stI M5 x6 ((((4 : Int32) * x3) + (1 : Int32))) y2).bind fun M7 => (gR 12 127 49 M7 94).bind fun x8 => (stI M7 x8 ((((4 : Int32) * x3) + (2 : Int32))) y3).bind fun M9 => (gR 12 127 49 M9 94).bind fun x10 => (stI M9 x10 ((((4 : Int32) * x3) + (3 : Int32))) (-1)).bind fun M11 => (gR 12 127 46 M11 94).bind fun x12 => (ldI 14 M11 x12 ((4 : Int32))).bind fun x13 => (stI M11 x12 ((4 : Int32)) ((x13 + (1 : Int32)))).bind fun M14 => some M14) (f := fun a : ((Unit × Int32) × Int32) × Int32 => addD d 4 ([], [a.1.1.2, a.1.2, a.2, -1])) F i3 i4 (fun a ha => by
        obtain ⟨⟨⟨p1, p2⟩, p3⟩, p4⟩ := ha
        simp (disch := first | assumption | (simp only [wrI_sh, wrI_rf, wrJ_sh, wrJ_rf, StS_wi, StS_wj]; assumption) | omega | rfl | decide) only [gi94, gj94, pi94, pj94, pr94, sr94, gr94_0, gr94_9, gr94_11, gr94_12, gr94_13, gr94_14, gr94_15, gr94_16, gr94_17, gr94_18, gr94_19, gr94_20, gr94_21, gr94_22, gr94_23, gr94_24, gr94_25, gr94_26, gr94_27, gr94_28, gr94_29, gr94_30, gr94_31, gr94_32, gr94_33, gr94_34, gr94_35, gr94_36, gr94_37, gr94_38, gr94_39, gr94_40, gr94_41, gr94_42, gr94_43, gr94_45, gr94_46, gr94_47, gr94_48, gr94_49, gr94_50, gr94_51, gr94_52, gr94_53, gr94_54, gr94_59, gr94_60, gr94_66, gr94_67, gr94_68, gr94_69, gr94_73, gr94_74, gr94_75, gr94_76, gr94_77, gr94_78, gr94_79, gr94_81, gr94_82, gr94_84, gr94_88, gr94_89, gr94_90, gr94_91, gr94_92, gr94_93, gr94_94, gr94_95, gr94_96, gr94_97, gr94_98, gr94_99, gr94_100, gr94_101, gr94_102, gr94_103, gr94_104, gr94_105, gr94_106, gr94_107, gr94_108, gr94_109, gr94_110, gr94_111, gr94_112, gr94_113, gr94_114, gr94_115, gr94_117, gr94_121, gr94_125, ld131, st131, al131, ld132, st132, al132, ld134, st134, al134, wrI_eq, wrI_ne, wrJ_eq, wrJ_ne, wrI_lg, wrJ_in, h131, nlit, nneg, nI_add, pk_mul, nsub, Option.bind_some, if_true, if_false, Nat.reduceEqDiff, Nat.reduceLeDiff, Nat.reduceLT, Nat.reduceAdd, Nat.reduceMul, Nat.reduceSub]
        refine ⟨_, rfl, ?_⟩
        rw [← p2, ← p3, ← p4]
        exact rd_way i3.2.1 hB.2.2 hl6 rfl)
      simp only [sb_a, sb_r] at o2
      simpa only [Bool.false_eq_true, if_false] using o2
    · rw [if_neg (by decide)]
      obtain ⟨N9, j1, j2, j3, j4⟩ := h_w2 hL i3 i4 105 (Or.inl ⟨by decide, by decide⟩) (w := 8) rfl
      obtain ⟨y4, N3, k1, k2, k3, k4⟩ := h_old hL j3 (show 0 < 4 by decide) j4 (-1) (fun _ => -1) (fun _ _ => rfl)
      replace k1 : f_X12_named 94 0 (-1) N9 = some (y4, N3) := k1
      rw [gr94_19 i3.1.1, Option.bind_some, j1, Option.bind_some, k1]
      dsimp only [Option.bind_some]
      have hs3 := k3.1.1
      have h131 := k3.2.1.1.1 4 (by decide)
      have o2 := h_end (W := (gR 12 127 46 N3 94).bind fun x2 => (ldI 14 N3 x2 ((4 : Int32))).bind fun x3 => (gR 12 127 49 N3 94).bind fun x4 => (stI N3 x4 (((4 : Int32) * x3)) y).bind fun M5 => (gR 12 127 49 M5 94).bind fun x6 => (stI M5 x6 ((((4 : Int32) * x3) + (1 : Int32))) y2).bind fun M7 => (gR 12 127 49 M7 94).bind fun x8 => (stI M7 x8 ((((4 : Int32) * x3) + (2 : Int32))) y3).bind fun M9 => (gR 12 127 49 M9 94).bind fun x10 => (stI M9 x10 ((((4 : Int32) * x3) + (3 : Int32))) y4).bind fun M11 => (gR 12 127 46 M11 94).bind fun x12 => (ldI 14 M11 x12 ((4 : Int32))).bind fun x13 => (stI M11 x12 ((4 : Int32)) ((x13 + (1 : Int32)))).bind fun M14 => some M14) (f := fun a : (((Unit × Int32) × Int32) × Int32) × Int32 => addD d 4 ([], [a.1.1.1.2, a.1.1.2, a.1.2, a.2])) ((F.tr j2).tr k2) k3 k4 (fun a ha => by
        obtain ⟨⟨⟨⟨p1, p2⟩, p3⟩, p4⟩, p5⟩ := ha
        simp (disch := first | assumption | (simp only [wrI_sh, wrI_rf, wrJ_sh, wrJ_rf, StS_wi, StS_wj]; assumption) | omega | rfl | decide) only [gi94, gj94, pi94, pj94, pr94, sr94, gr94_0, gr94_9, gr94_11, gr94_12, gr94_13, gr94_14, gr94_15, gr94_16, gr94_17, gr94_18, gr94_19, gr94_20, gr94_21, gr94_22, gr94_23, gr94_24, gr94_25, gr94_26, gr94_27, gr94_28, gr94_29, gr94_30, gr94_31, gr94_32, gr94_33, gr94_34, gr94_35, gr94_36, gr94_37, gr94_38, gr94_39, gr94_40, gr94_41, gr94_42, gr94_43, gr94_45, gr94_46, gr94_47, gr94_48, gr94_49, gr94_50, gr94_51, gr94_52, gr94_53, gr94_54, gr94_59, gr94_60, gr94_66, gr94_67, gr94_68, gr94_69, gr94_73, gr94_74, gr94_75, gr94_76, gr94_77, gr94_78, gr94_79, gr94_81, gr94_82, gr94_84, gr94_88, gr94_89, gr94_90, gr94_91, gr94_92, gr94_93, gr94_94, gr94_95, gr94_96, gr94_97, gr94_98, gr94_99, gr94_100, gr94_101, gr94_102, gr94_103, gr94_104, gr94_105, gr94_106, gr94_107, gr94_108, gr94_109, gr94_110, gr94_111, gr94_112, gr94_113, gr94_114, gr94_115, gr94_117, gr94_121, gr94_125, ld131, st131, al131, ld132, st132, al132, ld134, st134, al134, wrI_eq, wrI_ne, wrJ_eq, wrJ_ne, wrI_lg, wrJ_in, h131, nlit, nneg, nI_add, pk_mul, nsub, Option.bind_some, if_true, if_false, Nat.reduceEqDiff, Nat.reduceLeDiff, Nat.reduceLT, Nat.reduceAdd, Nat.reduceMul, Nat.reduceSub]
        refine ⟨_, rfl, ?_⟩
        rw [← p2, ← p3, ← p4, ← p5]
        exact rd_way k3.2.1 hB.2.2 hl6 rfl)
      simp only [sb_a, sb_r] at o2
      simpa only [if_true] using o2
end RS4
