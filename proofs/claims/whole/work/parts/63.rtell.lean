/-! THE REFERENCE tells codes -/
def envR (u : Nat → Nat → Int32) (wt : Int) (e c k : Nat) : Int :=
  if k = 0 then (u 94 61).toInt else if k = 1 then (u 94 62).toInt else if k = 2 then (u 135 (15 + 3 * e)).toInt else if k = 3 then (u 135 (16 + 3 * e)).toInt else if k = 4 then (u 94 64).toInt
  else if k = 5 then (u 140 (7 + e)).toInt else if k = 6 then (u 140 0).toInt else if k = 7 then wt else if k = 8 then (u 140 (14 + 3 * c)).toInt else if k = 9 then (c : Int)
  else if k = 10 then (u 140 (12 + 3 * c)).toInt else if k = 11 then (u 140 (13 + 3 * c)).toInt else (u 136 (17 + 3 * c)).toInt
section RT
variable {M : sMem} {e c k : Nat} {wt : Int}
theorem r_knowsOf (hs : RefS M.1 M.2.2.2) (h : c < 5) : f_X12_knowsOf 94 (nI c) M = some (M.2.1 140 (14 + 3 * c)) := by
  unfold f_X12_knowsOf
  simp (disch := first | exact hs | exact hc | exact hD | omega | (simp only [wrI_sh, wrI_rf, wrJ_sh, wrJ_rf]; first | exact hs | exact hc)) only [gi94, gj94, pi94, pj94, pr94, sr94, gr94_0, gr94_9, gr94_11, gr94_12, gr94_13, gr94_14, gr94_15, gr94_16, gr94_17, gr94_18, gr94_19, gr94_20, gr94_21, gr94_22, gr94_23, gr94_24, gr94_25, gr94_26, gr94_27, gr94_28, gr94_29, gr94_30, gr94_31, gr94_32, gr94_33, gr94_34, gr94_35, gr94_36, gr94_37, gr94_38, gr94_39, gr94_40, gr94_41, gr94_42, gr94_43, gr94_45, gr94_46, gr94_47, gr94_48, gr94_49, gr94_50, gr94_51, gr94_52, gr94_53, gr94_54, gr94_59, gr94_60, gr94_66, gr94_67, gr94_68, gr94_69, gr94_73, gr94_74, gr94_75, gr94_76, gr94_77, gr94_78, gr94_79, gr94_81, gr94_82, gr94_84, gr94_88, gr94_89, gr94_90, gr94_91, gr94_92, gr94_93, gr94_94, gr94_95, gr94_96, gr94_97, gr94_98, gr94_99, gr94_100, gr94_101, gr94_102, gr94_103, gr94_104, gr94_105, gr94_106, gr94_107, gr94_108, gr94_109, gr94_110, gr94_111, gr94_112, gr94_113, gr94_114, gr94_115, gr94_117, gr94_121, gr94_125, ld140, st140, al140, nlit, nneg, nI_add, pk_mul, nsub, Option.bind_some, if_true, if_false, Nat.reduceEqDiff, Nat.reduceLeDiff, Nat.reduceLT, Nat.reduceAdd, Nat.reduceMul, Nat.reduceSub]
theorem r_placeOf (hs : RefS M.1 M.2.2.2) (h : c < 5) : f_X12_placeOf 94 (nI c) M = some (M.2.1 140 (12 + 3 * c)) := by
  unfold f_X12_placeOf
  simp (disch := first | exact hs | exact hc | exact hD | omega | (simp only [wrI_sh, wrI_rf, wrJ_sh, wrJ_rf]; first | exact hs | exact hc)) only [gi94, gj94, pi94, pj94, pr94, sr94, gr94_0, gr94_9, gr94_11, gr94_12, gr94_13, gr94_14, gr94_15, gr94_16, gr94_17, gr94_18, gr94_19, gr94_20, gr94_21, gr94_22, gr94_23, gr94_24, gr94_25, gr94_26, gr94_27, gr94_28, gr94_29, gr94_30, gr94_31, gr94_32, gr94_33, gr94_34, gr94_35, gr94_36, gr94_37, gr94_38, gr94_39, gr94_40, gr94_41, gr94_42, gr94_43, gr94_45, gr94_46, gr94_47, gr94_48, gr94_49, gr94_50, gr94_51, gr94_52, gr94_53, gr94_54, gr94_59, gr94_60, gr94_66, gr94_67, gr94_68, gr94_69, gr94_73, gr94_74, gr94_75, gr94_76, gr94_77, gr94_78, gr94_79, gr94_81, gr94_82, gr94_84, gr94_88, gr94_89, gr94_90, gr94_91, gr94_92, gr94_93, gr94_94, gr94_95, gr94_96, gr94_97, gr94_98, gr94_99, gr94_100, gr94_101, gr94_102, gr94_103, gr94_104, gr94_105, gr94_106, gr94_107, gr94_108, gr94_109, gr94_110, gr94_111, gr94_112, gr94_113, gr94_114, gr94_115, gr94_117, gr94_121, gr94_125, ld140, st140, al140, nlit, nneg, nI_add, pk_mul, nsub, Option.bind_some, if_true, if_false, Nat.reduceEqDiff, Nat.reduceLeDiff, Nat.reduceLT, Nat.reduceAdd, Nat.reduceMul, Nat.reduceSub]
theorem r_goalOf (hs : RefS M.1 M.2.2.2) (h : c < 5) : f_X12_goalOf 94 (nI c) M = some (M.2.1 140 (13 + 3 * c)) := by
  unfold f_X12_goalOf
  simp (disch := first | exact hs | exact hc | exact hD | omega | (simp only [wrI_sh, wrI_rf, wrJ_sh, wrJ_rf]; first | exact hs | exact hc)) only [gi94, gj94, pi94, pj94, pr94, sr94, gr94_0, gr94_9, gr94_11, gr94_12, gr94_13, gr94_14, gr94_15, gr94_16, gr94_17, gr94_18, gr94_19, gr94_20, gr94_21, gr94_22, gr94_23, gr94_24, gr94_25, gr94_26, gr94_27, gr94_28, gr94_29, gr94_30, gr94_31, gr94_32, gr94_33, gr94_34, gr94_35, gr94_36, gr94_37, gr94_38, gr94_39, gr94_40, gr94_41, gr94_42, gr94_43, gr94_45, gr94_46, gr94_47, gr94_48, gr94_49, gr94_50, gr94_51, gr94_52, gr94_53, gr94_54, gr94_59, gr94_60, gr94_66, gr94_67, gr94_68, gr94_69, gr94_73, gr94_74, gr94_75, gr94_76, gr94_77, gr94_78, gr94_79, gr94_81, gr94_82, gr94_84, gr94_88, gr94_89, gr94_90, gr94_91, gr94_92, gr94_93, gr94_94, gr94_95, gr94_96, gr94_97, gr94_98, gr94_99, gr94_100, gr94_101, gr94_102, gr94_103, gr94_104, gr94_105, gr94_106, gr94_107, gr94_108, gr94_109, gr94_110, gr94_111, gr94_112, gr94_113, gr94_114, gr94_115, gr94_117, gr94_121, gr94_125, ld140, st140, al140, nlit, nneg, nI_add, pk_mul, nsub, Option.bind_some, if_true, if_false, Nat.reduceEqDiff, Nat.reduceLeDiff, Nat.reduceLT, Nat.reduceAdd, Nat.reduceMul, Nat.reduceSub]
theorem r_minuteOf (hs : RefS M.1 M.2.2.2) (h : c < 5) : f_X12_minuteOf 94 (nI c) M = some (M.2.1 136 (17 + 3 * c)) := by
  unfold f_X12_minuteOf
  simp (disch := first | exact hs | exact hc | exact hD | omega | (simp only [wrI_sh, wrI_rf, wrJ_sh, wrJ_rf]; first | exact hs | exact hc)) only [gi94, gj94, pi94, pj94, pr94, sr94, gr94_0, gr94_9, gr94_11, gr94_12, gr94_13, gr94_14, gr94_15, gr94_16, gr94_17, gr94_18, gr94_19, gr94_20, gr94_21, gr94_22, gr94_23, gr94_24, gr94_25, gr94_26, gr94_27, gr94_28, gr94_29, gr94_30, gr94_31, gr94_32, gr94_33, gr94_34, gr94_35, gr94_36, gr94_37, gr94_38, gr94_39, gr94_40, gr94_41, gr94_42, gr94_43, gr94_45, gr94_46, gr94_47, gr94_48, gr94_49, gr94_50, gr94_51, gr94_52, gr94_53, gr94_54, gr94_59, gr94_60, gr94_66, gr94_67, gr94_68, gr94_69, gr94_73, gr94_74, gr94_75, gr94_76, gr94_77, gr94_78, gr94_79, gr94_81, gr94_82, gr94_84, gr94_88, gr94_89, gr94_90, gr94_91, gr94_92, gr94_93, gr94_94, gr94_95, gr94_96, gr94_97, gr94_98, gr94_99, gr94_100, gr94_101, gr94_102, gr94_103, gr94_104, gr94_105, gr94_106, gr94_107, gr94_108, gr94_109, gr94_110, gr94_111, gr94_112, gr94_113, gr94_114, gr94_115, gr94_117, gr94_121, gr94_125, ld136, st136, al136, nlit, nneg, nI_add, pk_mul, nsub, Option.bind_some, if_true, if_false, Nat.reduceEqDiff, Nat.reduceLeDiff, Nat.reduceLT, Nat.reduceAdd, Nat.reduceMul, Nat.reduceSub]
theorem r_part (hs : RefS M.1 M.2.2.2) (hk : k < 13) (hc5 : c < 5) (hE : k = 2 ∨ k = 3 ∨ k = 5 → M.2.1 94 63 = nI e ∧ e < 5) (hW : k = 7 → (M.2.1 94 58 = 3 ∧ wt = (M.2.1 142 c).toInt) ∨ (M.2.1 94 58 ≠ 3 ∧ wt = (M.2.2.1 94 65).toInt)) :
    ∃ x, f_X12_qPartOf 94 (nI k) (nI c) M = some x ∧ x.toInt = envR M.2.1 wt e c k := by
  have hk' : k = 0 ∨ k = 1 ∨ k = 2 ∨ k = 3 ∨ k = 4 ∨ k = 5 ∨ k = 6 ∨ k = 7 ∨ k = 8 ∨ k = 9 ∨ k = 10 ∨ k = 11 ∨ k = 12 := by omega
  unfold f_X12_qPartOf f_X12_qPartOf_B132
  rw [sr94 hs]
  rcases hk' with rfl | rfl | rfl | rfl | rfl | rfl | rfl | rfl | rfl | rfl | rfl | rfl | rfl
  · exact ⟨_, by rw [if_pos (by decide), gi94 hs]; rfl, by rw [i64]; rfl⟩
  · exact ⟨_, by rw [if_neg (by decide), if_pos (by decide), gi94 hs]; rfl, by rw [i64]; rfl⟩
  · have h := hE (by omega)
    have := h.2
    refine ⟨_, by rw [if_neg (by decide), if_neg (by decide), if_pos (by decide)]; (simp (disch := first | exact hs | exact hc | exact hD | omega | (simp only [wrI_sh, wrI_rf, wrJ_sh, wrJ_rf]; first | exact hs | exact hc)) only [gi94, gj94, pi94, pj94, pr94, sr94, gr94_0, gr94_9, gr94_11, gr94_12, gr94_13, gr94_14, gr94_15, gr94_16, gr94_17, gr94_18, gr94_19, gr94_20, gr94_21, gr94_22, gr94_23, gr94_24, gr94_25, gr94_26, gr94_27, gr94_28, gr94_29, gr94_30, gr94_31, gr94_32, gr94_33, gr94_34, gr94_35, gr94_36, gr94_37, gr94_38, gr94_39, gr94_40, gr94_41, gr94_42, gr94_43, gr94_45, gr94_46, gr94_47, gr94_48, gr94_49, gr94_50, gr94_51, gr94_52, gr94_53, gr94_54, gr94_59, gr94_60, gr94_66, gr94_67, gr94_68, gr94_69, gr94_73, gr94_74, gr94_75, gr94_76, gr94_77, gr94_78, gr94_79, gr94_81, gr94_82, gr94_84, gr94_88, gr94_89, gr94_90, gr94_91, gr94_92, gr94_93, gr94_94, gr94_95, gr94_96, gr94_97, gr94_98, gr94_99, gr94_100, gr94_101, gr94_102, gr94_103, gr94_104, gr94_105, gr94_106, gr94_107, gr94_108, gr94_109, gr94_110, gr94_111, gr94_112, gr94_113, gr94_114, gr94_115, gr94_117, gr94_121, gr94_125, ld135, st135, al135, h.1, nlit, nneg, nI_add, pk_mul, nsub, Option.bind_some, if_true, if_false, Nat.reduceEqDiff, Nat.reduceLeDiff, Nat.reduceLT, Nat.reduceAdd, Nat.reduceMul, Nat.reduceSub]; rfl), by rw [i64]; rfl⟩
  · have h := hE (by omega)
    have := h.2
    refine ⟨_, by rw [if_neg (by decide), if_neg (by decide), if_neg (by decide), if_pos (by decide)]; (simp (disch := first | exact hs | exact hc | exact hD | omega | (simp only [wrI_sh, wrI_rf, wrJ_sh, wrJ_rf]; first | exact hs | exact hc)) only [gi94, gj94, pi94, pj94, pr94, sr94, gr94_0, gr94_9, gr94_11, gr94_12, gr94_13, gr94_14, gr94_15, gr94_16, gr94_17, gr94_18, gr94_19, gr94_20, gr94_21, gr94_22, gr94_23, gr94_24, gr94_25, gr94_26, gr94_27, gr94_28, gr94_29, gr94_30, gr94_31, gr94_32, gr94_33, gr94_34, gr94_35, gr94_36, gr94_37, gr94_38, gr94_39, gr94_40, gr94_41, gr94_42, gr94_43, gr94_45, gr94_46, gr94_47, gr94_48, gr94_49, gr94_50, gr94_51, gr94_52, gr94_53, gr94_54, gr94_59, gr94_60, gr94_66, gr94_67, gr94_68, gr94_69, gr94_73, gr94_74, gr94_75, gr94_76, gr94_77, gr94_78, gr94_79, gr94_81, gr94_82, gr94_84, gr94_88, gr94_89, gr94_90, gr94_91, gr94_92, gr94_93, gr94_94, gr94_95, gr94_96, gr94_97, gr94_98, gr94_99, gr94_100, gr94_101, gr94_102, gr94_103, gr94_104, gr94_105, gr94_106, gr94_107, gr94_108, gr94_109, gr94_110, gr94_111, gr94_112, gr94_113, gr94_114, gr94_115, gr94_117, gr94_121, gr94_125, ld135, st135, al135, h.1, nlit, nneg, nI_add, pk_mul, nsub, Option.bind_some, if_true, if_false, Nat.reduceEqDiff, Nat.reduceLeDiff, Nat.reduceLT, Nat.reduceAdd, Nat.reduceMul, Nat.reduceSub]; rfl), by rw [i64]; rfl⟩
  · exact ⟨_, by rw [if_neg (by decide), if_neg (by decide), if_neg (by decide), if_neg (by decide), if_pos (by decide), gi94 hs]; rfl, by rw [i64]; rfl⟩
  · have h := hE (by omega)
    refine ⟨_, by rw [if_neg (by decide), if_neg (by decide), if_neg (by decide), if_neg (by decide), if_neg (by decide), if_pos (by decide), gi94 hs, Option.bind_some, h.1, r_lateOf hs h.2]; rfl, by rw [i64]; rfl⟩
  · refine ⟨_, by rw [if_neg (by decide), if_neg (by decide), if_neg (by decide), if_neg (by decide), if_neg (by decide), if_neg (by decide), if_pos (by decide)]; (simp (disch := first | exact hs | exact hc | exact hD | omega | (simp only [wrI_sh, wrI_rf, wrJ_sh, wrJ_rf]; first | exact hs | exact hc)) only [gi94, gj94, pi94, pj94, pr94, sr94, gr94_0, gr94_9, gr94_11, gr94_12, gr94_13, gr94_14, gr94_15, gr94_16, gr94_17, gr94_18, gr94_19, gr94_20, gr94_21, gr94_22, gr94_23, gr94_24, gr94_25, gr94_26, gr94_27, gr94_28, gr94_29, gr94_30, gr94_31, gr94_32, gr94_33, gr94_34, gr94_35, gr94_36, gr94_37, gr94_38, gr94_39, gr94_40, gr94_41, gr94_42, gr94_43, gr94_45, gr94_46, gr94_47, gr94_48, gr94_49, gr94_50, gr94_51, gr94_52, gr94_53, gr94_54, gr94_59, gr94_60, gr94_66, gr94_67, gr94_68, gr94_69, gr94_73, gr94_74, gr94_75, gr94_76, gr94_77, gr94_78, gr94_79, gr94_81, gr94_82, gr94_84, gr94_88, gr94_89, gr94_90, gr94_91, gr94_92, gr94_93, gr94_94, gr94_95, gr94_96, gr94_97, gr94_98, gr94_99, gr94_100, gr94_101, gr94_102, gr94_103, gr94_104, gr94_105, gr94_106, gr94_107, gr94_108, gr94_109, gr94_110, gr94_111, gr94_112, gr94_113, gr94_114, gr94_115, gr94_117, gr94_121, gr94_125, ld140, st140, al140, nlit, nneg, nI_add, pk_mul, nsub, Option.bind_some, if_true, if_false, Nat.reduceEqDiff, Nat.reduceLeDiff, Nat.reduceLT, Nat.reduceAdd, Nat.reduceMul, Nat.reduceSub]; rfl), by rw [i64]; rfl⟩
  · rw [if_neg (by decide), if_neg (by decide), if_neg (by decide), if_neg (by decide), if_neg (by decide), if_neg (by decide), if_neg (by decide), if_pos (by decide), gi94 hs, Option.bind_some]
    rcases hW rfl with ⟨h1, h2⟩ | ⟨h1, h2⟩
    · refine ⟨_, by rw [if_pos h1, gr94_66 hs, Option.bind_some, ld142 hs hc5]; rfl, by rw [i64, ← h2]; rfl⟩
    · refine ⟨_, by rw [if_neg h1, gj94 hs]; rfl, by rw [← h2]; rfl⟩
  · refine ⟨_, by rw [if_neg (by decide), if_neg (by decide), if_neg (by decide), if_neg (by decide), if_neg (by decide), if_neg (by decide), if_neg (by decide), if_neg (by decide), if_pos (by decide), r_knowsOf hs hc5]; rfl, by rw [i64]; rfl⟩
  · refine ⟨_, by rw [if_neg (by decide), if_neg (by decide), if_neg (by decide), if_neg (by decide), if_neg (by decide), if_neg (by decide), if_neg (by decide), if_neg (by decide), if_neg (by decide), if_pos (by decide)], by rw [i64, nI_i (by omega)]; rfl⟩
  · refine ⟨_, by rw [if_neg (by decide), if_neg (by decide), if_neg (by decide), if_neg (by decide), if_neg (by decide), if_neg (by decide), if_neg (by decide), if_neg (by decide), if_neg (by decide), if_neg (by decide), if_pos (by decide), r_placeOf hs hc5]; rfl, by rw [i64]; rfl⟩
  · refine ⟨_, by rw [if_neg (by decide), if_neg (by decide), if_neg (by decide), if_neg (by decide), if_neg (by decide), if_neg (by decide), if_neg (by decide), if_neg (by decide), if_neg (by decide), if_neg (by decide), if_neg (by decide), if_pos (by decide), r_goalOf hs hc5]; rfl, by rw [i64]; rfl⟩
  · refine ⟨_, by rw [if_neg (by decide), if_neg (by decide), if_neg (by decide), if_neg (by decide), if_neg (by decide), if_neg (by decide), if_neg (by decide), if_neg (by decide), if_neg (by decide), if_neg (by decide), if_neg (by decide), if_neg (by decide), r_minuteOf hs hc5]; rfl, by rw [i64]; rfl⟩
end RT
section RU
variable {N : sMem} {k c : Nat} {s : List Int} {T T' : List Bool} {env : Nat → Int} {sh dr : Int → Int}
/-- what a put leaves -/
theorem r_put {N1 : sMem} {t : List Int} (hs : RefS N.1 N.2.2.2) (x : Int64) (f1 : Fr pR2 qR2 N N1) (f2 : N1.2.1 94 122 = nI t.length) (f3 : t.length < 61) (f4 : Stk (fun i => (N1.2.2.1 185 i).toInt) t) :
    ∃ N', f_X12_qPuts 94 x N1 = some N' ∧ Fr pR2 qR2 N N' ∧ N'.2.1 94 122 = nI (x.toInt :: t).length ∧ Stk (fun i => (N'.2.2.1 185 i).toInt) (x.toInt :: t) := by
  refine ⟨_, r_puts (f1.hs hs) f2 (by omega) x, (f1.wj (a := 185) rfl).wi rfl, wrI_eq, ?_, ?_⟩
  · show ((wrJ N1 185 t.length x).2.2.1 185 t.length).toInt = x.toInt
    rw [wrJ_eq]
  · refine f4.cong (fun i hi => ?_)
    show ((wrJ N1 185 t.length x).2.2.1 185 i).toInt = (N1.2.2.1 185 i).toInt
    rw [wrJ_ne (by omega)]
/-- one code that isn't one of a number -/
theorem r_tell_step {wh car en : Nat} (hs : RefS N.1 N.2.2.2) (hw : wh < 3) (hend : N.2.1 138 (3 + wh) = nI en) (hk : k < en) (hen : en ≤ 1600) (hcode : N.2.1 139 (1600 + k) = nI c)
    (hpt : 40 ≤ c → c < 53 → ∃ x, f_X12_qPartOf 94 (nI (c - 40)) (nI car) N = some x ∧ x.toInt = env (c - 40)) (he : Env env sh dr [c])
    (ht : N.2.1 94 122 = nI s.length) (hS : Stk (fun i => (N.2.2.1 185 i).toInt) s) (hT : Tyd T s) (hl : T.length ≤ 60) (hty : tyS c T = some T') (hl' : T'.length ≤ 60) (h60 : c < 60 ∨ 1000 ≤ c) :
    ∃ N', f_X12_codesTell_K19 94 (nI wh) (nI car) (nI k) N = some (.inl (nI (k + 1), N')) ∧ Fr pR2 qR2 N N' ∧ N'.2.1 94 122 = nI (evS env sh dr c s).length ∧ Stk (fun i => (N'.2.2.1 185 i).toInt) (evS env sh dr c s) ∧ Tyd T' (evS env sh dr c s) := by
  have hTl := hT.len
  have hev := ev_ty he hty hT
  unfold f_X12_codesTell_K19 f_X12_codesTell_B144 f_X12_codesTell_B111
  rw [gr94_53 hs, Option.bind_some, nl 3, nI_add, ld138 hs (by omega), Option.bind_some, hend, if_neg (by rw [cle (by omega) (by omega)]; omega), gr94_54 hs, Option.bind_some, nl 1600, nI_add, ld139 hs (by omega), Option.bind_some, hcode, nl 1000, nl 40, nl 13, nl 12, nl 1, nI_add]
  have hc11 : c < 11000 := by
    rcases ty_cases hty with ⟨h1, h2, _⟩ | ⟨h1, _⟩ | ⟨h1, h2, _⟩ | ⟨rfl, _⟩ | ⟨rfl, _⟩ | ⟨h1, h2, _⟩ <;> omega
  simp (disch := omega) only [clt, ceq]
  rcases ty_cases hty with ⟨h1, h2, rfl⟩ | ⟨h1, t, rfl, rfl⟩ | ⟨h1, h2, rfl⟩ | ⟨rfl, rfl⟩ | ⟨rfl, t, rfl, rfl⟩ | ⟨h1, h2, t, rfl, rfl⟩
  · have eev : evS env sh dr c s = ((c - 1000 : Nat) : Int) :: s := by unfold evS; rw [if_pos h1]
    rw [eev] at hev ⊢
    rw [if_neg (by omega), nsub h1]
    obtain ⟨N', g1, g2, g3, g4⟩ := r_put hs (nI (c - 1000)).toInt64 Fr.rf ht (by omega) hS
    rw [i64, nI_i (by omega)] at g3 g4
    rw [g1]
    exact ⟨N', rfl, g2, g3, g4, hev⟩
  · exfalso; omega
  · have eev : evS env sh dr c s = env (c - 40) :: s := by unfold evS; rw [if_neg (by omega), if_neg (by omega), if_pos h1]
    rw [eev] at hev ⊢
    rw [if_pos (by omega), if_neg (by omega), nsub h1]
    obtain ⟨x, e1, e2⟩ := hpt h1 h2
    obtain ⟨N', g1, g2, g3, g4⟩ := r_put hs x Fr.rf ht (by omega) hS
    rw [e2] at g3 g4
    rw [e1, Option.bind_some, g1]
    exact ⟨N', rfl, g2, g3, g4, hev⟩
  · have eev : evS env sh dr 13 s = 1 :: s := rfl
    rw [eev] at hev ⊢
    rw [if_pos (by decide), if_pos (by decide), if_pos rfl]
    obtain ⟨N', g1, g2, g3, g4⟩ := r_put hs (1 : Int64) Fr.rf ht (by omega) hS
    rw [g1]
    exact ⟨N', rfl, g2, g3, g4, hev⟩
  · match s, hT with
    | v :: s, hT =>
    have eev : evS env sh dr 12 (v :: s) = (1 - v) :: s := rfl
    have hl2 : t.length = s.length := (Tyd.len hT.2).symm
    have hl3 : t.length + 1 ≤ 60 := hl
    rw [eev] at hev ⊢
    have ht' : N.2.1 94 122 = nI (s.length + 1) := ht
    have e1 : nI (s.length + 1) - nI 1 = nI s.length := nsub (a := s.length + 1) (b := 1) (by omega)
    rw [if_pos (by decide), if_pos (by decide), if_neg (by decide), if_pos rfl, gr94_121 hs, Option.bind_some, gi94 hs, Option.bind_some, Option.bind_some, ht', Option.bind_some, e1, ld185 hs (by omega), Option.bind_some, st185 hs (by omega), Option.bind_some]
    have hv : ((1 : Int64) - N.2.2.1 185 s.length).toInt = 1 - v := by
      have h4 : (N.2.2.1 185 s.length).toInt = v := hS.1
      have := hT.1.1 rfl
      rw [Int64.toInt_sub, h4, show (1 : Int64).toInt = 1 from rfl, b64 (by omega) (by omega)]
    unfold f_X12_codesTell_B144
    rw [nl 1, nI_add]
    refine ⟨_, rfl, Fr.rf.wj (a := 185) rfl, ht', ⟨?_, hS.2.cong (fun i hi => ?_)⟩, hev⟩
    · show ((wrJ N 185 s.length _).2.2.1 185 s.length).toInt = 1 - v
      rw [wrJ_eq, hv]
    · show ((wrJ N 185 s.length _).2.2.1 185 i).toInt = (N.2.2.1 185 i).toInt
      rw [wrJ_ne (by omega)]
  · match s, hT with
    | b :: a :: s, hT =>
    have hl2 : t.length = s.length := (Tyd.len hT.2.2).symm
    have hl3 : t.length + 1 + 1 ≤ 60 := hl
    have eev : evS env sh dr c (b :: a :: s) = opI c a b :: s := by
      unfold evS; rw [if_neg (by omega), if_neg (by omega), if_neg (by omega), if_neg (by omega), if_neg (by omega)]
    rw [eev] at hev ⊢
    rw [if_pos (by omega), if_pos (by omega), if_neg (by omega), if_neg (by omega)]
    have ht' : N.2.1 94 122 = nI (s.length + 2) := ht
    have ha : (N.2.2.1 185 s.length).toInt = a := hS.2.1
    have hb : (N.2.2.1 185 (s.length + 1)).toInt = b := hS.1
    obtain ⟨r, g1, g2⟩ := r_joins hs ht' (by omega) h1 h2 (by rw [ha]; exact hT.2.1) (by rw [hb]; exact hT.1)
    rw [g1, Option.bind_some]
    rw [ha, hb] at g2
    refine ⟨_, rfl, ((Fr.rf.wi rfl).wj (a := 185) rfl).wi rfl, wrI_eq, ⟨?_, hS.2.2.cong (fun i hi => ?_)⟩, hev⟩
    · show ((wrJ (wrI N 94 122 _) 185 s.length r).2.2.1 185 s.length).toInt = _
      rw [wrJ_eq, g2]
    · show ((wrJ (wrI N 94 122 _) 185 s.length r).2.2.1 185 i).toInt = (N.2.2.1 185 i).toInt
      rw [wrJ_ne (by omega)]; rfl
end RU
