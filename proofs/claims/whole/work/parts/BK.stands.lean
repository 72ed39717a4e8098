/-! THE REFERENCE lets a district stand -/
section SDS
variable {M : sMem}
/-- a loop that copies the first slots of some cells behind -/
theorem cp_loop {f : Int32 × sMem → Option ((Int32 × sMem) ⊕ sMem)} (cs : List Nat) (n off : Nat) (h94 : 94 ∉ cs) (hn : n ≤ off) (hn2 : n < 900000) (hs : RefS M.1 M.2.2.2) (U : Nat → sMem → sMem) (hU : ∀ k s, (U k s).1 = s.1 ∧ (U k s).2.2 = s.2.2 ∧ ∀ a j, (U k s).2.1 a j = if a ∈ cs ∧ j = off + k then s.2.1 a k else s.2.1 a j)
    (hK : ∀ k s, RefS s.1 s.2.2.2 → (∀ j, s.2.1 94 j = M.2.1 94 j) → k < n → f (nI k, s) = some (.inl (nI (k + 1), U k s))) (hE : ∀ s, RefS s.1 s.2.2.2 → (∀ j, s.2.1 94 j = M.2.1 94 j) → f (nI n, s) = some (.inr s)) :
    ∃ r, sItr f sFuel (0, M) = some r ∧ r.1 = M.1 ∧ r.2.2 = M.2.2 ∧ ∀ a j, r.2.1 a j = if a ∈ cs ∧ off ≤ j ∧ j < off + n then M.2.1 a (j - off) else M.2.1 a j := by
  obtain ⟨r, r1, r2, r3, r4⟩ := itr_g (f := f) (fun k s => (nI k, s)) (fun k s => s.1 = M.1 ∧ s.2.2 = M.2.2 ∧ ∀ a j, s.2.1 a j = if a ∈ cs ∧ off ≤ j ∧ j < off + k then M.2.1 a (j - off) else M.2.1 a j) (fun s => s.1 = M.1 ∧ s.2.2 = M.2.2 ∧ ∀ a j, s.2.1 a j = if a ∈ cs ∧ off ≤ j ∧ j < off + n then M.2.1 a (j - off) else M.2.1 a j) n hn2 (fun k s hk hI => by
    obtain ⟨i1, i2, i3⟩ := hI
    have hss : RefS s.1 s.2.2.2 := by rw [i1, i2]; exact hs
    have h4 : ∀ j, s.2.1 94 j = M.2.1 94 j := fun j => by rw [i3, if_neg (fun z => h94 z.1)]
    by_cases q : k < n
    · left
      refine ⟨q, U k s, hK k s hss h4 q, ?_⟩
      obtain ⟨u1, u2, u3⟩ := hU k s
      refine ⟨u1.trans i1, u2.trans i2, fun a j => ?_⟩
      rw [u3]
      by_cases w : a ∈ cs
      · by_cases w1 : j = off + k
        · rw [if_pos ⟨w, w1⟩, if_pos ⟨w, by omega, by omega⟩, i3, if_neg (by omega), show j - off = k by omega]
        · rw [if_neg (fun z => w1 z.2), i3]
          by_cases w2 : off ≤ j ∧ j < off + k
          · rw [if_pos ⟨w, w2⟩, if_pos ⟨w, by omega, by omega⟩]
          · rw [if_neg (fun z => w2 z.2), if_neg (fun z => w2 ⟨z.2.1, by omega⟩)]
      · rw [if_neg (fun z => w z.1), i3, if_neg (fun z => w z.1), if_neg (fun z => w z.1)]
    · right
      have hkn : k = n := by omega
      subst hkn
      exact ⟨s, hE s hss h4, i1, i2, i3⟩) (i := 0) (s := M) (Nat.zero_le _) ⟨rfl, rfl, fun a j => by rw [if_neg (by omega)]⟩
  exact ⟨r, r1, r2, r3, r4⟩
theorem U1 (c off k : Nat) (s : sMem) : (wrI s c (off + k) (s.2.1 c k)).1 = s.1 ∧ (wrI s c (off + k) (s.2.1 c k)).2.2 = s.2.2 ∧ ∀ a j, (wrI s c (off + k) (s.2.1 c k)).2.1 a j = if a ∈ [c] ∧ j = off + k then s.2.1 a k else s.2.1 a j := by
  refine ⟨rfl, rfl, fun a j => ?_⟩
  rw [wrI_get]
  by_cases q : a = c
  · subst q; simp
  · rw [if_neg (fun z => q z.1), if_neg (fun z => q (by simpa using z.1))]
theorem U2 (c c' off k : Nat) (hne : c ≠ c') (s : sMem) : (wrI (wrI s c (off + k) (s.2.1 c k)) c' (off + k) (s.2.1 c' k)).1 = s.1 ∧ (wrI (wrI s c (off + k) (s.2.1 c k)) c' (off + k) (s.2.1 c' k)).2.2 = s.2.2 ∧ ∀ a j, (wrI (wrI s c (off + k) (s.2.1 c k)) c' (off + k) (s.2.1 c' k)).2.1 a j = if a ∈ [c, c'] ∧ j = off + k then s.2.1 a k else s.2.1 a j := by
  refine ⟨rfl, rfl, fun a j => ?_⟩
  rw [wrI_get, wrI_get]
  by_cases q : a = c'
  · subst q
    by_cases w : j = off + k
    · rw [if_pos ⟨rfl, w⟩, if_pos ⟨by simp, w⟩]
    · rw [if_neg (fun z => w z.2), if_neg (fun z => w z.2), if_neg (fun z => w z.2)]
  · rw [if_neg (fun z => q z.1)]
    by_cases q2 : a = c
    · subst q2; simp
    · rw [if_neg (fun z => q2 z.1), if_neg (fun z => by have := z.1; simp at this; omega)]
theorem s_7 (hs : RefS M.1 M.2.2.2) : ∃ r, f_X12_stands_L7 94 0 M = f_X12_stands_B32 94 r ∧ r.1 = M.1 ∧ r.2.2 = M.2.2 ∧ ∀ a j, r.2.1 a j = if a ∈ [130] ∧ 2 ≤ j ∧ j < 2 + 2 then M.2.1 a (j - 2) else M.2.1 a j := by
  obtain ⟨r, r1, r2⟩ := cp_loop (f := fun a : Int32 × sMem => f_X12_stands_K7 94 a.1 a.2) [130] 2 2 (by decide) (by decide) (by decide) hs (fun k s => wrI s 130 (2 + k) (s.2.1 130 k)) (fun k s => U1 130 2 k s) (fun k s hss _ hk => by
    dsimp only; unfold f_X12_stands_K7; simp (disch := first | assumption | (simp only [wrI_sh, wrI_rf, wrJ_sh, wrJ_rf, StS_wi, StS_wj]; assumption) | omega | rfl | decide) only [gi94, gj94, pi94, pj94, pr94, sr94, gr94_0, gr94_9, gr94_11, gr94_12, gr94_13, gr94_14, gr94_15, gr94_16, gr94_17, gr94_18, gr94_19, gr94_20, gr94_21, gr94_22, gr94_23, gr94_24, gr94_25, gr94_26, gr94_27, gr94_28, gr94_29, gr94_30, gr94_31, gr94_32, gr94_33, gr94_34, gr94_35, gr94_36, gr94_37, gr94_38, gr94_39, gr94_40, gr94_41, gr94_42, gr94_43, gr94_45, gr94_46, gr94_47, gr94_48, gr94_49, gr94_50, gr94_51, gr94_52, gr94_53, gr94_54, gr94_59, gr94_60, gr94_66, gr94_67, gr94_68, gr94_69, gr94_73, gr94_74, gr94_75, gr94_76, gr94_77, gr94_78, gr94_79, gr94_81, gr94_82, gr94_84, gr94_88, gr94_89, gr94_90, gr94_91, gr94_92, gr94_93, gr94_94, gr94_95, gr94_96, gr94_97, gr94_98, gr94_99, gr94_100, gr94_101, gr94_102, gr94_103, gr94_104, gr94_105, gr94_106, gr94_107, gr94_108, gr94_109, gr94_110, gr94_111, gr94_112, gr94_113, gr94_114, gr94_115, gr94_117, gr94_121, gr94_125, ld130, st130, al130, cle, clt, ceq, cneg, cneg', nlit, nneg, nI_add, pk_mul, nsub, Option.bind_some, if_true, if_false, Nat.reduceEqDiff, Nat.reduceLeDiff, Nat.reduceLT, Nat.reduceAdd, Nat.reduceMul, Nat.reduceSub]; rw [if_neg (by omega)]) (fun s hss _ => by dsimp only; unfold f_X12_stands_K7; rw [if_pos (by decide)])
  exact ⟨r, by unfold f_X12_stands_L7; rw [r1]; rfl, r2⟩
theorem s_34 (hs : RefS M.1 M.2.2.2) : ∃ r, f_X12_stands_B32 94 M = f_X12_stands_B59 94 r ∧ r.1 = M.1 ∧ r.2.2 = M.2.2 ∧ ∀ a j, r.2.1 a j = if a ∈ [131] ∧ 5 ≤ j ∧ j < 5 + 5 then M.2.1 a (j - 5) else M.2.1 a j := by
  obtain ⟨r, r1, r2⟩ := cp_loop (f := fun a : Int32 × sMem => f_X12_stands_K34 94 a.1 a.2) [131] 5 5 (by decide) (by decide) (by decide) hs (fun k s => wrI s 131 (5 + k) (s.2.1 131 k)) (fun k s => U1 131 5 k s) (fun k s hss _ hk => by
    dsimp only; unfold f_X12_stands_K34; simp (disch := first | assumption | (simp only [wrI_sh, wrI_rf, wrJ_sh, wrJ_rf, StS_wi, StS_wj]; assumption) | omega | rfl | decide) only [gi94, gj94, pi94, pj94, pr94, sr94, gr94_0, gr94_9, gr94_11, gr94_12, gr94_13, gr94_14, gr94_15, gr94_16, gr94_17, gr94_18, gr94_19, gr94_20, gr94_21, gr94_22, gr94_23, gr94_24, gr94_25, gr94_26, gr94_27, gr94_28, gr94_29, gr94_30, gr94_31, gr94_32, gr94_33, gr94_34, gr94_35, gr94_36, gr94_37, gr94_38, gr94_39, gr94_40, gr94_41, gr94_42, gr94_43, gr94_45, gr94_46, gr94_47, gr94_48, gr94_49, gr94_50, gr94_51, gr94_52, gr94_53, gr94_54, gr94_59, gr94_60, gr94_66, gr94_67, gr94_68, gr94_69, gr94_73, gr94_74, gr94_75, gr94_76, gr94_77, gr94_78, gr94_79, gr94_81, gr94_82, gr94_84, gr94_88, gr94_89, gr94_90, gr94_91, gr94_92, gr94_93, gr94_94, gr94_95, gr94_96, gr94_97, gr94_98, gr94_99, gr94_100, gr94_101, gr94_102, gr94_103, gr94_104, gr94_105, gr94_106, gr94_107, gr94_108, gr94_109, gr94_110, gr94_111, gr94_112, gr94_113, gr94_114, gr94_115, gr94_117, gr94_121, gr94_125, ld131, st131, al131, cle, clt, ceq, cneg, cneg', nlit, nneg, nI_add, pk_mul, nsub, Option.bind_some, if_true, if_false, Nat.reduceEqDiff, Nat.reduceLeDiff, Nat.reduceLT, Nat.reduceAdd, Nat.reduceMul, Nat.reduceSub]; rw [if_neg (by omega)]) (fun s hss _ => by dsimp only; unfold f_X12_stands_K34; rw [if_pos (by decide)])
  exact ⟨r, by unfold f_X12_stands_B32 f_X12_stands_L34; rw [r1]; rfl, r2⟩
theorem s_61 (hs : RefS M.1 M.2.2.2) : ∃ r, f_X12_stands_B59 94 M = f_X12_stands_B100 94 r ∧ r.1 = M.1 ∧ r.2.2 = M.2.2 ∧ ∀ a j, r.2.1 a j = if a ∈ [137, 138] ∧ 3 ≤ j ∧ j < 3 + 3 then M.2.1 a (j - 3) else M.2.1 a j := by
  obtain ⟨r, r1, r2⟩ := cp_loop (f := fun a : Int32 × sMem => f_X12_stands_K61 94 a.1 a.2) [137, 138] 3 3 (by decide) (by decide) (by decide) hs (fun k s => wrI (wrI s 137 (3 + k) (s.2.1 137 k)) 138 (3 + k) (s.2.1 138 k)) (fun k s => U2 137 138 3 k (by decide) s) (fun k s hss _ hk => by
    dsimp only; unfold f_X12_stands_K61; simp (disch := first | assumption | (simp only [wrI_sh, wrI_rf, wrJ_sh, wrJ_rf, StS_wi, StS_wj]; assumption) | omega | rfl | decide) only [gi94, gj94, pi94, pj94, pr94, sr94, gr94_0, gr94_9, gr94_11, gr94_12, gr94_13, gr94_14, gr94_15, gr94_16, gr94_17, gr94_18, gr94_19, gr94_20, gr94_21, gr94_22, gr94_23, gr94_24, gr94_25, gr94_26, gr94_27, gr94_28, gr94_29, gr94_30, gr94_31, gr94_32, gr94_33, gr94_34, gr94_35, gr94_36, gr94_37, gr94_38, gr94_39, gr94_40, gr94_41, gr94_42, gr94_43, gr94_45, gr94_46, gr94_47, gr94_48, gr94_49, gr94_50, gr94_51, gr94_52, gr94_53, gr94_54, gr94_59, gr94_60, gr94_66, gr94_67, gr94_68, gr94_69, gr94_73, gr94_74, gr94_75, gr94_76, gr94_77, gr94_78, gr94_79, gr94_81, gr94_82, gr94_84, gr94_88, gr94_89, gr94_90, gr94_91, gr94_92, gr94_93, gr94_94, gr94_95, gr94_96, gr94_97, gr94_98, gr94_99, gr94_100, gr94_101, gr94_102, gr94_103, gr94_104, gr94_105, gr94_106, gr94_107, gr94_108, gr94_109, gr94_110, gr94_111, gr94_112, gr94_113, gr94_114, gr94_115, gr94_117, gr94_121, gr94_125, ld137, st137, al137, ld138, st138, al138, cle, clt, ceq, cneg, cneg', wrI_eq, wrI_ne, wrJ_eq, wrJ_ne, wrI_lg, wrJ_in, nlit, nneg, nI_add, pk_mul, nsub, Option.bind_some, if_true, if_false, Nat.reduceEqDiff, Nat.reduceLeDiff, Nat.reduceLT, Nat.reduceAdd, Nat.reduceMul, Nat.reduceSub]; rw [if_neg (by omega)]) (fun s hss _ => by dsimp only; unfold f_X12_stands_K61; rw [if_pos (by decide)])
  exact ⟨r, by unfold f_X12_stands_B59 f_X12_stands_L61; rw [r1]; rfl, r2⟩
theorem s_131 (hs : RefS M.1 M.2.2.2) : ∃ r, f_X12_stands_B129 94 M = f_X12_stands_B158 94 r ∧ r.1 = M.1 ∧ r.2.2 = M.2.2 ∧ ∀ a j, r.2.1 a j = if a ∈ [133] ∧ 6 ≤ j ∧ j < 6 + 6 then M.2.1 a (j - 6) else M.2.1 a j := by
  obtain ⟨r, r1, r2⟩ := cp_loop (f := fun a : Int32 × sMem => f_X12_stands_K131 94 a.1 a.2) [133] 6 6 (by decide) (by decide) (by decide) hs (fun k s => wrI s 133 (6 + k) (s.2.1 133 k)) (fun k s => U1 133 6 k s) (fun k s hss _ hk => by
    dsimp only; unfold f_X12_stands_K131; simp (disch := first | assumption | (simp only [wrI_sh, wrI_rf, wrJ_sh, wrJ_rf, StS_wi, StS_wj]; assumption) | omega | rfl | decide) only [gi94, gj94, pi94, pj94, pr94, sr94, gr94_0, gr94_9, gr94_11, gr94_12, gr94_13, gr94_14, gr94_15, gr94_16, gr94_17, gr94_18, gr94_19, gr94_20, gr94_21, gr94_22, gr94_23, gr94_24, gr94_25, gr94_26, gr94_27, gr94_28, gr94_29, gr94_30, gr94_31, gr94_32, gr94_33, gr94_34, gr94_35, gr94_36, gr94_37, gr94_38, gr94_39, gr94_40, gr94_41, gr94_42, gr94_43, gr94_45, gr94_46, gr94_47, gr94_48, gr94_49, gr94_50, gr94_51, gr94_52, gr94_53, gr94_54, gr94_59, gr94_60, gr94_66, gr94_67, gr94_68, gr94_69, gr94_73, gr94_74, gr94_75, gr94_76, gr94_77, gr94_78, gr94_79, gr94_81, gr94_82, gr94_84, gr94_88, gr94_89, gr94_90, gr94_91, gr94_92, gr94_93, gr94_94, gr94_95, gr94_96, gr94_97, gr94_98, gr94_99, gr94_100, gr94_101, gr94_102, gr94_103, gr94_104, gr94_105, gr94_106, gr94_107, gr94_108, gr94_109, gr94_110, gr94_111, gr94_112, gr94_113, gr94_114, gr94_115, gr94_117, gr94_121, gr94_125, ld133, st133, al133, cle, clt, ceq, cneg, cneg', nlit, nneg, nI_add, pk_mul, nsub, Option.bind_some, if_true, if_false, Nat.reduceEqDiff, Nat.reduceLeDiff, Nat.reduceLT, Nat.reduceAdd, Nat.reduceMul, Nat.reduceSub]; rw [if_neg (by omega)]) (fun s hss _ => by dsimp only; unfold f_X12_stands_K131; rw [if_pos (by decide)])
  exact ⟨r, by unfold f_X12_stands_B129 f_X12_stands_L131; rw [r1]; rfl, r2⟩
theorem s_160 (hs : RefS M.1 M.2.2.2) : ∃ r, f_X12_stands_B158 94 M = f_X12_stands_B187 94 r ∧ r.1 = M.1 ∧ r.2.2 = M.2.2 ∧ ∀ a j, r.2.1 a j = if a ∈ [134] ∧ 48 ≤ j ∧ j < 48 + 48 then M.2.1 a (j - 48) else M.2.1 a j := by
  obtain ⟨r, r1, r2⟩ := cp_loop (f := fun a : Int32 × sMem => f_X12_stands_K160 94 a.1 a.2) [134] 48 48 (by decide) (by decide) (by decide) hs (fun k s => wrI s 134 (48 + k) (s.2.1 134 k)) (fun k s => U1 134 48 k s) (fun k s hss _ hk => by
    dsimp only; unfold f_X12_stands_K160; simp (disch := first | assumption | (simp only [wrI_sh, wrI_rf, wrJ_sh, wrJ_rf, StS_wi, StS_wj]; assumption) | omega | rfl | decide) only [gi94, gj94, pi94, pj94, pr94, sr94, gr94_0, gr94_9, gr94_11, gr94_12, gr94_13, gr94_14, gr94_15, gr94_16, gr94_17, gr94_18, gr94_19, gr94_20, gr94_21, gr94_22, gr94_23, gr94_24, gr94_25, gr94_26, gr94_27, gr94_28, gr94_29, gr94_30, gr94_31, gr94_32, gr94_33, gr94_34, gr94_35, gr94_36, gr94_37, gr94_38, gr94_39, gr94_40, gr94_41, gr94_42, gr94_43, gr94_45, gr94_46, gr94_47, gr94_48, gr94_49, gr94_50, gr94_51, gr94_52, gr94_53, gr94_54, gr94_59, gr94_60, gr94_66, gr94_67, gr94_68, gr94_69, gr94_73, gr94_74, gr94_75, gr94_76, gr94_77, gr94_78, gr94_79, gr94_81, gr94_82, gr94_84, gr94_88, gr94_89, gr94_90, gr94_91, gr94_92, gr94_93, gr94_94, gr94_95, gr94_96, gr94_97, gr94_98, gr94_99, gr94_100, gr94_101, gr94_102, gr94_103, gr94_104, gr94_105, gr94_106, gr94_107, gr94_108, gr94_109, gr94_110, gr94_111, gr94_112, gr94_113, gr94_114, gr94_115, gr94_117, gr94_121, gr94_125, ld134, st134, al134, cle, clt, ceq, cneg, cneg', nlit, nneg, nI_add, pk_mul, nsub, Option.bind_some, if_true, if_false, Nat.reduceEqDiff, Nat.reduceLeDiff, Nat.reduceLT, Nat.reduceAdd, Nat.reduceMul, Nat.reduceSub]; rw [if_neg (by omega)]) (fun s hss _ => by dsimp only; unfold f_X12_stands_K160; rw [if_pos (by decide)])
  exact ⟨r, by unfold f_X12_stands_B158 f_X12_stands_L160; rw [r1]; rfl, r2⟩
theorem s_189 (hs : RefS M.1 M.2.2.2) : ∃ r, f_X12_stands_B187 94 M = f_X12_stands_B231 94 r ∧ r.1 = M.1 ∧ r.2.2 = M.2.2 ∧ ∀ a j, r.2.1 a j = if a ∈ [135, 136] ∧ 15 ≤ j ∧ j < 15 + 15 then M.2.1 a (j - 15) else M.2.1 a j := by
  obtain ⟨r, r1, r2⟩ := cp_loop (f := fun a : Int32 × sMem => f_X12_stands_K189 94 a.1 a.2) [135, 136] 15 15 (by decide) (by decide) (by decide) hs (fun k s => wrI (wrI s 135 (15 + k) (s.2.1 135 k)) 136 (15 + k) (s.2.1 136 k)) (fun k s => U2 135 136 15 k (by decide) s) (fun k s hss _ hk => by
    dsimp only; unfold f_X12_stands_K189; simp (disch := first | assumption | (simp only [wrI_sh, wrI_rf, wrJ_sh, wrJ_rf, StS_wi, StS_wj]; assumption) | omega | rfl | decide) only [gi94, gj94, pi94, pj94, pr94, sr94, gr94_0, gr94_9, gr94_11, gr94_12, gr94_13, gr94_14, gr94_15, gr94_16, gr94_17, gr94_18, gr94_19, gr94_20, gr94_21, gr94_22, gr94_23, gr94_24, gr94_25, gr94_26, gr94_27, gr94_28, gr94_29, gr94_30, gr94_31, gr94_32, gr94_33, gr94_34, gr94_35, gr94_36, gr94_37, gr94_38, gr94_39, gr94_40, gr94_41, gr94_42, gr94_43, gr94_45, gr94_46, gr94_47, gr94_48, gr94_49, gr94_50, gr94_51, gr94_52, gr94_53, gr94_54, gr94_59, gr94_60, gr94_66, gr94_67, gr94_68, gr94_69, gr94_73, gr94_74, gr94_75, gr94_76, gr94_77, gr94_78, gr94_79, gr94_81, gr94_82, gr94_84, gr94_88, gr94_89, gr94_90, gr94_91, gr94_92, gr94_93, gr94_94, gr94_95, gr94_96, gr94_97, gr94_98, gr94_99, gr94_100, gr94_101, gr94_102, gr94_103, gr94_104, gr94_105, gr94_106, gr94_107, gr94_108, gr94_109, gr94_110, gr94_111, gr94_112, gr94_113, gr94_114, gr94_115, gr94_117, gr94_121, gr94_125, ld135, st135, al135, ld136, st136, al136, cle, clt, ceq, cneg, cneg', wrI_eq, wrI_ne, wrJ_eq, wrJ_ne, wrI_lg, wrJ_in, nlit, nneg, nI_add, pk_mul, nsub, Option.bind_some, if_true, if_false, Nat.reduceEqDiff, Nat.reduceLeDiff, Nat.reduceLT, Nat.reduceAdd, Nat.reduceMul, Nat.reduceSub]; rw [if_neg (by omega)]) (fun s hss _ => by dsimp only; unfold f_X12_stands_K189; rw [if_pos (by decide)])
  exact ⟨r, by unfold f_X12_stands_B187 f_X12_stands_L189; rw [r1]; rfl, r2⟩
theorem s_233 (hs : RefS M.1 M.2.2.2) {n : Nat} (hn : n ≤ 1600) (h55 : M.2.1 94 55 = nI n) : ∃ r, f_X12_stands_B231 94 M = f_X12_stands_B263 94 r ∧ r.1 = M.1 ∧ r.2.2 = M.2.2 ∧ ∀ a j, r.2.1 a j = if a ∈ [139] ∧ 1600 ≤ j ∧ j < 1600 + n then M.2.1 a (j - 1600) else M.2.1 a j := by
  obtain ⟨r, r1, r2⟩ := cp_loop (f := fun a : Int32 × sMem => f_X12_stands_K233 94 a.1 a.2) [139] n 1600 (by decide) hn (by omega) hs (fun k s => wrI s 139 (1600 + k) (s.2.1 139 k)) (fun k s => U1 139 1600 k s) (fun k s hss h4 hk => by
    have e55 : s.2.1 94 55 = nI n := (h4 55).trans h55
    dsimp only; unfold f_X12_stands_K233; simp (disch := first | assumption | (simp only [wrI_sh, wrI_rf, wrJ_sh, wrJ_rf, StS_wi, StS_wj]; assumption) | omega | rfl | decide) only [gi94, gj94, pi94, pj94, pr94, sr94, gr94_0, gr94_9, gr94_11, gr94_12, gr94_13, gr94_14, gr94_15, gr94_16, gr94_17, gr94_18, gr94_19, gr94_20, gr94_21, gr94_22, gr94_23, gr94_24, gr94_25, gr94_26, gr94_27, gr94_28, gr94_29, gr94_30, gr94_31, gr94_32, gr94_33, gr94_34, gr94_35, gr94_36, gr94_37, gr94_38, gr94_39, gr94_40, gr94_41, gr94_42, gr94_43, gr94_45, gr94_46, gr94_47, gr94_48, gr94_49, gr94_50, gr94_51, gr94_52, gr94_53, gr94_54, gr94_59, gr94_60, gr94_66, gr94_67, gr94_68, gr94_69, gr94_73, gr94_74, gr94_75, gr94_76, gr94_77, gr94_78, gr94_79, gr94_81, gr94_82, gr94_84, gr94_88, gr94_89, gr94_90, gr94_91, gr94_92, gr94_93, gr94_94, gr94_95, gr94_96, gr94_97, gr94_98, gr94_99, gr94_100, gr94_101, gr94_102, gr94_103, gr94_104, gr94_105, gr94_106, gr94_107, gr94_108, gr94_109, gr94_110, gr94_111, gr94_112, gr94_113, gr94_114, gr94_115, gr94_117, gr94_121, gr94_125, ld139, st139, al139, cle, clt, ceq, cneg, cneg', e55, nlit, nneg, nI_add, pk_mul, nsub, Option.bind_some, if_true, if_false, Nat.reduceEqDiff, Nat.reduceLeDiff, Nat.reduceLT, Nat.reduceAdd, Nat.reduceMul, Nat.reduceSub]; rw [if_neg (by omega)]) (fun s hss h4 => by
    have e55 : s.2.1 94 55 = nI n := (h4 55).trans h55
    dsimp only; unfold f_X12_stands_K233; rw [gi94 hss, Option.bind_some, e55, if_pos (by rw [cle (by omega) (by omega)]; exact Nat.le_refl _)])
  exact ⟨r, by unfold f_X12_stands_B231 f_X12_stands_L233; rw [r1]; rfl, r2⟩
theorem s_102 (hs : RefS M.1 M.2.2.2) : ∃ r, f_X12_stands_B100 94 M = f_X12_stands_B129 94 r ∧ r.1 = M.1 ∧ r.2.2.2 = M.2.2.2 ∧ r.2.1 = M.2.1 ∧ ∀ a j, r.2.2.1 a j = if a = 132 ∧ 32 ≤ j ∧ j < 32 + 32 then M.2.2.1 a (j - 32) else M.2.2.1 a j := by
  obtain ⟨r, r1, r2, r3, r4, r5⟩ := itr_g (f := fun a : Int32 × sMem => f_X12_stands_K102 94 a.1 a.2) (fun k s => (nI k, s)) (fun k s => s.1 = M.1 ∧ s.2.2.2 = M.2.2.2 ∧ s.2.1 = M.2.1 ∧ ∀ a j, s.2.2.1 a j = if a = 132 ∧ 32 ≤ j ∧ j < 32 + k then M.2.2.1 a (j - 32) else M.2.2.1 a j) (fun s => s.1 = M.1 ∧ s.2.2.2 = M.2.2.2 ∧ s.2.1 = M.2.1 ∧ ∀ a j, s.2.2.1 a j = if a = 132 ∧ 32 ≤ j ∧ j < 32 + 32 then M.2.2.1 a (j - 32) else M.2.2.1 a j) 32 (by decide) (fun k s hk hI => by
    obtain ⟨i1, i2, i3, i4⟩ := hI
    have hss : RefS s.1 s.2.2.2 := by rw [i1, i2]; exact hs
    dsimp only
    unfold f_X12_stands_K102
    by_cases q : k < 32
    · left
      refine ⟨q, ?_⟩
      rw [if_neg (by rw [show (32 : Int32) = nI 32 from rfl, cle (by decide) (by omega)]; omega), gr94_47 hss, Option.bind_some, Option.bind_some, ldJ_n (rs132 hss) (by omega) (by decide), Option.bind_some, show (32 : Int32) + nI k = nI (32 + k) from nI_add 32 k, stJ_n (rs132 hss) (by omega) (by decide), Option.bind_some, nI_1]
      refine ⟨_, rfl, i1, i2, i3, fun a j => ?_⟩
      rw [wrJ_get, i4, i4]
      by_cases w : a = 132 ∧ j = 32 + k
      · rw [if_pos w, if_neg (by omega), if_pos ⟨w.1, by omega, by omega⟩, w.1, show j - 32 = k by omega]
      · rw [if_neg w]
        by_cases w2 : a = 132 ∧ 32 ≤ j ∧ j < 32 + k
        · rw [if_pos w2, if_pos (by omega)]
        · rw [if_neg w2, if_neg (by omega)]
    · right
      have hkn : k = 32 := by omega
      subst hkn
      rw [if_pos (by decide)]
      exact ⟨s, rfl, i1, i2, i3, i4⟩) (i := 0) (s := M) (Nat.zero_le _) ⟨rfl, rfl, rfl, fun a j => by rw [if_neg (by omega)]⟩
  replace r1 : sItr (fun a : Int32 × sMem => f_X12_stands_K102 94 a.1 a.2) sFuel (0, M) = some r := r1
  exact ⟨r, by unfold f_X12_stands_B100 f_X12_stands_L102; rw [r1]; rfl, r2, r3, r4, r5⟩
theorem s_265 (hs : RefS M.1 M.2.2.2) : ∃ r, f_X12_stands_B263 94 M = f_X12_stands_B285 94 r ∧ r.1 = M.1 ∧ r.2.2 = M.2.2 ∧ ∀ a j, r.2.1 a j = if a = 140 ∧ j < 148 then 0 else M.2.1 a j := by
  obtain ⟨r, r1, r2, r3, r4⟩ := itr_g (f := fun a : Int32 × sMem => f_X12_stands_K265 94 a.1 a.2) (fun k s => (nI k, s)) (fun k s => s.1 = M.1 ∧ s.2.2 = M.2.2 ∧ ∀ a j, s.2.1 a j = if a = 140 ∧ j < k then 0 else M.2.1 a j) (fun s => s.1 = M.1 ∧ s.2.2 = M.2.2 ∧ ∀ a j, s.2.1 a j = if a = 140 ∧ j < 148 then 0 else M.2.1 a j) 148 (by decide) (fun k s hk hI => by
    obtain ⟨i1, i2, i3⟩ := hI
    have hss : RefS s.1 s.2.2.2 := by rw [i1, i2]; exact hs
    dsimp only
    unfold f_X12_stands_K265
    by_cases q : k < 148
    · left
      refine ⟨q, ?_⟩
      rw [if_neg (by rw [show (148 : Int32) = nI 148 from rfl, cle (by decide) (by omega)]; omega), gr94_59 hss, Option.bind_some, stI_n (rs140 hss) (by omega) (by decide), Option.bind_some, nI_1]
      refine ⟨_, rfl, i1, i2, fun a j => ?_⟩
      rw [wrI_get, i3]
      by_cases w : a = 140 ∧ j = k
      · rw [if_pos w, if_pos (by omega)]
      · rw [if_neg w]
        by_cases w2 : a = 140 ∧ j < k
        · rw [if_pos w2, if_pos (by omega)]
        · rw [if_neg w2, if_neg (by omega)]
    · right
      have hkn : k = 148 := by omega
      subst hkn
      rw [if_pos (by decide)]
      exact ⟨s, rfl, i1, i2, i3⟩) (i := 0) (s := M) (Nat.zero_le _) ⟨rfl, rfl, fun a j => by rw [if_neg (by omega)]⟩
  replace r1 : sItr (fun a : Int32 × sMem => f_X12_stands_K265 94 a.1 a.2) sFuel (0, M) = some r := r1
  exact ⟨r, by unfold f_X12_stands_B263 f_X12_stands_L265; rw [r1]; rfl, r2, r3, r4⟩
/-- where the cars are as a day begins -/
def now0 (u : Nat → Nat → Int32) (C : Nat) (j : Nat) : Int32 := if 12 ≤ j ∧ j < 12 + 3 * C then (if (j - 12) % 3 = 0 then u 136 (j - 12) else if (j - 12) % 3 = 1 then u 136 (j - 12) else 0) else 0
theorem s_287 (hs : RefS M.1 M.2.2.2) {C : Nat} (hC : C ≤ 5) (h3 : M.2.1 131 3 = nI C) (h0 : ∀ j, j < 148 → M.2.1 140 j = 0) : ∃ r, f_X12_stands_B285 94 M = f_X12_stands_B343 94 r ∧ r.1 = M.1 ∧ r.2.2 = M.2.2 ∧ (∀ a j, a ≠ 140 → r.2.1 a j = M.2.1 a j) ∧ ∀ j, j < 148 → r.2.1 140 j = now0 M.2.1 C j := by
  obtain ⟨r, r1, r2, r3, r4, r5⟩ := itr_g (f := fun a : Int32 × sMem => f_X12_stands_K287 94 a.1 a.2) (fun k s => (nI k, s)) (fun k s => s.1 = M.1 ∧ s.2.2 = M.2.2 ∧ (∀ a j, a ≠ 140 → s.2.1 a j = M.2.1 a j) ∧ ∀ j, j < 148 → s.2.1 140 j = now0 M.2.1 k j) (fun s => s.1 = M.1 ∧ s.2.2 = M.2.2 ∧ (∀ a j, a ≠ 140 → s.2.1 a j = M.2.1 a j) ∧ ∀ j, j < 148 → s.2.1 140 j = now0 M.2.1 C j) C (by omega) (fun k s hk hI => by
    obtain ⟨i1, i2, i3, i4⟩ := hI
    have hss : RefS s.1 s.2.2.2 := by rw [i1, i2]; exact hs
    dsimp only
    unfold f_X12_stands_K287
    rw [gr94_46 hss, Option.bind_some, show ldI 14 s 131 3 = some (s.2.1 131 3) from ldI_n (j := 3) (rs131 hss) (by decide) (by decide), Option.bind_some, i3 131 3 (by decide), h3]
    by_cases q : k < C
    · left
      refine ⟨q, ?_⟩
      have e1 : (3 : Int32) * nI k = nI (3 * k) := by rw [show (3 : Int32) = nI 3 from rfl, pk_mul]
      have e2 : (12 : Int32) + nI (3 * k) = nI (12 + 3 * k) := nI_add 12 (3 * k)
      have e3 : (13 : Int32) + nI (3 * k) = nI (13 + 3 * k) := nI_add 13 (3 * k)
      rw [if_neg (by rw [cle (by omega) (by omega)]; omega), gr94_59 hss, Option.bind_some, gr94_51 hss, Option.bind_some, e1, e2, e3, nI_1, ldI_n (rs136 hss) (by omega) (by decide), Option.bind_some, stI_n (rs140 hss) (by omega) (by decide), Option.bind_some]
      rw [gr94_59 (M := wrI s 140 (12 + 3 * k) (s.2.1 136 (3 * k))) hss, Option.bind_some, gr94_51 (M := wrI s 140 (12 + 3 * k) (s.2.1 136 (3 * k))) hss, Option.bind_some, ldI_n (M := wrI s 140 (12 + 3 * k) (s.2.1 136 (3 * k))) (rs136 hss) (by omega) (by decide), Option.bind_some, wrI_ne (by omega), stI_n (M := wrI s 140 (12 + 3 * k) (s.2.1 136 (3 * k))) (rs140 hss) (by omega) (by decide), Option.bind_some, nI_1]
      refine ⟨_, rfl, i1, i2, fun a j ha => by rw [wrI_ne (by omega), wrI_ne (by omega)]; exact i3 a j ha, fun j hj => ?_⟩
      unfold now0
      by_cases w1 : j = 13 + 3 * k
      · rw [w1, wrI_eq, i3 _ _ (by decide), if_pos (by omega), if_neg (by omega), if_pos (by omega), show 13 + 3 * k - 12 = 3 * k + 1 by omega]
      · by_cases w2 : j = 12 + 3 * k
        · rw [wrI_ne (by omega), w2, wrI_eq, i3 _ _ (by decide), if_pos (by omega), if_pos (by omega), show 12 + 3 * k - 12 = 3 * k by omega]
        · rw [wrI_ne (by omega), wrI_ne (by omega), i4 j hj]
          unfold now0
          by_cases w3 : 12 ≤ j ∧ j < 12 + 3 * k
          · rw [if_pos w3, if_pos (show 12 ≤ j ∧ j < 12 + 3 * (k + 1) by omega)]
          · rw [if_neg w3]
            by_cases w4 : j = 14 + 3 * k
            · rw [if_pos (by omega), if_neg (by omega), if_neg (by omega)]
            · rw [if_neg (by omega)]
    · right
      have hkn : k = C := by omega
      subst hkn
      rw [if_pos (by rw [cle (by omega) (by omega)]; exact Nat.le_refl _)]
      exact ⟨s, rfl, i1, i2, i3, i4⟩) (i := 0) (s := M) (Nat.zero_le _) ⟨rfl, rfl, fun a j _ => rfl, fun j hj => by rw [h0 j hj]; unfold now0; rw [if_neg (by omega)]⟩
  replace r1 : sItr (fun a : Int32 × sMem => f_X12_stands_K287 94 a.1 a.2) sFuel (0, M) = some r := r1
  exact ⟨r, by unfold f_X12_stands_B285 f_X12_stands_L287; rw [r1]; rfl, r2, r3, r4, r5⟩
end SDS
