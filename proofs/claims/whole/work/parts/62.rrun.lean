/-! THE REFERENCE tells what codes are worth -/
theorem b64 {z : Int} (h1 : -9000000000000000000 ≤ z) (h2 : z < 9000000000000000000) : z.bmod (2 ^ 64) = z := Int.bmod_eq_of_le (by omega) (by omega)
theorem le_j {x y : Int64} : x ≤ y ↔ x.toInt ≤ y.toInt := Int64.le_iff_toInt_le
theorem lt_j {x y : Int64} : x < y ↔ x.toInt < y.toInt := Int64.lt_iff_toInt_lt
theorem eq_j {x y : Int64} : x = y ↔ x.toInt = y.toInt := Int64.toInt_inj.symm
def pR2 : Nat → Nat → Bool := fun a k => a == 94 && k == 122
def qR2 : Nat → Nat → Bool := fun a _ => a == 185
section RR
variable {M : sMem}
theorem r_puts {n : Nat} (hs : RefS M.1 M.2.2.2) (ht : M.2.1 94 122 = nI n) (hn : n < 1700) (v : Int64) : f_X12_qPuts 94 v M = some (wrI (wrJ M 185 n v) 94 122 (nI (n + 1))) := by
  unfold f_X12_qPuts
  simp (disch := first | exact hs | exact hc | exact hD | omega | (simp only [wrI_sh, wrI_rf, wrJ_sh, wrJ_rf]; first | exact hs | exact hc)) only [gi94, gj94, pi94, pj94, pr94, sr94, gr94_0, gr94_9, gr94_11, gr94_12, gr94_13, gr94_14, gr94_15, gr94_16, gr94_17, gr94_18, gr94_19, gr94_20, gr94_21, gr94_22, gr94_23, gr94_24, gr94_25, gr94_26, gr94_27, gr94_28, gr94_29, gr94_30, gr94_31, gr94_32, gr94_33, gr94_34, gr94_35, gr94_36, gr94_37, gr94_38, gr94_39, gr94_40, gr94_41, gr94_42, gr94_43, gr94_45, gr94_46, gr94_47, gr94_48, gr94_49, gr94_50, gr94_51, gr94_52, gr94_53, gr94_54, gr94_59, gr94_60, gr94_66, gr94_67, gr94_68, gr94_69, gr94_73, gr94_74, gr94_75, gr94_76, gr94_77, gr94_78, gr94_79, gr94_81, gr94_82, gr94_84, gr94_88, gr94_89, gr94_90, gr94_91, gr94_92, gr94_93, gr94_94, gr94_95, gr94_96, gr94_97, gr94_98, gr94_99, gr94_100, gr94_101, gr94_102, gr94_103, gr94_104, gr94_105, gr94_106, gr94_107, gr94_108, gr94_109, gr94_110, gr94_111, gr94_112, gr94_113, gr94_114, gr94_115, gr94_117, gr94_121, gr94_125, ld185, st185, al185, ht, wrJ_in, nlit, nneg, nI_add, pk_mul, nsub, Option.bind_some, if_true, if_false, Nat.reduceEqDiff, Nat.reduceLeDiff, Nat.reduceLT, Nat.reduceAdd, Nat.reduceMul, Nat.reduceSub]
theorem r_clip (z : Int64) : ∃ r, f_X12_qClip z M = some r ∧ r.toInt = clp z.toInt := by
  unfold f_X12_qClip clp
  have e1 : (1000000 : Int64).toInt = 1000000 := rfl
  have e2 : (-1000000 : Int64).toInt = -1000000 := rfl
  by_cases h1 : z ≤ 1000000
  · rw [if_pos h1]
    have h1' := le_j.mp h1
    by_cases h2 : (-1000000 : Int64) ≤ z
    · rw [if_pos h2]
      have h2' := le_j.mp h2
      exact ⟨_, rfl, by rw [if_neg (by omega), if_neg (by omega)]⟩
    · rw [if_neg h2]
      have h2' : ¬ (-1000000 : Int64).toInt ≤ z.toInt := fun q => h2 (le_j.mpr q)
      exact ⟨_, rfl, by rw [if_neg (by omega), if_pos (by omega)]; rfl⟩
  · rw [if_neg h1]
    have h1' : ¬ z.toInt ≤ (1000000 : Int64).toInt := fun q => h1 (le_j.mpr q)
    exact ⟨_, rfl, by rw [if_pos (by omega)]; rfl⟩
theorem r_floor {x y : Int64} (hx : -1000000 ≤ x.toInt ∧ x.toInt ≤ 1000000) : ∃ r, f_X12_qFloor x y M = some r ∧ r.toInt = fdv x.toInt y.toInt := by
  unfold f_X12_qFloor fdv f_X12_qFloor_B32 f_X12_qFloor_B43
  have e0 : (0 : Int64).toInt = 0 := rfl
  by_cases hy : y = 0
  · rw [if_pos hy, if_pos (by rw [hy]; rfl)]; exact ⟨_, rfl, rfl⟩
  · have hy0 : y.toInt ≠ 0 := fun q => hy (eq_j.mpr q)
    rw [if_neg hy, if_neg hy, if_neg hy, if_neg hy0]
    have hb := tdb x.toInt y.toInt
    have hq : (x / y).toInt = x.toInt.tdiv y.toInt := by
      rw [Int64.toInt_div, b64 (by omega) (by omega)]
    have hr : x.toInt.tdiv y.toInt * y.toInt = x.toInt - x.toInt.tmod y.toInt := by
      have := Int.tmod_add_tdiv_mul x.toInt y.toInt
      omega
    have hm : (x.toInt.tmod y.toInt).natAbs ≤ x.toInt.natAbs := by
      rw [Int.natAbs_tmod]; exact Nat.mod_le _ _
    have hqy : (x - (x / y) * y).toInt = x.toInt.tmod y.toInt := by
      have hq2 : (x / y).toInt * y.toInt = x.toInt - x.toInt.tmod y.toInt := by rw [hq]; exact hr
      have hq3 : ((x / y) * y).toInt = x.toInt - x.toInt.tmod y.toInt := by rw [Int64.toInt_mul, hq2, b64 (by omega) (by omega)]
      rw [Int64.toInt_sub, hq3, b64 (by omega) (by omega)]
      omega
    have hs1 : (x / y - 1).toInt = x.toInt.tdiv y.toInt - 1 := by
      rw [Int64.toInt_sub, hq, show (1 : Int64).toInt = 1 from rfl, b64 (by omega) (by omega)]
    by_cases h1 : x - (x / y) * y = 0
    · rw [if_pos h1]
      have h1' := eq_j.mp h1
      exact ⟨_, rfl, by rw [if_neg (fun q => q.1 (by omega)), hq]⟩
    · rw [if_neg h1]
      have h1' : x.toInt.tmod y.toInt ≠ 0 := fun q => h1 (eq_j.mpr (by rw [hqy, q]; rfl))
      by_cases hx0 : 0 ≤ x
      · rw [if_pos hx0]
        have := le_j.mp hx0
        by_cases hy1 : 0 ≤ y
        · rw [if_pos hy1, if_pos rfl]
          have := le_j.mp hy1
          exact ⟨_, rfl, by rw [if_neg (by omega), hq]⟩
        · rw [if_neg hy1, if_neg (by decide)]
          have : ¬ (0 : Int64).toInt ≤ y.toInt := fun q => hy1 (le_j.mpr q)
          exact ⟨_, rfl, by rw [if_pos ⟨h1', by omega⟩, hs1]⟩
      · rw [if_neg hx0]
        have : ¬ (0 : Int64).toInt ≤ x.toInt := fun q => hx0 (le_j.mpr q)
        by_cases hy1 : 0 ≤ y
        · rw [if_pos hy1, if_neg (by decide)]
          have := le_j.mp hy1
          exact ⟨_, rfl, by rw [if_pos ⟨h1', by omega⟩, hs1]⟩
        · rw [if_neg hy1, if_pos rfl]
          have : ¬ (0 : Int64).toInt ≤ y.toInt := fun q => hy1 (le_j.mpr q)
          exact ⟨_, rfl, by rw [if_neg (by omega), hq]⟩
/-- two of the pile are joined -/
theorem r_joins {c n : Nat} (hs : RefS M.1 M.2.2.2) (ht : M.2.1 94 122 = nI (n + 2)) (hn : n < 1000) (h1 : 1 ≤ c) (h2 : c ≤ 11) (hx : Vok (tyO c).1 (M.2.2.1 185 n).toInt) (hy : Vok (tyO c).1 (M.2.2.1 185 (n + 1)).toInt) :
    ∃ r, f_X12_qJoins 94 (nI c) M = some (wrI (wrJ (wrI M 94 122 (nI n)) 185 n r) 94 122 (nI (n + 1))) ∧ r.toInt = opI c (M.2.2.1 185 n).toInt (M.2.2.1 185 (n + 1)).toInt := by
  unfold f_X12_qJoins f_X12_qJoins_B134 f_X12_qJoins_B161 f_X12_qJoins_B181 f_X12_qJoins_B200 f_X12_qJoins_B219 f_X12_qJoins_B238 f_X12_qJoins_B270
  have e1 : nI (n + 2) - (1 : Int32) = nI (n + 1) := pk_sub (a := n + 2) (b := 1) (by omega)
  have e2 : nI (n + 2) - (2 : Int32) = nI n := pk_sub (a := n + 2) (b := 2) (by omega)
  simp only [sr94 hs, gr94_121 hs, gi94 hs, ht, e1, e2, ld185 hs (show n + 1 < 1700 by omega), ld185 hs (show n < 1700 by omega), pi94 hs, Option.bind_some]
  generalize M.2.2.1 185 n = x at *
  generalize M.2.2.1 185 (n + 1) = y at *
  have put : ∀ r : Int64, f_X12_qPuts 94 r (wrI M 94 122 (nI n)) = some (wrI (wrJ (wrI M 94 122 (nI n)) 185 n r) 94 122 (nI (n + 1))) := fun r => r_puts (M := wrI M 94 122 (nI n)) hs wrI_eq (by omega) r
  have hc : c = 1 ∨ c = 2 ∨ c = 3 ∨ c = 4 ∨ c = 5 ∨ c = 6 ∨ c = 7 ∨ c = 8 ∨ c = 9 ∨ c = 10 ∨ c = 11 := by omega
  rcases hc with rfl | rfl | rfl | rfl | rfl | rfl | rfl | rfl | rfl | rfl | rfl
  · rw [op_1, if_pos (by decide)]
    have := hx.2 (by decide); have := hy.2 (by decide)
    obtain ⟨r, e, hr⟩ := r_clip (M := wrI M 94 122 (nI n)) (x + y)
    rw [e, Option.bind_some, put]
    exact ⟨r, rfl, by rw [hr, Int64.toInt_add, b64 (by omega) (by omega)]⟩
  · rw [op_2, if_neg (by decide), if_pos (by decide)]
    have := hx.2 (by decide); have := hy.2 (by decide)
    obtain ⟨r, e, hr⟩ := r_clip (M := wrI M 94 122 (nI n)) (x - y)
    rw [e, Option.bind_some, put]
    exact ⟨r, rfl, by rw [hr, Int64.toInt_sub, b64 (by omega) (by omega)]⟩
  · rw [op_3, if_neg (by decide), if_neg (by decide), if_pos (by decide)]
    have h3 := mulb (hx.2 (by decide)) (hy.2 (by decide))
    obtain ⟨r, e, hr⟩ := r_clip (M := wrI M 94 122 (nI n)) (x * y)
    rw [e, Option.bind_some, put]
    exact ⟨r, rfl, by rw [hr, Int64.toInt_mul, b64 (by omega) (by omega)]⟩
  · rw [op_4, if_neg (by decide), if_neg (by decide), if_neg (by decide), if_pos (by decide)]
    obtain ⟨r, e, hr⟩ := r_floor (M := wrI M 94 122 (nI n)) (y := y) (hx.2 (by decide))
    rw [e, Option.bind_some, put]
    exact ⟨r, rfl, hr⟩
  · rw [op_5, if_neg (by decide), if_neg (by decide), if_neg (by decide), if_neg (by decide), if_pos (by decide)]
    by_cases h : y ≤ x
    · have := le_j.mp h
      rw [if_pos h, put]
      exact ⟨_, rfl, (by rw [if_neg (by omega)])⟩
    · have : ¬ y.toInt ≤ x.toInt := fun q => h (le_j.mpr q)
      rw [if_neg h, put]
      exact ⟨_, rfl, (by rw [if_pos (by omega)])⟩
  · rw [op_6, if_neg (by decide), if_neg (by decide), if_neg (by decide), if_neg (by decide), if_neg (by decide), if_pos (by decide)]
    by_cases h : x ≤ y
    · have := le_j.mp h
      rw [if_pos h, put]
      exact ⟨_, rfl, (by rw [if_neg (by omega)])⟩
    · have : ¬ x.toInt ≤ y.toInt := fun q => h (le_j.mpr q)
      rw [if_neg h, put]
      exact ⟨_, rfl, (by rw [if_pos (by omega)])⟩
  · rw [op_7, if_neg (by decide), if_neg (by decide), if_neg (by decide), if_neg (by decide), if_neg (by decide), if_neg (by decide), if_pos (by decide)]
    by_cases h : y ≤ x
    · have := le_j.mp h
      rw [if_pos h, put]
      exact ⟨_, rfl, (by rw [if_neg (by omega)]; rfl)⟩
    · have : ¬ y.toInt ≤ x.toInt := fun q => h (le_j.mpr q)
      rw [if_neg h, put]
      exact ⟨_, rfl, (by rw [if_pos (by omega)]; rfl)⟩
  · rw [op_8, if_neg (by decide), if_neg (by decide), if_neg (by decide), if_neg (by decide), if_neg (by decide), if_neg (by decide), if_neg (by decide), if_pos (by decide)]
    by_cases h : x ≤ y
    · have := le_j.mp h
      rw [if_pos h, put]
      exact ⟨_, rfl, (by rw [if_neg (by omega)]; rfl)⟩
    · have : ¬ x.toInt ≤ y.toInt := fun q => h (le_j.mpr q)
      rw [if_neg h, put]
      exact ⟨_, rfl, (by rw [if_pos (by omega)]; rfl)⟩
  · rw [op_9, if_neg (by decide), if_neg (by decide), if_neg (by decide), if_neg (by decide), if_neg (by decide), if_neg (by decide), if_neg (by decide), if_neg (by decide), if_pos (by decide)]
    by_cases h : x = y
    · rw [if_pos h, put]
      exact ⟨_, rfl, (by rw [if_pos (eq_j.mp h)]; rfl)⟩
    · rw [if_neg h, put]
      exact ⟨_, rfl, (by rw [if_neg (fun q => h (eq_j.mpr q))]; rfl)⟩
  · rw [op_10, if_neg (by decide), if_neg (by decide), if_neg (by decide), if_neg (by decide), if_neg (by decide), if_neg (by decide), if_neg (by decide), if_neg (by decide), if_neg (by decide), if_pos (by decide), put]
    refine ⟨_, rfl, ?_⟩
    have h3 : -10 ≤ x.toInt * y.toInt ∧ x.toInt * y.toInt ≤ 10 := by
      rcases hx.1 (by decide) with q | q <;> rcases hy.1 (by decide) with q' | q' <;> rw [q, q'] <;> decide
    rw [Int64.toInt_mul, b64 (by omega) (by omega)]
  · rw [op_11, if_neg (by decide), if_neg (by decide), if_neg (by decide), if_neg (by decide), if_neg (by decide), if_neg (by decide), if_neg (by decide), if_neg (by decide), if_neg (by decide), if_neg (by decide)]
    have hx := hx.1 (by decide); have hy := hy.1 (by decide)
    have e0 : (0 : Int64).toInt = 0 := rfl
    have ha : (x + y).toInt = x.toInt + y.toInt := by rw [Int64.toInt_add, b64 (by omega) (by omega)]
    by_cases h : x + y ≤ 0
    · have := le_j.mp h
      rw [if_pos h, put]
      exact ⟨_, rfl, (by rw [if_neg (by omega)]; rfl)⟩
    · have : ¬ (x + y).toInt ≤ (0 : Int64).toInt := fun q => h (le_j.mpr q)
      rw [if_neg h, put]
      exact ⟨_, rfl, (by rw [if_pos (by omega)]; rfl)⟩
end RR
