/-! THE CLASS RUNS a program -/
theorem ty_cases {c : Nat} {T T' : List Bool} (h : tyS c T = some T') :
    (1000 ≤ c ∧ c < 11000 ∧ T' = false :: T) ∨ ((c = 60 ∨ c = 61) ∧ ∃ t, T = false :: t ∧ T' = false :: t) ∨ (40 ≤ c ∧ c < 53 ∧ T' = false :: T) ∨ (c = 13 ∧ T' = true :: T) ∨ (c = 12 ∧ ∃ t, T = true :: t ∧ T' = true :: t) ∨ (1 ≤ c ∧ c ≤ 11 ∧ ∃ t, T = (tyO c).1 :: (tyO c).1 :: t ∧ T' = (tyO c).2 :: t) := by
  unfold tyS at h
  by_cases h1 : 1000 ≤ c
  · rw [if_pos h1] at h
    by_cases h2 : c < 11000
    · rw [if_pos h2] at h
      exact Or.inl ⟨h1, h2, (Option.some.inj h).symm⟩
    · rw [if_neg h2] at h; cases h
  · rw [if_neg h1] at h
    by_cases h2 : 60 ≤ c
    · rw [if_pos h2] at h
      match T with
      | [] => cases h
      | true :: _ => cases h
      | false :: t =>
        dsimp only at h
        by_cases h3 : c < 62
        · rw [if_pos h3] at h
          exact Or.inr (Or.inl ⟨by omega, t, rfl, (Option.some.inj h).symm⟩)
        · rw [if_neg h3] at h; cases h
    · rw [if_neg h2] at h
      by_cases h3 : 40 ≤ c
      · rw [if_pos h3] at h
        by_cases h4 : c < 53
        · rw [if_pos h4] at h
          exact Or.inr (Or.inr (Or.inl ⟨h3, h4, (Option.some.inj h).symm⟩))
        · rw [if_neg h4] at h; cases h
      · rw [if_neg h3] at h
        by_cases h4 : c = 13
        · rw [if_pos h4] at h
          exact Or.inr (Or.inr (Or.inr (Or.inl ⟨h4, (Option.some.inj h).symm⟩)))
        · rw [if_neg h4] at h
          by_cases h5 : c = 12
          · rw [if_pos h5] at h
            match T with
            | [] => cases h
            | false :: _ => cases h
            | true :: t => exact Or.inr (Or.inr (Or.inr (Or.inr (Or.inl ⟨h5, t, rfl, (Option.some.inj h).symm⟩))))
          · rw [if_neg h5] at h
            by_cases h6 : 1 ≤ c ∧ c ≤ 11
            · rw [if_pos h6] at h
              match T with
              | [] => cases h
              | [_] => cases h
              | y :: x :: t =>
                dsimp only at h
                by_cases h7 : y = (tyO c).1 ∧ x = (tyO c).1
                · rw [if_pos h7] at h
                  obtain ⟨rfl, rfl⟩ := h7
                  exact Or.inr (Or.inr (Or.inr (Or.inr (Or.inr ⟨h6.1, h6.2, t, rfl, (Option.some.inj h).symm⟩))))
                · rw [if_neg h7] at h; cases h
            · rw [if_neg h6] at h; cases h
/-- memories that agree but for ints that P names and longs that Q names -/
def Fr (P Q : Nat → Nat → Bool) (M N : sMem) : Prop := N.1 = M.1 ∧ N.2.2.2 = M.2.2.2 ∧ (∀ a k, P a k = false → N.2.1 a k = M.2.1 a k) ∧ ∀ a k, Q a k = false → N.2.2.1 a k = M.2.2.1 a k
def q0 : Nat → Nat → Bool := fun _ _ => false
section FR
variable {P Q P' Q' : Nat → Nat → Bool} {M N O : sMem}
theorem Fr.rf : Fr P Q M M := ⟨rfl, rfl, fun _ _ _ => rfl, fun _ _ _ => rfl⟩
theorem Fr.tr (h : Fr P Q M N) (h2 : Fr P Q N O) : Fr P Q M O := ⟨h2.1.trans h.1, h2.2.1.trans h.2.1, fun a k q => (h2.2.2.1 a k q).trans (h.2.2.1 a k q), fun a k q => (h2.2.2.2 a k q).trans (h.2.2.2 a k q)⟩
theorem Fr.mono (h : Fr P Q M N) (hP : ∀ a k, P' a k = false → P a k = false) (hQ : ∀ a k, Q' a k = false → Q a k = false) : Fr P' Q' M N := ⟨h.1, h.2.1, fun a k q => h.2.2.1 a k (hP a k q), fun a k q => h.2.2.2 a k (hQ a k q)⟩
theorem Fr.wi {a k : Nat} {x : Int32} (h : Fr P Q M N) (hp : P a k = true) : Fr P Q M (wrI N a k x) :=
  ⟨h.1, h.2.1, fun b j q => by rw [wrI_get, if_neg (fun z => by rw [z.1, z.2, hp] at q; cases q)]; exact h.2.2.1 b j q, h.2.2.2⟩
theorem Fr.wj {a k : Nat} {x : Int64} (h : Fr P Q M N) (hp : Q a k = true) : Fr P Q M (wrJ N a k x) :=
  ⟨h.1, h.2.1, h.2.2.1, fun b j q => by rw [wrJ_get, if_neg (fun z => by rw [z.1, z.2, hp] at q; cases q)]; exact h.2.2.2 b j q⟩
theorem Fr.hs (h : Fr P Q M N) (hs : RefS M.1 M.2.2.2) : RefS N.1 N.2.2.2 := by rw [h.1, h.2.1]; exact hs
theorem Fr.hc (h : Fr P Q M N) (hc : ClsS M.1 M.2.2.2) : ClsS N.1 N.2.2.2 := by rw [h.1, h.2.1]; exact hc
end FR
theorem wrI_ne {M : sMem} {a k b j : Nat} {x : Int32} (h : ¬ (b = a ∧ j = k)) : (wrI M a k x).2.1 b j = M.2.1 b j := by rw [wrI_get, if_neg h]
theorem wrI_eq {M : sMem} {a k : Nat} {x : Int32} : (wrI M a k x).2.1 a k = x := by rw [wrI_get, if_pos ⟨rfl, rfl⟩]
theorem wrJ_ne {M : sMem} {a k b j : Nat} {x : Int64} (h : ¬ (b = a ∧ j = k)) : (wrJ M a k x).2.2.1 b j = M.2.2.1 b j := by rw [wrJ_get, if_neg h]
theorem wrJ_eq {M : sMem} {a k : Nat} {x : Int64} : (wrJ M a k x).2.2.1 a k = x := by rw [wrJ_get, if_pos ⟨rfl, rfl⟩]
section CR
variable {M N : sMem}
theorem c_push {n : Nat} (hc : ClsS M.1 M.2.2.2) (ht : M.2.1 68 4 = nI n) (hn : n < 64) (v : Int32) : f_X2_push 68 v M = some (wrI (wrI M 72 n v) 68 4 (nI (n + 1))) := by
  unfold f_X2_push
  simp (disch := first | exact hs | exact hc | exact hD | omega | (simp only [wrI_sh, wrI_rf, wrJ_sh, wrJ_rf]; first | exact hs | exact hc)) only [gi68, gj68, pi68, pj68, pr68, sr68, gr68_0, gr68_1, gr68_2, gr68_3, ld72, st72, al72, ht, cle, clt, ceq, cneg, cneg', nlit, nneg, nI_add, pk_mul, nsub, Option.bind_some, if_true, if_false, Nat.reduceEqDiff, Nat.reduceLeDiff, Nat.reduceLT, Nat.reduceAdd, Nat.reduceMul, Nat.reduceSub]
  rw [if_neg (by omega), wrI_ne (by omega), ht]
  simp (disch := first | exact hs | exact hc | exact hD | omega | (simp only [wrI_sh, wrI_rf, wrJ_sh, wrJ_rf]; first | exact hs | exact hc)) only [gi68, gj68, pi68, pj68, pr68, sr68, gr68_0, gr68_1, gr68_2, gr68_3, nlit, nneg, nI_add, pk_mul, nsub, Option.bind_some, if_true, if_false, Nat.reduceEqDiff, Nat.reduceLeDiff, Nat.reduceLT, Nat.reduceAdd, Nat.reduceMul, Nat.reduceSub]
theorem c_pop {n : Nat} (hc : ClsS M.1 M.2.2.2) (ht : M.2.1 68 4 = nI (n + 1)) (hn : n < 64) : f_X2_pop 68 M = some (M.2.1 72 n, wrI M 68 4 (nI n)) := by
  unfold f_X2_pop
  simp (disch := first | exact hs | exact hc | exact hD | omega | (simp only [wrI_sh, wrI_rf, wrJ_sh, wrJ_rf]; first | exact hs | exact hc)) only [gi68, gj68, pi68, pj68, pr68, sr68, gr68_0, gr68_1, gr68_2, gr68_3, ld72, st72, al72, ht, cle, clt, ceq, cneg, cneg', nlit, nneg, nI_add, pk_mul, nsub, Option.bind_some, if_true, if_false, Nat.reduceEqDiff, Nat.reduceLeDiff, Nat.reduceLT, Nat.reduceAdd, Nat.reduceMul, Nat.reduceSub]
  rw [if_pos (by omega)]
  simp (disch := first | exact hs | exact hc | exact hD | omega | (simp only [wrI_sh, wrI_rf, wrJ_sh, wrJ_rf]; first | exact hs | exact hc)) only [gi68, gj68, pi68, pj68, pr68, sr68, gr68_0, gr68_1, gr68_2, gr68_3, ld72, st72, al72, wrI_eq, nlit, nneg, nI_add, pk_mul, nsub, Option.bind_some, if_true, if_false, Nat.reduceEqDiff, Nat.reduceLeDiff, Nat.reduceLT, Nat.reduceAdd, Nat.reduceMul, Nat.reduceSub]
  rw [wrI_ne (by omega)]
  rfl
theorem c_bounded (z : Int64) : ∃ r, f_X2_bounded z M = some r ∧ r.toInt = clp z.toInt := by
  unfold f_X2_bounded clp
  have e1 : (1000000 : Int64).toInt = 1000000 := rfl
  have e2 : (-1000000 : Int64).toInt = -1000000 := rfl
  by_cases h1 : z ≤ 1000000
  · rw [if_pos h1]
    have h1' := Int64.le_iff_toInt_le.mp h1
    by_cases h2 : (-1000000 : Int64) ≤ z
    · rw [if_pos h2]
      have h2' := Int64.le_iff_toInt_le.mp h2
      refine ⟨_, rfl, ?_⟩
      rw [if_neg (by omega), if_neg (by omega), Int64.toInt_toInt32, b32 (by omega) (by omega)]
    · rw [if_neg h2]
      have h2' : ¬ (-1000000 : Int64).toInt ≤ z.toInt := fun q => h2 (Int64.le_iff_toInt_le.mpr q)
      exact ⟨_, rfl, by rw [if_neg (by omega), if_pos (by omega)]; rfl⟩
  · rw [if_neg h1]
    have h1' : ¬ z.toInt ≤ (1000000 : Int64).toInt := fun q => h1 (Int64.le_iff_toInt_le.mpr q)
    exact ⟨_, rfl, by rw [if_pos (by omega)]; rfl⟩
theorem xor_sgn (x y : Int32) : 0 ≤ (x ^^^ y) ↔ (x.toInt < 0 ↔ y.toInt < 0) := by
  have hx : x.toBitVec.msb = decide (x.toInt < 0) := BitVec.msb_eq_toInt
  have hy : y.toBitVec.msb = decide (y.toInt < 0) := BitVec.msb_eq_toInt
  have hz : (x ^^^ y).toBitVec.msb = decide ((x ^^^ y).toInt < 0) := BitVec.msb_eq_toInt
  have he : (x ^^^ y).toBitVec.msb = (x.toBitVec.msb ^^ y.toBitVec.msb) := by
    rw [Int32.toBitVec_xor, BitVec.msb_xor]
  rw [hx, hy, hz] at he
  rw [le_i, show (0 : Int32).toInt = 0 from rfl]
  by_cases h1 : x.toInt < 0 <;> by_cases h2 : y.toInt < 0 <;> by_cases h3 : (x ^^^ y).toInt < 0 <;> simp only [h1, h2, h3, decide_true, decide_false, Bool.xor_false, Bool.false_xor, Bool.xor_true, Bool.not_true, Bool.not_false, Bool.xor_self] at he ⊢ <;> first | (cases he; done) | (simp only [iff_true, iff_false, true_iff, false_iff, not_true_eq_false, not_false_eq_true]; omega)
theorem c_floor {x y : Int32} (hx : -1000000 ≤ x.toInt ∧ x.toInt ≤ 1000000) (hy : ¬ y = 0) : ∃ r, f_J9_floorDiv_7cf53 x y M = some r ∧ r.toInt = fdv x.toInt y.toInt := by
  have hy0 : y.toInt ≠ 0 := fun q => hy (eq_i.mpr q)
  have hb := tdb x.toInt y.toInt
  have hq : (x / y).toInt = x.toInt.tdiv y.toInt := by
    rw [Int32.toInt_div, b32 (by omega) (by omega)]
  have hr : x.toInt.tdiv y.toInt * y.toInt = x.toInt - x.toInt.tmod y.toInt := by
    have := Int.tmod_add_tdiv_mul x.toInt y.toInt
    omega
  have hm : (x.toInt.tmod y.toInt).natAbs ≤ x.toInt.natAbs := by
    rw [Int.natAbs_tmod]; exact Nat.mod_le _ _
  have hqy : ((x / y) * y).toInt = x.toInt - x.toInt.tmod y.toInt := by
    have hq2 : (x / y).toInt * y.toInt = x.toInt - x.toInt.tmod y.toInt := by rw [hq]; exact hr
    rw [mul_i (by omega) (by omega), hq2]
  unfold f_J9_floorDiv_7cf53 fdv
  rw [if_neg hy, if_neg hy0]
  by_cases h1 : 0 ≤ (x ^^^ y)
  · rw [if_pos h1]
    have h1' := (xor_sgn x y).mp h1
    exact ⟨_, rfl, by rw [if_neg (fun q => q.2 h1'), hq]⟩
  · rw [if_neg h1]
    have h1' : ¬ (x.toInt < 0 ↔ y.toInt < 0) := fun q => h1 ((xor_sgn x y).mpr q)
    by_cases h2 : (x / y) * y = x
    · rw [if_pos h2]
      have h2' := eq_i.mp h2
      exact ⟨_, rfl, by rw [if_neg (fun q => q.1 (by omega)), hq]⟩
    · rw [if_neg h2]
      have h2' : ¬ ((x / y) * y).toInt = x.toInt := fun q => h2 (eq_i.mpr q)
      refine ⟨_, rfl, ?_⟩
      rw [if_pos ⟨by omega, h1'⟩, subc 1 rfl (by omega) (by omega), hq]
theorem c_two {c : Nat} {x y : Int32} (h1 : 1 ≤ c) (h2 : c ≤ 11) (hx : Vok (tyO c).1 x.toInt) (hy : Vok (tyO c).1 y.toInt) : ∃ r, f_X2_two (trn c) x y M = some r ∧ r.toInt = opI c x.toInt y.toInt := by
  have hc : c = 1 ∨ c = 2 ∨ c = 3 ∨ c = 4 ∨ c = 5 ∨ c = 6 ∨ c = 7 ∨ c = 8 ∨ c = 9 ∨ c = 10 ∨ c = 11 := by omega
  have o1 : (1 : Int32).toInt = 1 := rfl
  have o0 : (0 : Int32).toInt = 0 := rfl
  unfold f_X2_two
  rcases hc with rfl | rfl | rfl | rfl | rfl | rfl | rfl | rfl | rfl | rfl | rfl
  · rw [op_1]
    have := hx.2 (by decide); have := hy.2 (by decide)
    rw [if_neg (by decide), if_neg (by decide), if_neg (by decide), if_neg (by decide), if_pos (by decide)]
    obtain ⟨r, e, hr⟩ := c_bounded (M := M) (x + y).toInt64
    rw [e]
    exact ⟨r, rfl, by rw [hr, i64, add_i (by omega) (by omega)]⟩
  · rw [op_2]
    have := hx.2 (by decide); have := hy.2 (by decide)
    rw [if_neg (by decide), if_neg (by decide), if_neg (by decide), if_pos (by decide)]
    obtain ⟨r, e, hr⟩ := c_bounded (M := M) (x - y).toInt64
    rw [e]
    exact ⟨r, rfl, by rw [hr, i64, sub_i (by omega) (by omega)]⟩
  · rw [op_3]
    have h3 := mulb (hx.2 (by decide)) (hy.2 (by decide))
    rw [if_neg (by decide), if_neg (by decide), if_pos (by decide)]
    obtain ⟨r, e, hr⟩ := c_bounded (M := M) (x.toInt64 * y.toInt64)
    rw [e]
    refine ⟨r, rfl, ?_⟩
    rw [hr, Int64.toInt_mul, i64, i64, Int.bmod_eq_of_le (by omega) (by omega)]
  · rw [op_4]
    rw [if_neg (by decide), if_pos (by decide)]
    unfold f_X2_two_B122
    by_cases h0 : y = 0
    · rw [if_pos h0]
      refine ⟨_, rfl, ?_⟩
      subst h0
      rfl
    · rw [if_neg h0]
      obtain ⟨r, e, hr⟩ := c_floor (M := M) (hx.2 (by decide)) h0
      rw [e]
      exact ⟨r, rfl, hr⟩
  · rw [op_5, if_pos (by decide)]
    by_cases h : y ≤ x
    · have := le_i.mp h
      exact ⟨_, if_pos h, (by rw [if_neg (by omega)])⟩
    · have : ¬ y.toInt ≤ x.toInt := fun q => h (le_i.mpr q)
      exact ⟨_, if_neg h, (by rw [if_pos (by omega)])⟩
  · rw [op_6]
    rw [if_neg (by decide), if_neg (by decide), if_neg (by decide), if_neg (by decide), if_neg (by decide), if_neg (by decide), if_neg (by decide), if_neg (by decide), if_neg (by decide), if_neg (by decide)]
    by_cases h : x ≤ y
    · have := le_i.mp h
      exact ⟨_, if_pos h, (by rw [if_neg (by omega)])⟩
    · have : ¬ x.toInt ≤ y.toInt := fun q => h (le_i.mpr q)
      exact ⟨_, if_neg h, (by rw [if_pos (by omega)])⟩
  · rw [op_7]
    rw [if_neg (by decide), if_neg (by decide), if_neg (by decide), if_neg (by decide), if_neg (by decide), if_neg (by decide), if_neg (by decide), if_pos (by decide)]
    by_cases h : y ≤ x
    · have := le_i.mp h
      exact ⟨_, if_pos h, (by rw [if_neg (by omega)]; rfl)⟩
    · have : ¬ y.toInt ≤ x.toInt := fun q => h (le_i.mpr q)
      exact ⟨_, if_neg h, (by rw [if_pos (by omega)]; rfl)⟩
  · rw [op_8]
    rw [if_neg (by decide), if_neg (by decide), if_neg (by decide), if_neg (by decide), if_neg (by decide), if_neg (by decide), if_pos (by decide)]
    by_cases h : x ≤ y
    · have := le_i.mp h
      exact ⟨_, if_pos h, (by rw [if_neg (by omega)]; rfl)⟩
    · have : ¬ x.toInt ≤ y.toInt := fun q => h (le_i.mpr q)
      exact ⟨_, if_neg h, (by rw [if_pos (by omega)]; rfl)⟩
  · rw [op_9]
    rw [if_neg (by decide), if_neg (by decide), if_neg (by decide), if_neg (by decide), if_neg (by decide), if_pos (by decide)]
    by_cases h : x = y
    · exact ⟨_, if_pos h, (by rw [if_pos (eq_i.mp h)]; rfl)⟩
    · exact ⟨_, if_neg h, (by rw [if_neg (fun q => h (eq_i.mpr q))]; rfl)⟩
  · rw [op_10]
    rw [if_neg (by decide), if_neg (by decide), if_neg (by decide), if_neg (by decide), if_neg (by decide), if_neg (by decide), if_neg (by decide), if_neg (by decide), if_pos (by decide)]
    refine ⟨_, rfl, ?_⟩
    have hx := hx.1 (by decide); have hy := hy.1 (by decide)
    have hx : x = 0 ∨ x = 1 := hx.imp (fun q => eq_i.mpr (by rw [q]; rfl)) (fun q => eq_i.mpr (by rw [q]; rfl))
    have hy : y = 0 ∨ y = 1 := hy.imp (fun q => eq_i.mpr (by rw [q]; rfl)) (fun q => eq_i.mpr (by rw [q]; rfl))
    rcases hx with rfl | rfl <;> rcases hy with rfl | rfl <;> decide
  · rw [op_11]
    rw [if_neg (by decide), if_neg (by decide), if_neg (by decide), if_neg (by decide), if_neg (by decide), if_neg (by decide), if_neg (by decide), if_neg (by decide), if_neg (by decide), if_pos (by decide)]
    refine ⟨_, rfl, ?_⟩
    have hx := hx.1 (by decide); have hy := hy.1 (by decide)
    have hx : x = 0 ∨ x = 1 := hx.imp (fun q => eq_i.mpr (by rw [q]; rfl)) (fun q => eq_i.mpr (by rw [q]; rfl))
    have hy : y = 0 ∨ y = 1 := hy.imp (fun q => eq_i.mpr (by rw [q]; rfl)) (fun q => eq_i.mpr (by rw [q]; rfl))
    rcases hx with rfl | rfl <;> rcases hy with rfl | rfl <;> decide
theorem c_valueAt {a n : Nat} (h : M.1[a]? = some (14, n)) (hn : n < 1000) (x d : Int32) : f_X2_valueAt a x d M = some (if 0 ≤ x.toInt ∧ x.toInt < n then M.2.1 a x.toInt.toNat else d) := by
  unfold f_X2_valueAt
  have e0 : (0 : Int32).toInt = 0 := rfl
  have en : (nI n).toInt = n := nI_i (by omega)
  rw [aL_of h, Option.bind_some]
  by_cases h1 : x < 0
  · have := lt_i.mp h1
    rw [if_pos h1, if_neg (by omega)]
  · have : ¬ x.toInt < (0 : Int32).toInt := fun q => h1 (lt_i.mpr q)
    rw [if_neg h1]
    by_cases h2 : nI n ≤ x
    · have := le_i.mp h2
      rw [if_pos h2, if_neg (by omega)]
    · have : ¬ (nI n).toInt ≤ x.toInt := fun q => h2 (le_i.mpr q)
      rw [if_neg h2, ldI_of h (by omega), Option.bind_some, if_pos (by omega)]
end CR
