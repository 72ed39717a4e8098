/-! WHAT HOLDS AT THE START; room -/
def ckI : List (Nat × Nat × Int32) := [(131, 5, 0), (131, 6, 0), (131, 7, 0), (131, 8, 0), (131, 9, 0), (130, 2, 0), (130, 3, 0), (10, 0, 0), (10, 9, 0), (11, 3, 0), (14, 3, 0), (17, 3, 0), (20, 3, 0), (23, 3, 0), (94, 70, 0), (140, 27, 0), (54, 7, 0), (94, 57, 0), (54, 0, 0), (54, 1, 0), (140, 0, 0), (140, 1, 0), (140, 2, 0), (140, 3, 0), (140, 4, 0), (140, 5, 0), (140, 6, 0), (1, 1, 0), (94, 1, 0), (0, 7, 0), (0, 8, 0), (94, 85, 0), (94, 86, 0), (0, 13, 0), (94, 80, 0), (0, 17, 0), (94, 126, 0)]
theorem mI2_i : ∀ q ∈ ckI, mI2.2.1 q.1 q.2.1 = q.2.2 := by decide +kernel
theorem mI2_77 : ∀ w, w < 500 → mI2.2.2.2 77 w = none := by decide +kernel
theorem mI2_78 : ∀ w, w < 500 → mI2.2.1 78 w = 0 := by decide +kernel
theorem mI2_66 : ∀ w, w < 20 → mI2.2.2.2 66 w = none := by decide +kernel
theorem mI2_74 : ∀ w, w < 24 → mI2.2.2.1 74 w = 0 := by decide +kernel
theorem mI2_rf : ∀ k, k < 6 → mI2.2.1 93 k = mI2.2.1 96 k := by decide +kernel
theorem mI2_fl : mI2.2.1 1 8 = mI2.2.1 94 7 ∧ mI2.2.1 1 9 = mI2.2.1 94 8 := by decide +kernel
theorem mI2_sd : 0 ≤ (mI2.2.1 0 19).toInt ∧ mI2.2.2.1 94 87 = (mI2.2.1 0 19).toInt64 := by decide +kernel
theorem mI2_r : mI2.2.2.2 0 2 = some 10 ∧ mI2.2.2.2 67 3 = some 10 ∧ mI2.2.2.2 76 1 = some 10 ∧ mI2.2.2.2 80 1 = some 10 ∧ mI2.2.2.2 0 3 = some 32 := by decide +kernel
theorem mI2_w : ∀ c, c < 183 → (97 ≤ c ∧ c < 130) ∨ (156 ≤ c ∧ c < 183) → ∀ i, i < (wdl (wdc c)).length → mI2.2.1 c i = nI ((wdl (wdc c)).getD i 0) := by decide +kernel
theorem mI2_t : ∀ kd, kd < 5 → (mI2.2.1 (10 + ofK kd) 0 = nI (mxK kd) ∧ mI2.2.1 (10 + ofK kd) 3 = 0) ∧ mI2.2.1 (32 + ofK kd) 0 = nI (mxK kd) ∧ mI2.2.1 (32 + ofK kd) 3 = 0 := by decide +kernel
theorem mI2_p : ∀ p ∈ prgL, mI2.2.2.2 p 0 = some (p + 1) ∧ mI2.2.1 p 1 = 0 := by decide +kernel
theorem mI2_sp : ∀ p ∈ prgL, ((clsSh ++ refSh).map Prod.snd)[p]? = some (6, 2) ∧ ((clsSh ++ refSh).map Prod.snd)[p + 1]? = some (14, 64) := by decide +kernel
theorem mI2_c : ∀ q ∈ clsSh, ((clsSh ++ refSh).map Prod.snd)[q.1]? = some q.2 := by decide +kernel
theorem mI2_s : ∀ q ∈ refSh, ((clsSh ++ refSh).map Prod.snd)[q.1]? = some q.2 := by decide +kernel
theorem mI2_l : ((clsSh ++ refSh).map Prod.snd).length = 187 := by decide +kernel
theorem mI2_pot : szS ((clsSh ++ refSh).map Prod.snd) + 25 * 500 + 200 * 20 + 3 * (7 * 1984) ≤ 100000 := by decide +kernel
section BEG
theorem ci {a k : Nat} {x : Int32} (h : (a, k, x) ∈ ckI) : mI2.2.1 a k = x := mI2_i _ h
theorem cntN_le {f : Nat → Bool} : ∀ {n : Nat}, cntN f n ≤ n
  | 0 => Nat.le_refl _
  | n + 1 => by
    have := cntN_le (f := f) (n := n)
    unfold cntN
    split <;> omega
theorem pot_0 : Pot mI2 ≤ 100000 := by
  have h := mI2_pot
  have h1 := cntN_le (f := fun w => (mI2.2.2.2 77 w).isNone) (n := 500)
  have h2 := cntN_le (f := fun i => (mI2.2.2.2 66 i).isNone) (n := 20)
  have h3 : ∀ p ∈ prgL, capP mI2 p = 64 := fun p hp => by
    unfold capP
    rw [(mI2_p p hp).1]
    dsimp only
    rw [mI2_sh, (mI2_sp p hp).2]; rfl
  have h4 : (prgL.map fun p => 2048 - capP mI2 p).sum ≤ (prgL.map fun _ => 1984).sum := sum_le (fun p hp => by rw [h3 p hp]; exact Nat.le_refl _)
  have h5 : (prgL.map fun _ => 1984).sum = 7 * 1984 := by decide
  unfold Pot Phi
  rw [mI2_sh]
  omega
theorem PA_0 : PA mI2 := by
  refine ⟨by rw [mI2_sh, mI2_l]; exact Nat.le_refl _, fun p hp => ?_, fun p hp p' hp' hne => by rw [(mI2_p p hp).1, (mI2_p p' hp').1]; intro z; cases z; exact hne rfl⟩
  refine ⟨by rw [mI2_sh]; exact (mI2_sp p hp).1, p + 1, 64, 0, (mI2_p p hp).1, by rw [mI2_sh]; exact (mI2_sp p hp).2, ⟨0, by omega, rfl⟩, (mI2_p p hp).2, by omega, Or.inl rfl⟩
theorem TW_0 {D : Nat} (h : ∀ kd, kd < 5 → mI2.2.1 (D + ofK kd) 0 = nI (mxK kd) ∧ mI2.2.1 (D + ofK kd) 3 = 0) : TWa mI2 D := fun kd hk => ⟨(h kd hk).1, 0, by omega, (h kd hk).2⟩
theorem hc_0 : ClsS mI2.1 mI2.2.2.2 := ⟨fun q hq => by rw [mI2_sh]; exact mI2_c q hq, mI2_cr⟩
theorem hs_0 : RefS mI2.1 mI2.2.2.2 := ⟨fun q hq => by rw [mI2_sh]; exact mI2_s q hq, mI2_rr⟩
theorem inv_0 : Inv mI2 := by
  have u0 : ∀ a k, 130 ≤ a → a ≤ 139 → uR mI2 a k = mI2.2.1 a k := fun a k h1 h2 => (uR_eq h1 h2).symm
  have z0' : (0 : Int32).toInt = 0 := rfl
  have e2 : uR mI2 130 2 = 0 := by rw [u0 _ _ (by decide) (by decide)]; exact ci (by decide)
  have e3 : uR mI2 130 3 = 0 := by rw [u0 _ _ (by decide) (by decide)]; exact ci (by decide)
  obtain ⟨r1, r2, r3, r4, r5⟩ := mI2_r
  have hw : ∀ g, g < 6 → mI2.2.1 140 (1 + g) = 0 := fun g hg => by
    match g, hg with
    | 0, _ => exact ci (by decide)
    | 1, _ => exact ci (by decide)
    | 2, _ => exact ci (by decide)
    | 3, _ => exact ci (by decide)
    | 4, _ => exact ci (by decide)
    | 5, _ => exact ci (by decide)
  refine ⟨10, 32, 0, 0, 0, 0, 0, [], [], [], 0, 0, 0, ⟨hs_0, ⟨⟨?_, ?_, ?_, ?_, ?_⟩, by omega, ⟨?_, ?_, ?_, ?_⟩, fun g hg => by omega, fun g hg => by omega, fun g hg => by omega, fun g hg => by omega, fun _ => ⟨rfl, rfl, rfl, rfl, rfl⟩, fun z => ?_⟩, ⟨⟨hc_0, Or.inl rfl, by rw [mI2_sh, mI2_l]; exact Nat.le_refl _⟩, ⟨r1, r2, r3, r4⟩, ⟨?_, ?_, ci (by decide), ci (by decide), ci (by decide), ci (by decide), ci (by decide)⟩, fun g hg => by omega, fun g _ hg => by omega, fun g _ hg => by omega, fun g _ hg => by omega, fun z => ?_⟩, ⟨⟨fun w q hw hq => ?_, fun w w' q hw hw' a b => ?_, fun w hw h1 => ?_⟩, mI2_74⟩, ⟨⟨?_, ?_, fun e he => by omega, fun c hc => by omega⟩, ⟨⟨0, by omega, ci (by decide)⟩, fun g hg => Or.inl (hw g hg), fun e he => by omega, fun c hc => by omega⟩⟩, ci (by decide), ⟨0, by omega, ci (by decide), ci (by decide)⟩, ?_⟩, ⟨⟨by omega, ci (by decide), ci (by decide), fun i hi => by omega⟩, fun kd i hk hi => ?_, fun kc k q1 q2 q3 => ?_⟩, ⟨⟨fun j s hj hs => ?_, fun j j' s hj hj' a b => ?_⟩, ⟨by omega, by omega, ci (by decide), ci (by decide), ci (by decide), ci (by decide)⟩, fun i hi => by omega⟩, ⟨0, by omega, ci (by decide), ci (by decide), fun i hi => by omega⟩, ⟨mI2_sd, mI2_rf, mI2_fl, ⟨0, by omega, ci (by decide), ci (by decide), fun k hk => by omega⟩⟩, ⟨fun c hc i hi => ?_, PA_0, pot_0⟩, ⟨TW_0 (fun kd hk => (mI2_t kd hk).1), TW_0 (fun kd hk => (mI2_t kd hk).2)⟩, r5, Or.inl ⟨rfl, rfl⟩⟩
  · rw [u0 _ _ (by decide) (by decide)]; exact ci (by decide)
  · rw [u0 _ _ (by decide) (by decide)]; exact ci (by decide)
  · rw [u0 _ _ (by decide) (by decide)]; exact ci (by decide)
  · rw [u0 _ _ (by decide) (by decide)]; exact ci (by decide)
  · rw [u0 _ _ (by decide) (by decide)]; exact ci (by decide)
  · rw [e2]; decide
  · rw [e2]; decide
  · rw [e3]; decide
  · rw [e3]; decide
  · rw [e2] at z; exact absurd z (by decide)
  · rw [e2]; exact ci (by decide)
  · rw [e3]; exact ci (by decide)
  · rw [e2] at z; exact absurd z (by decide)
  · rw [mI2_77 w hw] at hq; cases hq
  · rw [mI2_77 w hw] at a; cases a
  · rw [mI2_78 w hw] at h1; exact absurd h1 (by decide)
  · rw [show mI2.2.1 54 0 = 0 from ci (by decide), show mI2.2.1 140 0 = 0 from ci (by decide)]
  · rw [show mI2.2.1 54 1 = 0 from ci (by decide)]; rfl
  · rw [e2, show mI2.2.1 94 57 = 0 from ci (by decide), bI_f (by decide)]
  · match kd, hk, hi with
    | 0, _, hi => exact absurd hi (Nat.not_lt_zero i)
    | 1, _, hi => exact absurd hi (Nat.not_lt_zero i)
    | 2, _, hi => exact absurd hi (Nat.not_lt_zero i)
    | 3, _, hi => exact absurd hi (Nat.not_lt_zero i)
  · rw [show mI2.2.1 140 27 = nI 0 from ci (by decide)] at q2
    have := (nI_eq (by decide) (by omega)).mp q2
    omega
  · rw [mI2_66 j hj] at hs; cases hs
  · rw [mI2_66 j hj] at a; cases a
  · have hc' : (97 ≤ c ∧ c < 130) ∨ (156 ≤ c ∧ c < 183) := hc
    rw [mI2_w c (by omega) hc' i hi, List.getD_eq_getElem?_getD, List.getElem?_eq_getElem hi]; rfl
end BEG
