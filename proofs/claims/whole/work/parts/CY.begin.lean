/-! WHAT HOLDS AT THE START; room -/
def ckI : List (Nat × Nat × Int32) := [(131, 5, 0), (131, 6, 0), (131, 7, 0), (131, 8, 0), (131, 9, 0), (130, 2, 0), (130, 3, 0), (10, 0, 0), (10, 9, 0), (11, 3, 0), (14, 3, 0), (17, 3, 0), (20, 3, 0), (23, 3, 0), (94, 70, 0), (140, 27, 0), (54, 7, 0), (94, 57, 0), (54, 0, 0), (54, 1, 0), (140, 0, 0), (140, 1, 0), (140, 2, 0), (140, 3, 0), (140, 4, 0), (140, 5, 0), (140, 6, 0), (1, 1, 0), (94, 1, 0), (0, 7, 0), (0, 8, 0), (94, 85, 0), (94, 86, 0), (0, 13, 0), (94, 80, 0), (0, 17, 0), (94, 126, 0)]
theorem mI2_i : ∀ q ∈ ckI, mI2.2.1 q.1 q.2.1 = q.2.2 := by decide +kernel
theorem mI2_77 : ∀ w, w < 500 → mI2.2.2.2 77 w = none := by decide +kernel
theorem mI2_78 : ∀ w, w < 500 → mI2.2.1 78 w = 0 := by decide +kernel
theorem mI2_66 : ∀ w, w < 20 → mI2.2.2.2 66 w = none := by decide +kernel
theorem mI2_74 : ∀ w, w < 24 → mI2.2.2.1 74 w = 0 := by decide +kernel
theorem mI2_rf : ∀ k, k < 6 → mI2.2.1 93 k = mI2.2.1 96 k := by decide +kernel
theorem mI2_fl : mI2.2.1 1 8 = mI2.2.1 94 7 ∧ mI2.2.1 1 9 = mI2.2.1 94 8 := by decide +kernel
theorem mI2_sd : 0 ≤ (mI2.2.1 0 19).toInt ∧ mI2.2.2.1 94 87 = (mI2.2.1 0 19).toInt64 := by decide +kernel
theorem mI2_r : mI2.2.2.2 0 2 = some 10 ∧ mI2.2.2.2 67 3 = some 10 ∧ mI2.2.2.2 76 1 = some 10 ∧ mI2.2.2.2 80 1 = some 10 ∧ mI2.2.2.2 0 3 = some 32 := by decide +kernel
theorem mI2_w : ∀ c, c < 183 → (97 ≤ c ∧ c < 130) ∨ (156 ≤ c ∧ c < 183) → ∀ i, i < (wdl (wdc c)).length → mI2.2.1 c i = nI ((wdl (wdc c)).getD i 0) := by decide +kernel
theorem mI2_t : ∀ kd, kd < 5 → (mI2.2.1 (10 + ofK kd) 0 = nI (mxK kd) ∧ mI2.2.1 (10 + ofK kd) 3 = 0) ∧ mI2.2.1 (32 + ofK kd) 0 = nI (mxK kd) ∧ mI2.2.1 (32 + ofK kd) 3 = 0 := by decide +kernel
theorem mI2_p : ∀ p ∈ prgL, mI2.2.2.2 p 0 = some (p + 1) ∧ mI2.2.1 p 1 = 0 := by decide +kernel
theorem mI2_sp : ∀ p ∈ prgL, ((clsSh ++ refSh).map Prod.snd)[p]? = some (6, 2) ∧ ((clsSh ++ refSh).map Prod.snd)[p + 1]? = some (14, 64) := by decide +kernel
theorem mI2_c : ∀ q ∈ clsSh, ((clsSh ++ refSh).map Prod.snd)[q.1]? = some q.2 := by decide +kernel
theorem mI2_s : ∀ q ∈ refSh, ((clsSh ++ refSh).map Prod.snd)[q.1]? = some q.2 := by decide +kernel
theorem mI2_l : ((clsSh ++ refSh).map Prod.snd).length = 187 := by decide +kernel
theorem mI2_pot : szS ((clsSh ++ refSh).map Prod.snd) + 25 * 500 + 200 * 20 + 3 * (7 * 1984) ≤ 100000 := by decide +kernel
section BEG
theorem pot_0 {M : sMem} (hsh : M.1 = (clsSh ++ refSh).map Prod.snd) (hp : ∀ p ∈ prgL, M.2.2.2 p 0 = some (p + 1) ∧ M.2.1 p 1 = 0) : Pot M ≤ 100000 := by
  have h := mI2_pot
  have h1 := cntN_le (fun w => (M.2.2.2 77 w).isNone) 500
  have h2 := cntN_le (fun i => (M.2.2.2 66 i).isNone) 20
  have h3 : ∀ p ∈ prgL, capP M p = 64 := fun p hq => by
    unfold capP
    rw [(hp p hq).1]
    dsimp only
    rw [hsh, (mI2_sp p hq).2]; rfl
  have h4 : (prgL.map fun p => 2048 - capP M p).sum ≤ (prgL.map fun _ => 1984).sum := sum_le (fun p hq => by rw [h3 p hq]; exact Nat.le_refl _)
  have h5 : (prgL.map fun _ => 1984).sum = 7 * 1984 := by decide
  unfold Pot Phi
  rw [hsh]
  omega
theorem PA_0 {M : sMem} (hsh : M.1 = (clsSh ++ refSh).map Prod.snd) (hp : ∀ p ∈ prgL, M.2.2.2 p 0 = some (p + 1) ∧ M.2.1 p 1 = 0) : PA M := by
  refine ⟨by rw [hsh, mI2_l]; exact Nat.le_refl _, fun p hq => ?_, fun p hq p' hq' hne => by rw [(hp p hq).1, (hp p' hq').1]; intro z; cases z; exact hne rfl⟩
  exact ⟨by rw [hsh]; exact (mI2_sp p hq).1, p + 1, 64, 0, (hp p hq).1, by rw [hsh]; exact (mI2_sp p hq).2, ⟨0, by omega, rfl⟩, (hp p hq).2, by omega, Or.inl rfl⟩
theorem TW_0 {M : sMem} {D : Nat} (h : ∀ kd, kd < 5 → M.2.1 (D + ofK kd) 0 = nI (mxK kd) ∧ M.2.1 (D + ofK kd) 3 = 0) : TWa M D := fun kd hk => ⟨(h kd hk).1, 0, by omega, (h kd hk).2⟩
theorem inv_of {M : sMem} (hsh : M.1 = (clsSh ++ refSh).map Prod.snd) (hrr : ∀ q ∈ refRf, M.2.2.2 94 q.1 = some q.2) (hcr : ∀ q ∈ clsRf, M.2.2.2 q.1 q.2.1 = some q.2.2) (hi : ∀ q ∈ ckI, M.2.1 q.1 q.2.1 = q.2.2) (h77 : ∀ w, w < 500 → M.2.2.2 77 w = none) (h78 : ∀ w, w < 500 → M.2.1 78 w = 0) (h66 : ∀ w, w < 20 → M.2.2.2 66 w = none) (h74 : ∀ w, w < 24 → M.2.2.1 74 w = 0) (hrf : ∀ k, k < 6 → M.2.1 93 k = M.2.1 96 k) (hfl : M.2.1 1 8 = M.2.1 94 7 ∧ M.2.1 1 9 = M.2.1 94 8) (hsd : 0 ≤ (M.2.1 0 19).toInt ∧ M.2.2.1 94 87 = (M.2.1 0 19).toInt64) (hr : M.2.2.2 0 2 = some 10 ∧ M.2.2.2 67 3 = some 10 ∧ M.2.2.2 76 1 = some 10 ∧ M.2.2.2 80 1 = some 10 ∧ M.2.2.2 0 3 = some 32) (hwd : ∀ c, c < 183 → (97 ≤ c ∧ c < 130) ∨ (156 ≤ c ∧ c < 183) → ∀ i, i < (wdl (wdc c)).length → M.2.1 c i = nI ((wdl (wdc c)).getD i 0)) (ht : ∀ kd, kd < 5 → (M.2.1 (10 + ofK kd) 0 = nI (mxK kd) ∧ M.2.1 (10 + ofK kd) 3 = 0) ∧ M.2.1 (32 + ofK kd) 0 = nI (mxK kd) ∧ M.2.1 (32 + ofK kd) 3 = 0) (hp : ∀ p ∈ prgL, M.2.2.2 p 0 = some (p + 1) ∧ M.2.1 p 1 = 0) : Inv M := by
  have ci : ∀ {a k : Nat} {x : Int32}, (a, k, x) ∈ ckI → M.2.1 a k = x := fun h => hi _ h
  have hc_0 : ClsS M.1 M.2.2.2 := ⟨fun q hq => by rw [hsh]; exact mI2_c q hq, hcr⟩
  have hs_0 : RefS M.1 M.2.2.2 := ⟨fun q hq => by rw [hsh]; exact mI2_s q hq, hrr⟩
  have u0 : ∀ a k, 130 ≤ a → a ≤ 139 → uR M a k = M.2.1 a k := fun a k h1 h2 => (uR_eq h1 h2).symm
  have z0' : (0 : Int32).toInt = 0 := rfl
  have e2 : uR M 130 2 = 0 := by rw [u0 _ _ (by decide) (by decide)]; exact ci (by decide)
  have e3 : uR M 130 3 = 0 := by rw [u0 _ _ (by decide) (by decide)]; exact ci (by decide)
  obtain ⟨r1, r2, r3, r4, r5⟩ := hr
  have hw : ∀ g, g < 6 → M.2.1 140 (1 + g) = 0 := fun g hg => by
    match g, hg with
    | 0, _ => exact ci (by decide)
    | 1, _ => exact ci (by decide)
    | 2, _ => exact ci (by decide)
    | 3, _ => exact ci (by decide)
    | 4, _ => exact ci (by decide)
    | 5, _ => exact ci (by decide)
  refine ⟨10, 32, 0, 0, 0, 0, 0, [], [], [], 0, 0, 0, ⟨hs_0, ⟨⟨?_, ?_, ?_, ?_, ?_⟩, by omega, ⟨?_, ?_, ?_, ?_⟩, fun g hg => by omega, fun g hg => by omega, fun g hg => by omega, fun g hg => by omega, fun _ => ⟨rfl, rfl, rfl, rfl, rfl⟩, fun z => ?_⟩, ⟨⟨hc_0, Or.inl rfl, by rw [hsh, mI2_l]; exact Nat.le_refl _⟩, ⟨r1, r2, r3, r4⟩, ⟨?_, ?_, ci (by decide), ci (by decide), ci (by decide), ci (by decide), ci (by decide)⟩, fun g hg => by omega, fun g _ hg => by omega, fun g _ hg => by omega, fun g _ hg => by omega, fun z => ?_⟩, ⟨⟨fun w q hw hq => ?_, fun w w' q hw hw' a b => ?_, fun w hw h1 => ?_⟩, h74⟩, ⟨⟨?_, ?_, fun e he => by omega, fun c hc => by omega⟩, ⟨⟨0, by omega, ci (by decide)⟩, fun g hg => Or.inl (hw g hg), fun e he => by omega, fun c hc => by omega⟩⟩, ci (by decide), ⟨0, by omega, ci (by decide), ci (by decide)⟩, ?_⟩, ⟨⟨by omega, ci (by decide), ci (by decide), fun i hi => by omega⟩, fun kd i hk hi => ?_, fun kc k q1 q2 q3 => ?_⟩, ⟨⟨fun j s hj hs => ?_, fun j j' s hj hj' a b => ?_⟩, ⟨by omega, by omega, ci (by decide), ci (by decide), ci (by decide), ci (by decide)⟩, fun i hi => by omega⟩, ⟨0, by omega, ci (by decide), ci (by decide), fun i hi => by omega⟩, ⟨hsd, hrf, hfl, ⟨0, by omega, ci (by decide), ci (by decide), fun k hk => by omega⟩⟩, ⟨fun c hc i hi => ?_, PA_0 hsh hp, pot_0 hsh hp⟩, ⟨TW_0 (fun kd hk => (ht kd hk).1), TW_0 (fun kd hk => (ht kd hk).2)⟩, r5, Or.inl ⟨rfl, rfl⟩⟩
  · rw [u0 _ _ (by decide) (by decide)]; exact ci (by decide)
  · rw [u0 _ _ (by decide) (by decide)]; exact ci (by decide)
  · rw [u0 _ _ (by decide) (by decide)]; exact ci (by decide)
  · rw [u0 _ _ (by decide) (by decide)]; exact ci (by decide)
  · rw [u0 _ _ (by decide) (by decide)]; exact ci (by decide)
  · rw [e2]; decide
  · rw [e2]; decide
  · rw [e3]; decide
  · rw [e3]; decide
  · rw [e2] at z; exact absurd z (by decide)
  · rw [e2]; exact ci (by decide)
  · rw [e3]; exact ci (by decide)
  · rw [e2] at z; exact absurd z (by decide)
  · rw [h77 w hw] at hq; cases hq
  · rw [h77 w hw] at a; cases a
  · rw [h78 w hw] at h1; exact absurd h1 (by decide)
  · rw [show M.2.1 54 0 = 0 from ci (by decide), show M.2.1 140 0 = 0 from ci (by decide)]
  · rw [show M.2.1 54 1 = 0 from ci (by decide)]; rfl
  · rw [e2, show M.2.1 94 57 = 0 from ci (by decide), bI_f (by decide)]
  · match kd, hk, hi with
    | 0, _, hi => exact absurd hi (Nat.not_lt_zero i)
    | 1, _, hi => exact absurd hi (Nat.not_lt_zero i)
    | 2, _, hi => exact absurd hi (Nat.not_lt_zero i)
    | 3, _, hi => exact absurd hi (Nat.not_lt_zero i)
  · rw [show M.2.1 140 27 = nI 0 from ci (by decide)] at q2
    have := (nI_eq (by decide) (by omega)).mp q2
    omega
  · rw [h66 j hj] at hs; cases hs
  · rw [h66 j hj] at a; cases a
  · have hc' : (97 ≤ c ∧ c < 130) ∨ (156 ≤ c ∧ c < 183) := hc
    rw [hwd c (by omega) hc' i hi, List.getD_eq_getElem?_getD, List.getElem?_eq_getElem hi]; rfl
theorem inv_0 : Inv mI2 := inv_of mI2_sh mI2_rr mI2_cr mI2_i mI2_77 mI2_78 mI2_66 mI2_74 mI2_rf mI2_fl mI2_sd mI2_r mI2_w mI2_t mI2_p
end BEG
