/-! THE CLASS cuts the text -/
def CT (b : Nat → Int32) (n : Nat) (M : sMem) : Prop := ClsS M.1 M.2.2.2 ∧ M.2.1 1 1 = nI n ∧ n ≤ 1600 ∧ ∀ i, i < n → M.2.1 2 i = b i
def woff (j : Nat) : Nat := ([0, 9, 14, 17, 23, 28, 31, 37, 42, 47, 51, 56, 61, 66, 70, 76, 81, 86, 91, 97, 104, 111, 115, 121, 127, 134, 141, 147, 150, 154, 158, 162, 166, 170, 176, 181, 187, 193, 198, 204] : List Nat).getD j 0
def wOK (j : Nat) : Bool := decide (woff (j + 1) = woff j + (wdl j).length + 1) && decide (woff (j + 1) ≤ 204) && decide (1 ≤ (wdl j).length) && decide (sChars.getD (woff j + (wdl j).length) 0 = 32) && (List.range (wdl j).length).all (fun i => decide (sChars.getD (woff j + i) 0 = nI ((wdl j).getD i 0)) && decide (sChars.getD (woff j + i) 0 ≠ 32))
theorem wOK_all : ∀ j, j < 39 → wOK j = true := by decide +kernel
theorem sCh_len : sChars.length = 204 := by decide +kernel
theorem w_at {j : Nat} (hj : j < 39) : woff (j + 1) = woff j + (wdl j).length + 1 ∧ woff (j + 1) ≤ 204 ∧ 1 ≤ (wdl j).length ∧ sChars.getD (woff j + (wdl j).length) 0 = 32 ∧ ∀ (i : Nat) (h : i < (wdl j).length), sChars.getD (woff j + i) 0 = nI (wdl j)[i] ∧ sChars.getD (woff j + i) 0 ≠ 32 := by
  have h := wOK_all j hj
  unfold wOK at h
  simp only [Bool.and_eq_true, decide_eq_true_eq, List.all_eq_true, List.mem_range] at h
  obtain ⟨⟨⟨⟨h1, h2⟩, h3⟩, h4⟩, h5⟩ := h
  refine ⟨h1, h2, h3, h4, fun i hi => ⟨?_, (h5 i hi).2⟩⟩
  rw [(h5 i hi).1, List.getD_eq_getElem?_getD, List.getElem?_eq_getElem hi]; rfl
theorem woff_0 : woff 0 = 0 := rfl
theorem woff_39 : woff 39 = 204 := rfl
section CLX
variable {b : Nat → Int32} {n k : Nat} {M N : sMem}
theorem j_len : f_J0_length_8abf5 () = some (nI 204) := by unfold f_J0_length_8abf5; rw [sCh_len]; rfl
theorem j_chr {i : Nat} (h : i < 204) : f_J0_charAt_5068e (nI i) = some (sChars.getD i 0) := by
  unfold f_J0_charAt_5068e
  rw [show Int32.ofNat sChars.length = nI 204 from by rw [sCh_len]; rfl, if_neg (by rw [show (0 : Int32) = nI 0 from rfl, clt (by omega) (by omega)]; omega), if_pos (by rw [clt (by omega) (by omega)]; exact h), nI_clamp (by omega)]
theorem c_byteAt (h : CT b n M) (hk : k < n) : f_X10_byteAt 1 (nI k) M = some (b k) := by
  obtain ⟨hc, h1, hn, h2⟩ := h
  unfold f_X10_byteAt
  rw [sr1 hc, if_neg (by rw [show (0 : Int32) = nI 0 from rfl, clt (by omega) (by omega)]; omega), gi1 hc, Option.bind_some, h1, if_neg (by rw [cle (by omega) (by omega)]; omega), gr1_0 hc, Option.bind_some, al2 hc, Option.bind_some, if_neg (by rw [cle (by omega) (by omega)]; omega), Option.bind_some, ld2 hc (by omega), Option.bind_some, h2 k hk]
theorem c_runEnd (h : CT b n M) (hk : k ≤ n) {lo hi : Int32} {p : Int32 → Bool} (hp : ∀ x, p x = decide (lo ≤ x ∧ x ≤ hi)) : ∃ z, f_X10_runEnd 1 (nI k) lo hi M = some (nI z) ∧ k ≤ z ∧ z ≤ n ∧ (∀ i, k ≤ i → i < z → p (b i) = true) ∧ (z = n ∨ p (b z) = false) := by
  have hn := h.2.2.1
  unfold f_X10_runEnd f_X10_runEnd_L3
  rw [sr1 h.1]
  obtain ⟨r, k1, z, k2, k3⟩ := itr_up0 (f := fun x : Int32 => f_X10_runEnd_K3 1 lo hi x M) (fun j => k ≤ j ∧ ∀ i, k ≤ i → i < j → p (b i) = true) (fun r => ∃ z, r = nI z ∧ k ≤ z ∧ z ≤ n ∧ (∀ i, k ≤ i → i < z → p (b i) = true) ∧ (z = n ∨ p (b z) = false)) n (by omega) (i := k) (by
    rintro j hj ⟨j1, j2⟩
    try dsimp only
    unfold f_X10_runEnd_K3
    rw [gi1 h.1, Option.bind_some, h.2.1]
    by_cases hjn : n ≤ j
    · right
      rw [if_pos (by rw [cle (by omega) (by omega)]; exact hjn)]
      exact ⟨_, rfl, j, rfl, j1, hj, j2, Or.inl (by omega)⟩
    · rw [if_neg (by rw [cle (by omega) (by omega)]; exact hjn), c_byteAt h (by omega), Option.bind_some]
      by_cases h1 : b j < lo
      · right
        rw [if_pos h1]
        exact ⟨_, rfl, j, rfl, j1, hj, j2, Or.inr (by rw [hp]; exact decide_eq_false (fun z => absurd z.1 (Int32.not_le.mpr h1)))⟩
      · rw [if_neg h1, Option.bind_some]
        by_cases h2 : hi < b j
        · right
          rw [if_pos h2]
          exact ⟨_, rfl, j, rfl, j1, hj, j2, Or.inr (by rw [hp]; exact decide_eq_false (fun z => absurd z.2 (Int32.not_le.mpr h2)))⟩
        · left
          rw [if_neg h2, nI_1]
          refine ⟨by omega, rfl, by omega, fun i a1 a2 => ?_⟩
          by_cases q : i = j
          · rw [q, hp]; exact decide_eq_true ⟨Int32.not_lt.mp h1, Int32.not_lt.mp h2⟩
          · exact j2 i a1 (by omega)) hk ⟨Nat.le_refl _, fun i a1 a2 => by omega⟩
  try dsimp only at k1
  rw [k1, Option.bind_some, k2]
  exact ⟨z, rfl, k3⟩
/-- a word of the text against one of ours -/
theorem c_isWord (h : CT b n M) {j s z : Nat} (hj : j < 39) (hz : z ≤ n) (hlen : z = s + (wdl j).length) : ∃ r, f_X10_isWord 1 (nI (woff j)) (nI s) (nI (wdl j).length) M = some (r, M) ∧ (r = 0 ↔ ¬ runW b s z (wdl j)) := by
  obtain ⟨w1, w2, w3, w4, w5⟩ := w_at hj
  have hn := h.2.2.1
  unfold f_X10_isWord f_X10_isWord_L3
  rw [sr1 h.1]
  obtain ⟨r, k1, k2⟩ := itr_up (f := fun a : (Int32 × sMem) => f_X10_isWord_K3 1 (nI (woff j)) (nI s) (nI (wdl j).length) a.1 a.2) (fun k N => N = M ∧ ∀ (i : Nat) (h : i < (wdl j).length), i < k → b (s + i) = nI (wdl j)[i]) (fun r => r.2 = M ∧ (r.1 = 0 ↔ ¬ runW b s z (wdl j))) (wdl j).length (by omega) (i := 0) (s := M) (by
    rintro k N hk ⟨rfl, j2⟩
    try dsimp only
    unfold f_X10_isWord_K3
    by_cases hkn : (wdl j).length ≤ k
    · right
      rw [if_pos (by rw [cle (by omega) (by omega)]; exact hkn)]
      refine ⟨_, rfl, rfl, ⟨fun q => absurd (show (1 : Int32) = 0 from q) (by decide), fun q => absurd ⟨hlen, fun i hi => j2 i hi (by omega)⟩ q⟩⟩
    · rw [if_neg (by rw [cle (by omega) (by omega)]; exact hkn), j_len, Option.bind_some, nI_add, if_neg (by rw [cle (by omega) (by omega)]; omega), j_chr (by omega), Option.bind_some, nI_add, c_byteAt h (by omega), Option.bind_some, (w5 k (by omega)).1]
      by_cases q : b (s + k) = nI (wdl j)[k]
      · left
        rw [if_pos q.symm, nI_1]
        refine ⟨by omega, _, rfl, rfl, fun i hi hik => ?_⟩
        by_cases q2 : i = k
        · subst q2; exact q
        · exact j2 i hi (by omega)
      · right
        rw [if_neg (fun w => q w.symm)]
        exact ⟨_, rfl, rfl, ⟨fun _ w => q (w.2 k (by omega)), fun _ => rfl⟩⟩) (Nat.zero_le _) ⟨rfl, fun i hi hh => by omega⟩
  try dsimp only at k1
  rw [show (0 : Int32) = nI 0 from rfl, k1, Option.bind_some]
  obtain ⟨r1, r2⟩ := r
  dsimp only at k2
  obtain ⟨rfl, k3⟩ := k2
  exact ⟨r1, rfl, k3⟩
/-- which word it is -/
theorem c_wordB (h : CT b n M) {s z : Nat} (hs : s < z) (hz : z ≤ n) : ∃ v, f_X10_wordBetween 1 (nI s) (nI z) M = some (v, M) ∧ ((v = mI ∧ ∀ j, j < 39 → ¬ runW b s z (wdl j)) ∨ ∃ j, j < 39 ∧ v = nI j ∧ runW b s z (wdl j)) := by
  have hn := h.2.2.1
  unfold f_X10_wordBetween f_X10_wordBetween_L8
  rw [sr1 h.1]
  obtain ⟨r, k1, k2⟩ := itr_g (f := fun a : (Int32 × Int32 × Int32 × sMem) => f_X10_wordBetween_K8 1 (nI s) (nI z) a.1 a.2.1 a.2.2.1 a.2.2.2) (fun k (x : Nat × sMem) => (nI x.1, nI (woff x.1), nI k, x.2))
    (fun k x => x.2 = M ∧ x.1 ≤ 39 ∧ woff x.1 ≤ k ∧ (x.1 < 39 → k ≤ woff x.1 + (wdl x.1).length) ∧ (x.1 = 39 → k = 204) ∧ ∀ j, j < x.1 → ¬ runW b s z (wdl j)) (fun r => r.2 = M ∧ ((r.1 = mI ∧ ∀ j, j < 39 → ¬ runW b s z (wdl j)) ∨ ∃ j, j < 39 ∧ r.1 = nI j ∧ runW b s z (wdl j))) 204 (by decide) (i := 0) (s := (0, M)) (by
      rintro k ⟨j, N⟩ hk ⟨rfl, j1, j2, j3, j4, j5⟩
      dsimp only at j1 j2 j3 j4 j5 ⊢
      unfold f_X10_wordBetween_K8
      rw [j_len, Option.bind_some]
      by_cases h39 : j = 39
      · right
        have := j4 h39
        rw [if_pos (by rw [this]; decide)]
        exact ⟨_, rfl, rfl, Or.inl ⟨rfl, fun i hi => j5 i (by omega)⟩⟩
      · have hj : j < 39 := by omega
        obtain ⟨w1, w2, w3, w4, w5⟩ := w_at hj
        have hkl := j3 hj
        have hk2 : k < 204 := by omega
        rw [if_neg (by rw [cle (by omega) (by omega)]; omega), j_chr hk2, Option.bind_some]
        have hB56 : f_X10_wordBetween_B56 1 (nI s) (nI z) (nI j) (nI k) N = some (.inl (nI (j + 1), nI (k + 1), nI (k + 1), N)) := by
          unfold f_X10_wordBetween_B56 f_X10_wordBetween_B65
          rw [nI_1, nI_1]
        by_cases hend : k = woff j + (wdl j).length
        · have e32 : sChars.getD k 0 = 32 := by rw [hend]; exact w4
          rw [if_pos e32, nsub (by omega), nsub (by omega)]
          have next : ¬ runW b s z (wdl j) → (k < 204 ∧ ∃ s' : Nat × sMem, f_X10_wordBetween_B56 1 (nI s) (nI z) (nI j) (nI k) N = some (.inl (nI s'.1, nI (woff s'.1), nI (k + 1), s'.2)) ∧ s'.2 = N ∧ s'.1 ≤ 39 ∧ woff s'.1 ≤ k + 1 ∧ (s'.1 < 39 → k + 1 ≤ woff s'.1 + (wdl s'.1).length) ∧ (s'.1 = 39 → k + 1 = 204) ∧ ∀ j, j < s'.1 → ¬ runW b s z (wdl j)) := by
            intro hno
            have ew : woff (j + 1) = k + 1 := by omega
            refine ⟨hk2, (j + 1, N), by rw [hB56]; dsimp only; rw [ew], rfl, hj, by dsimp only; omega, fun q => by dsimp only at q ⊢; omega, fun q => ?_, fun i hi => ?_⟩
            · dsimp only at q
              rw [q, woff_39] at ew; omega
            · dsimp only at hi
              by_cases q : i = j
              · rw [q]; exact hno
              · exact j5 i (by omega)
          by_cases hl : k - woff j = z - s
          · have hzz : z = s + (wdl j).length := by omega
            obtain ⟨r, a1, a2⟩ := c_isWord h hj hz hzz
            rw [if_pos (by rw [hl]), show z - s = (wdl j).length by omega, a1]
            dsimp only [Option.bind_some]
            by_cases hr : r = 0
            · left
              rw [if_pos hr]
              exact next (a2.mp hr)
            · right
              rw [if_neg hr]
              refine ⟨_, rfl, rfl, Or.inr ⟨j, hj, rfl, ?_⟩⟩
              exact Classical.byContradiction (fun w => hr (a2.mpr w))
          · left
            rw [if_neg (by rw [nI_eq (by omega) (by omega)]; exact hl)]
            exact next (fun w => by have := w.1; omega)
        · have hw := (w5 (k - woff j) (by omega)).2
          rw [show woff j + (k - woff j) = k by omega] at hw
          left
          rw [if_neg hw]
          refine ⟨hk2, (j, N), ?_, rfl, by dsimp only; omega, by dsimp only; omega, fun q => by dsimp only at q ⊢; omega, fun q => by dsimp only at q; omega, j5⟩
          unfold f_X10_wordBetween_B65
          rw [nI_1]) (by decide) ⟨rfl, Nat.zero_le _, Nat.zero_le _, fun _ => Nat.zero_le _, fun q => absurd (show (0 : Nat) = 39 from q) (by decide), fun j hj => absurd hj (Nat.not_lt_zero _)⟩
  have k1' : sItr (fun a : (Int32 × Int32 × Int32 × sMem) => f_X10_wordBetween_K8 1 (nI s) (nI z) a.1 a.2.1 a.2.2.1 a.2.2.2) sFuel ((0 : Int32), (0 : Int32), (0 : Int32), M) = some r := k1
  rw [k1', Option.bind_some]
  obtain ⟨r1, r2⟩ := r
  dsimp only at k2
  obtain ⟨rfl, k3⟩ := k2
  exact ⟨r1, rfl, k3⟩
theorem c_valB (h : CT b n M) {s z : Nat} (hs : s < z) (hz : z ≤ n) : f_X10_valueBetween 1 (nI s) (nI z) M = some (dv b s (min (z - s) 4)) := by
  have hn := h.2.2.1
  unfold f_X10_valueBetween f_X10_valueBetween_L5
  rw [sr1 h.1]
  obtain ⟨r, k1, k2⟩ := itr_g (f := fun a : (Int32 × Int32) => f_X10_valueBetween_K5 1 (nI s) (nI z) a.1 a.2 M) (fun k (_ : Unit) => (dv b s k, nI (s + k))) (fun k _ => k ≤ min (z - s) 4) (fun r => r = dv b s (min (z - s) 4)) (min (z - s) 4) (by omega) (i := 0) (s := ()) (by
    rintro k _ hk j1
    try dsimp only
    unfold f_X10_valueBetween_K5
    by_cases h1 : z ≤ s + k
    · right
      rw [if_pos (by rw [cle (by omega) (by omega)]; exact h1)]
      exact ⟨_, rfl, by rw [show min (z - s) 4 = k by omega]⟩
    · rw [if_neg (by rw [cle (by omega) (by omega)]; exact h1), show (4 : Int32) = nI 4 from rfl, nI_add]
      by_cases h2 : s + 4 ≤ s + k
      · right
        rw [if_pos (by rw [cle (by omega) (by omega)]; exact h2)]
        exact ⟨_, rfl, by rw [show min (z - s) 4 = k by omega]⟩
      · left
        rw [if_neg (by rw [cle (by omega) (by omega)]; exact h2), c_byteAt h (by omega), Option.bind_some, nI_1]
        exact ⟨by omega, (), rfl, by omega⟩) (Nat.zero_le _) (Nat.zero_le _)
  have k1' : sItr (fun a : (Int32 × Int32) => f_X10_valueBetween_K5 1 (nI s) (nI z) a.1 a.2 M) sFuel ((0 : Int32), nI s) = some r := k1
  rw [k1', Option.bind_some, k2]
end CLX
