/-! NAMES: letters 1 .. 26; the class has a name as six digits of base 27, the reference as it is long -/
def nv (L : List Nat) : Nat → Nat
  | 0 => 0
  | k + 1 => nv L k * 27 + L.getD k 0
def nmL (b : Nat → Int32) (s z : Nat) : List Nat := (List.range (z - s)).map fun i => (b (s + i)).toInt.toNat - 96
def ownF (T : Tk) (t lo hi : Nat) : Bool := (List.range hi).any fun j => decide (lo ≤ j) && isW T t j
def nameR (b : Nat → Int32) (T : Tk) (sa sz : Nat → Nat) (t : Nat) : (Int32 × Int32) ⊕ (List Nat × Nat) := if T 3 t = 1 ∧ ¬ ownF T t 0 33 = true then (if T 5 t - T 4 t ≤ 6 then .inr (nmL b (sa t) (sz t), t + 1) else .inl (1, T 4 t + 6)) else .inl (1, T 4 t)
def GdN (L : List Nat) : Prop := 1 ≤ L.length ∧ L.length ≤ 6 ∧ ∀ x ∈ L, 1 ≤ x ∧ x ≤ 26
section NM
variable {b : Nat → Int32} {n e t c : Nat} {T : Tk} {sa sz : Nat → Nat} {M N : sMem} {s : Cs} {L L' : List Nat}
theorem own_y {lo hi j : Nat} (h1 : lo ≤ j) (h2 : j < hi) (h3 : isW T t j = true) : ownF T t lo hi = true := by
  unfold ownF
  rw [List.any_eq_true]
  exact ⟨j, List.mem_range.mpr h2, by rw [decide_eq_true h1, h3]; rfl⟩
theorem own_e {lo hi : Nat} (h : ownF T t lo hi = true) : ∃ j, lo ≤ j ∧ j < hi ∧ isW T t j = true := by
  unfold ownF at h
  rw [List.any_eq_true] at h
  obtain ⟨j, h1, h2⟩ := h
  rw [Bool.and_eq_true] at h2
  exact ⟨j, of_decide_eq_true h2.1, List.mem_range.mp h1, h2.2⟩
theorem nm_get {z s i : Nat} : (nmL b s z).getD i 0 = if i < z - s then (b (s + i)).toInt.toNat - 96 else 0 := by
  unfold nmL
  rw [List.getD_eq_getElem?_getD, List.getElem?_map]
  by_cases h : i < z - s
  · rw [if_pos h, List.getElem?_range h]; rfl
  · rw [if_neg h, List.getElem?_eq_none (by rw [List.length_range]; omega)]; rfl
theorem nm_len {z s : Nat} : (nmL b s z).length = z - s := by unfold nmL; rw [List.length_map, List.length_range]
theorem isL_i {x : Int32} (h : isL x = true) : 97 ≤ x.toInt ∧ x.toInt ≤ 122 := by
  have := of_decide_eq_true h
  exact ⟨le_i.mp this.1, le_i.mp this.2⟩
theorem nm_gd {z s : Nat} (h1 : s < z) (h2 : z - s ≤ 6) (hl : ∀ i, s ≤ i → i < z → isL (b i) = true) : GdN (nmL b s z) := by
  refine ⟨by rw [nm_len]; omega, by rw [nm_len]; exact h2, fun x hx => ?_⟩
  unfold nmL at hx
  obtain ⟨i, i1, i2⟩ := List.mem_map.mp hx
  have := isL_i (hl (s + i) (by omega) (by have := List.mem_range.mp i1; omega))
  omega
theorem gd_get (h : ∀ x ∈ L, 1 ≤ x ∧ x ≤ 26) (i : Nat) : L.getD i 0 ≤ 26 ∧ (i < L.length → 1 ≤ L.getD i 0) ∧ (L.length ≤ i → L.getD i 0 = 0) := by
  rw [List.getD_eq_getElem?_getD]
  by_cases q : i < L.length
  · rw [List.getElem?_eq_getElem q]
    have := h _ (List.getElem_mem q)
    exact ⟨this.2, fun _ => this.1, fun w => by omega⟩
  · rw [List.getElem?_eq_none (by omega)]
    exact ⟨by decide, fun w => absurd w q, fun _ => rfl⟩
theorem nv_lt (h : ∀ x ∈ L, 1 ≤ x ∧ x ≤ 26) : ∀ k, nv L k < 27 ^ k
  | 0 => by show 0 < 1; decide
  | k + 1 => by
    have h1 := nv_lt h k
    have h2 := (gd_get h k).1
    show nv L k * 27 + L.getD k 0 < 27 ^ (k + 1)
    rw [Nat.pow_succ]; omega
theorem nv_inj (h : ∀ x ∈ L, 1 ≤ x ∧ x ≤ 26) (h' : ∀ x ∈ L', 1 ≤ x ∧ x ≤ 26) : ∀ k, nv L k = nv L' k → ∀ i, i < k → L.getD i 0 = L'.getD i 0
  | 0, _, i, hi => by omega
  | k + 1, he, i, hi => by
    have e1 : nv L k * 27 + L.getD k 0 = nv L' k * 27 + L'.getD k 0 := he
    have a1 := (gd_get h k).1
    have a2 := (gd_get h' k).1
    by_cases q : i = k
    · rw [q]; omega
    · exact nv_inj h h' k (by omega) i (by omega)
theorem nv_ge (h : ∀ x ∈ L, 1 ≤ x ∧ x ≤ 26) : ∀ k, k < L.length → 27 ^ k ≤ nv L (k + 1)
  | 0, hk => by
    have := (gd_get h 0).2.1 hk
    show 1 ≤ 0 * 27 + L.getD 0 0
    omega
  | k + 1, hk => by
    have ih := nv_ge h k (by omega)
    show 27 ^ (k + 1) ≤ nv L (k + 1) * 27 + L.getD (k + 1) 0
    rw [Nat.pow_succ]; omega
/-- names are unlike as they are in both -/
theorem nm_eq6 (h : GdN L) (h' : GdN L') : nv L 6 = nv L' 6 ↔ L = L' := by
  refine ⟨fun he => ?_, fun he => by rw [he]⟩
  have key := nv_inj h.2.2 h'.2.2 6 he
  have hlen : L.length = L'.length := by
    rcases Nat.lt_trichotomy L.length L'.length with q | q | q
    · have a1 := (gd_get h.2.2 L.length).2.2 (Nat.le_refl _)
      have a2 := (gd_get h'.2.2 L.length).2.1 q
      have := key L.length (by have := h'.2.1; omega)
      omega
    · exact q
    · have a1 := (gd_get h'.2.2 L'.length).2.2 (Nat.le_refl _)
      have a2 := (gd_get h.2.2 L'.length).2.1 q
      have := key L'.length (by have := h.2.1; omega)
      omega
  refine List.ext_getElem hlen (fun i h1 h2 => ?_)
  have := key i (by have := h.2.1; omega)
  rw [List.getD_eq_getElem?_getD, List.getD_eq_getElem?_getD, List.getElem?_eq_getElem h1, List.getElem?_eq_getElem h2] at this
  exact this
theorem nm_eqL (h : GdN L) (h' : GdN L') : nv L L.length = nv L' L'.length ↔ L = L' := by
  refine ⟨fun he => ?_, fun he => by rw [he]⟩
  have hlen : L.length = L'.length := by
    rcases Nat.lt_trichotomy L.length L'.length with q | q | q
    · have a1 := nv_lt h.2.2 L.length
      have a2 := nv_ge h'.2.2 (L'.length - 1) (by omega)
      rw [show L'.length - 1 + 1 = L'.length by omega] at a2
      have : 27 ^ L.length ≤ 27 ^ (L'.length - 1) := Nat.pow_le_pow_right (by decide) (by omega)
      omega
    · exact q
    · have a1 := nv_lt h'.2.2 L'.length
      have a2 := nv_ge h.2.2 (L.length - 1) (by omega)
      rw [show L.length - 1 + 1 = L.length by omega] at a2
      have : 27 ^ L'.length ≤ 27 ^ (L.length - 1) := Nat.pow_le_pow_right (by decide) (by omega)
      omega
  rw [← hlen] at he
  have key := nv_inj h.2.2 h'.2.2 L.length he
  refine List.ext_getElem hlen (fun i h1 h2 => ?_)
  have := key i h1
  rw [List.getD_eq_getElem?_getD, List.getD_eq_getElem?_getD, List.getElem?_eq_getElem h1, List.getElem?_eq_getElem h2] at this
  exact this
theorem ow_B375 : f_X12_isOwnHere_B375 94 1 M = some (1, M) := by
  unfold f_X12_isOwnHere_B375 f_X12_isOwnHere_B413 f_X12_isOwnHere_B418
  rw [if_neg (by decide), if_pos (Or.inr rfl)]
theorem on_B375 (hL : Lex b n T e sa sz) (hB : RB b n M) (hS : RS T e sa sz M (.inr t)) : ∃ N, f_X12_isOwnHere_B375 94 0 M = some (bI ((ownF T t 30 33) = true), N) ∧ Fr rlX q0 M N ∧ RSl T e sa sz N t := by
  unfold f_X12_isOwnHere_B375
  rw [if_pos rfl]
  rw [gr94_41 hB.1, Option.bind_some]
  obtain ⟨N0, l0, f0, s0⟩ := r_isHere (c := 127) hL hB (by unfold isWc; omega) hS
  have g0 : Fr rlX q0 M N0 := f0
  have b0 := hB.rl g0
  rw [l0]
  dsimp only [Option.bind_some]
  by_cases h0 : isW T t (wdc 127) = true
  · rw [bI_t h0, if_neg (by decide)]
    unfold f_X12_isOwnHere_B413 f_X12_isOwnHere_B418
    rw [if_pos (Or.inr rfl), bI_t (own_y (lo := 30) (j := 30) (by decide) (by decide) h0)]
    exact ⟨N0, rfl, g0, s0⟩
  rw [bI_f h0, if_pos rfl]
  rw [gr94_42 b0.1, Option.bind_some]
  obtain ⟨N1, l1, f1, s1⟩ := r_isHere (c := 128) hL b0 (by unfold isWc; omega) s0.1
  have g1 : Fr rlX q0 M N1 := g0.tr f1
  have b1 := hB.rl g1
  rw [l1]
  dsimp only [Option.bind_some]
  by_cases h1 : isW T t (wdc 128) = true
  · rw [bI_t h1, if_neg (by decide)]
    unfold f_X12_isOwnHere_B413 f_X12_isOwnHere_B418
    rw [if_pos (Or.inr rfl), bI_t (own_y (lo := 30) (j := 31) (by decide) (by decide) h1)]
    exact ⟨N1, rfl, g1, s1⟩
  rw [bI_f h1, if_pos rfl]
  rw [gr94_43 b1.1, Option.bind_some]
  obtain ⟨N2, l2, f2, s2⟩ := r_isHere (c := 129) hL b1 (by unfold isWc; omega) s1.1
  have g2 : Fr rlX q0 M N2 := g1.tr f2
  have b2 := hB.rl g2
  rw [l2]
  dsimp only [Option.bind_some]
  by_cases h2 : isW T t (wdc 129) = true
  · rw [bI_t h2, if_neg (by decide)]
    unfold f_X12_isOwnHere_B413 f_X12_isOwnHere_B418
    rw [if_pos (Or.inr rfl), bI_t (own_y (lo := 30) (j := 32) (by decide) (by decide) h2)]
    exact ⟨N2, rfl, g2, s2⟩
  rw [bI_f h2, if_pos rfl]
  unfold f_X12_isOwnHere_B418
  rw [if_pos (Or.inl rfl), bI_f (fun z => ?_)]
  · exact ⟨N2, rfl, g2, s2⟩
  · obtain ⟨j, j1, j2, j3⟩ := own_e z
    match j, j1, j2, j3 with
    | 30, _, _, j3 => exact h0 j3
    | 31, _, _, j3 => exact h1 j3
    | 32, _, _, j3 => exact h2 j3
    | j + 33, _, j2, _ => omega
theorem ow_B299 : f_X12_isOwnHere_B299 94 1 M = some (1, M) := by
  unfold f_X12_isOwnHere_B299 f_X12_isOwnHere_B370
  rw [if_neg (by decide), ow_B375]
theorem on_B299 (hL : Lex b n T e sa sz) (hB : RB b n M) (hS : RS T e sa sz M (.inr t)) : ∃ N, f_X12_isOwnHere_B299 94 0 M = some (bI ((ownF T t 24 33) = true), N) ∧ Fr rlX q0 M N ∧ RSl T e sa sz N t := by
  unfold f_X12_isOwnHere_B299
  rw [if_pos rfl]
  rw [gr94_35 hB.1, Option.bind_some]
  obtain ⟨N0, l0, f0, s0⟩ := r_isHere (c := 121) hL hB (by unfold isWc; omega) hS
  have g0 : Fr rlX q0 M N0 := f0
  have b0 := hB.rl g0
  rw [l0]
  dsimp only [Option.bind_some]
  by_cases h0 : isW T t (wdc 121) = true
  · rw [bI_t h0, if_neg (by decide)]
    unfold f_X12_isOwnHere_B370
    rw [ow_B375, bI_t (own_y (lo := 24) (j := 24) (by decide) (by decide) h0)]
    exact ⟨N0, rfl, g0, s0⟩
  rw [bI_f h0, if_pos rfl]
  rw [gr94_36 b0.1, Option.bind_some]
  obtain ⟨N1, l1, f1, s1⟩ := r_isHere (c := 122) hL b0 (by unfold isWc; omega) s0.1
  have g1 : Fr rlX q0 M N1 := g0.tr f1
  have b1 := hB.rl g1
  rw [l1]
  dsimp only [Option.bind_some]
  by_cases h1 : isW T t (wdc 122) = true
  · rw [bI_t h1, if_neg (by decide)]
    unfold f_X12_isOwnHere_B370
    rw [ow_B375, bI_t (own_y (lo := 24) (j := 25) (by decide) (by decide) h1)]
    exact ⟨N1, rfl, g1, s1⟩
  rw [bI_f h1, if_pos rfl]
  rw [gr94_37 b1.1, Option.bind_some]
  obtain ⟨N2, l2, f2, s2⟩ := r_isHere (c := 123) hL b1 (by unfold isWc; omega) s1.1
  have g2 : Fr rlX q0 M N2 := g1.tr f2
  have b2 := hB.rl g2
  rw [l2]
  dsimp only [Option.bind_some]
  by_cases h2 : isW T t (wdc 123) = true
  · rw [bI_t h2, if_neg (by decide)]
    unfold f_X12_isOwnHere_B370
    rw [ow_B375, bI_t (own_y (lo := 24) (j := 26) (by decide) (by decide) h2)]
    exact ⟨N2, rfl, g2, s2⟩
  rw [bI_f h2, if_pos rfl]
  rw [gr94_38 b2.1, Option.bind_some]
  obtain ⟨N3, l3, f3, s3⟩ := r_isHere (c := 124) hL b2 (by unfold isWc; omega) s2.1
  have g3 : Fr rlX q0 M N3 := g2.tr f3
  have b3 := hB.rl g3
  rw [l3]
  dsimp only [Option.bind_some]
  by_cases h3 : isW T t (wdc 124) = true
  · rw [bI_t h3, if_neg (by decide)]
    unfold f_X12_isOwnHere_B370
    rw [ow_B375, bI_t (own_y (lo := 24) (j := 27) (by decide) (by decide) h3)]
    exact ⟨N3, rfl, g3, s3⟩
  rw [bI_f h3, if_pos rfl]
  rw [gr94_39 b3.1, Option.bind_some]
  obtain ⟨N4, l4, f4, s4⟩ := r_isHere (c := 125) hL b3 (by unfold isWc; omega) s3.1
  have g4 : Fr rlX q0 M N4 := g3.tr f4
  have b4 := hB.rl g4
  rw [l4]
  dsimp only [Option.bind_some]
  by_cases h4 : isW T t (wdc 125) = true
  · rw [bI_t h4, if_neg (by decide)]
    unfold f_X12_isOwnHere_B370
    rw [ow_B375, bI_t (own_y (lo := 24) (j := 28) (by decide) (by decide) h4)]
    exact ⟨N4, rfl, g4, s4⟩
  rw [bI_f h4, if_pos rfl]
  rw [gr94_40 b4.1, Option.bind_some]
  obtain ⟨N5, l5, f5, s5⟩ := r_isHere (c := 126) hL b4 (by unfold isWc; omega) s4.1
  have g5 : Fr rlX q0 M N5 := g4.tr f5
  have b5 := hB.rl g5
  rw [l5]
  dsimp only [Option.bind_some]
  by_cases h5 : isW T t (wdc 126) = true
  · rw [bI_t h5, if_neg (by decide)]
    unfold f_X12_isOwnHere_B370
    rw [ow_B375, bI_t (own_y (lo := 24) (j := 29) (by decide) (by decide) h5)]
    exact ⟨N5, rfl, g5, s5⟩
  rw [bI_f h5, if_pos rfl]
  obtain ⟨N, a1, a2, a3⟩ := on_B375 hL b5 s5.1
  rw [a1]
  refine ⟨N, ?_, g5.tr a2, a3⟩
  rw [bI_cong (p := ownF T t 30 33 = true) (q := ownF T t 24 33 = true) ⟨fun z => ?_, fun z => ?_⟩]
  · obtain ⟨j, j1, j2, j3⟩ := own_e z
    exact own_y (by omega) j2 j3
  · obtain ⟨j, j1, j2, j3⟩ := own_e z
    rcases Nat.lt_or_ge j 30 with q | q
    · match j, j1, q, j3 with
      | 24, _, _, j3 => exact absurd j3 h0
      | 25, _, _, j3 => exact absurd j3 h1
      | 26, _, _, j3 => exact absurd j3 h2
      | 27, _, _, j3 => exact absurd j3 h3
      | 28, _, _, j3 => exact absurd j3 h4
      | 29, _, _, j3 => exact absurd j3 h5
      | j + 30, _, q, _ => omega
    · exact own_y q j2 j3
theorem ow_B223 : f_X12_isOwnHere_B223 94 1 M = some (1, M) := by
  unfold f_X12_isOwnHere_B223 f_X12_isOwnHere_B294
  rw [if_neg (by decide), ow_B299]
theorem on_B223 (hL : Lex b n T e sa sz) (hB : RB b n M) (hS : RS T e sa sz M (.inr t)) : ∃ N, f_X12_isOwnHere_B223 94 0 M = some (bI ((ownF T t 18 33) = true), N) ∧ Fr rlX q0 M N ∧ RSl T e sa sz N t := by
  unfold f_X12_isOwnHere_B223
  rw [if_pos rfl]
  rw [gr94_29 hB.1, Option.bind_some]
  obtain ⟨N0, l0, f0, s0⟩ := r_isHere (c := 115) hL hB (by unfold isWc; omega) hS
  have g0 : Fr rlX q0 M N0 := f0
  have b0 := hB.rl g0
  rw [l0]
  dsimp only [Option.bind_some]
  by_cases h0 : isW T t (wdc 115) = true
  · rw [bI_t h0, if_neg (by decide)]
    unfold f_X12_isOwnHere_B294
    rw [ow_B299, bI_t (own_y (lo := 18) (j := 18) (by decide) (by decide) h0)]
    exact ⟨N0, rfl, g0, s0⟩
  rw [bI_f h0, if_pos rfl]
  rw [gr94_30 b0.1, Option.bind_some]
  obtain ⟨N1, l1, f1, s1⟩ := r_isHere (c := 116) hL b0 (by unfold isWc; omega) s0.1
  have g1 : Fr rlX q0 M N1 := g0.tr f1
  have b1 := hB.rl g1
  rw [l1]
  dsimp only [Option.bind_some]
  by_cases h1 : isW T t (wdc 116) = true
  · rw [bI_t h1, if_neg (by decide)]
    unfold f_X12_isOwnHere_B294
    rw [ow_B299, bI_t (own_y (lo := 18) (j := 19) (by decide) (by decide) h1)]
    exact ⟨N1, rfl, g1, s1⟩
  rw [bI_f h1, if_pos rfl]
  rw [gr94_31 b1.1, Option.bind_some]
  obtain ⟨N2, l2, f2, s2⟩ := r_isHere (c := 117) hL b1 (by unfold isWc; omega) s1.1
  have g2 : Fr rlX q0 M N2 := g1.tr f2
  have b2 := hB.rl g2
  rw [l2]
  dsimp only [Option.bind_some]
  by_cases h2 : isW T t (wdc 117) = true
  · rw [bI_t h2, if_neg (by decide)]
    unfold f_X12_isOwnHere_B294
    rw [ow_B299, bI_t (own_y (lo := 18) (j := 20) (by decide) (by decide) h2)]
    exact ⟨N2, rfl, g2, s2⟩
  rw [bI_f h2, if_pos rfl]
  rw [gr94_32 b2.1, Option.bind_some]
  obtain ⟨N3, l3, f3, s3⟩ := r_isHere (c := 118) hL b2 (by unfold isWc; omega) s2.1
  have g3 : Fr rlX q0 M N3 := g2.tr f3
  have b3 := hB.rl g3
  rw [l3]
  dsimp only [Option.bind_some]
  by_cases h3 : isW T t (wdc 118) = true
  · rw [bI_t h3, if_neg (by decide)]
    unfold f_X12_isOwnHere_B294
    rw [ow_B299, bI_t (own_y (lo := 18) (j := 21) (by decide) (by decide) h3)]
    exact ⟨N3, rfl, g3, s3⟩
  rw [bI_f h3, if_pos rfl]
  rw [gr94_33 b3.1, Option.bind_some]
  obtain ⟨N4, l4, f4, s4⟩ := r_isHere (c := 119) hL b3 (by unfold isWc; omega) s3.1
  have g4 : Fr rlX q0 M N4 := g3.tr f4
  have b4 := hB.rl g4
  rw [l4]
  dsimp only [Option.bind_some]
  by_cases h4 : isW T t (wdc 119) = true
  · rw [bI_t h4, if_neg (by decide)]
    unfold f_X12_isOwnHere_B294
    rw [ow_B299, bI_t (own_y (lo := 18) (j := 22) (by decide) (by decide) h4)]
    exact ⟨N4, rfl, g4, s4⟩
  rw [bI_f h4, if_pos rfl]
  rw [gr94_34 b4.1, Option.bind_some]
  obtain ⟨N5, l5, f5, s5⟩ := r_isHere (c := 120) hL b4 (by unfold isWc; omega) s4.1
  have g5 : Fr rlX q0 M N5 := g4.tr f5
  have b5 := hB.rl g5
  rw [l5]
  dsimp only [Option.bind_some]
  by_cases h5 : isW T t (wdc 120) = true
  · rw [bI_t h5, if_neg (by decide)]
    unfold f_X12_isOwnHere_B294
    rw [ow_B299, bI_t (own_y (lo := 18) (j := 23) (by decide) (by decide) h5)]
    exact ⟨N5, rfl, g5, s5⟩
  rw [bI_f h5, if_pos rfl]
  obtain ⟨N, a1, a2, a3⟩ := on_B299 hL b5 s5.1
  rw [a1]
  refine ⟨N, ?_, g5.tr a2, a3⟩
  rw [bI_cong (p := ownF T t 24 33 = true) (q := ownF T t 18 33 = true) ⟨fun z => ?_, fun z => ?_⟩]
  · obtain ⟨j, j1, j2, j3⟩ := own_e z
    exact own_y (by omega) j2 j3
  · obtain ⟨j, j1, j2, j3⟩ := own_e z
    rcases Nat.lt_or_ge j 24 with q | q
    · match j, j1, q, j3 with
      | 18, _, _, j3 => exact absurd j3 h0
      | 19, _, _, j3 => exact absurd j3 h1
      | 20, _, _, j3 => exact absurd j3 h2
      | 21, _, _, j3 => exact absurd j3 h3
      | 22, _, _, j3 => exact absurd j3 h4
      | 23, _, _, j3 => exact absurd j3 h5
      | j + 24, _, q, _ => omega
    · exact own_y q j2 j3
theorem ow_B147 : f_X12_isOwnHere_B147 94 1 M = some (1, M) := by
  unfold f_X12_isOwnHere_B147 f_X12_isOwnHere_B218
  rw [if_neg (by decide), ow_B223]
theorem on_B147 (hL : Lex b n T e sa sz) (hB : RB b n M) (hS : RS T e sa sz M (.inr t)) : ∃ N, f_X12_isOwnHere_B147 94 0 M = some (bI ((ownF T t 12 33) = true), N) ∧ Fr rlX q0 M N ∧ RSl T e sa sz N t := by
  unfold f_X12_isOwnHere_B147
  rw [if_pos rfl]
  rw [gr94_23 hB.1, Option.bind_some]
  obtain ⟨N0, l0, f0, s0⟩ := r_isHere (c := 109) hL hB (by unfold isWc; omega) hS
  have g0 : Fr rlX q0 M N0 := f0
  have b0 := hB.rl g0
  rw [l0]
  dsimp only [Option.bind_some]
  by_cases h0 : isW T t (wdc 109) = true
  · rw [bI_t h0, if_neg (by decide)]
    unfold f_X12_isOwnHere_B218
    rw [ow_B223, bI_t (own_y (lo := 12) (j := 12) (by decide) (by decide) h0)]
    exact ⟨N0, rfl, g0, s0⟩
  rw [bI_f h0, if_pos rfl]
  rw [gr94_24 b0.1, Option.bind_some]
  obtain ⟨N1, l1, f1, s1⟩ := r_isHere (c := 110) hL b0 (by unfold isWc; omega) s0.1
  have g1 : Fr rlX q0 M N1 := g0.tr f1
  have b1 := hB.rl g1
  rw [l1]
  dsimp only [Option.bind_some]
  by_cases h1 : isW T t (wdc 110) = true
  · rw [bI_t h1, if_neg (by decide)]
    unfold f_X12_isOwnHere_B218
    rw [ow_B223, bI_t (own_y (lo := 12) (j := 13) (by decide) (by decide) h1)]
    exact ⟨N1, rfl, g1, s1⟩
  rw [bI_f h1, if_pos rfl]
  rw [gr94_25 b1.1, Option.bind_some]
  obtain ⟨N2, l2, f2, s2⟩ := r_isHere (c := 111) hL b1 (by unfold isWc; omega) s1.1
  have g2 : Fr rlX q0 M N2 := g1.tr f2
  have b2 := hB.rl g2
  rw [l2]
  dsimp only [Option.bind_some]
  by_cases h2 : isW T t (wdc 111) = true
  · rw [bI_t h2, if_neg (by decide)]
    unfold f_X12_isOwnHere_B218
    rw [ow_B223, bI_t (own_y (lo := 12) (j := 14) (by decide) (by decide) h2)]
    exact ⟨N2, rfl, g2, s2⟩
  rw [bI_f h2, if_pos rfl]
  rw [gr94_26 b2.1, Option.bind_some]
  obtain ⟨N3, l3, f3, s3⟩ := r_isHere (c := 112) hL b2 (by unfold isWc; omega) s2.1
  have g3 : Fr rlX q0 M N3 := g2.tr f3
  have b3 := hB.rl g3
  rw [l3]
  dsimp only [Option.bind_some]
  by_cases h3 : isW T t (wdc 112) = true
  · rw [bI_t h3, if_neg (by decide)]
    unfold f_X12_isOwnHere_B218
    rw [ow_B223, bI_t (own_y (lo := 12) (j := 15) (by decide) (by decide) h3)]
    exact ⟨N3, rfl, g3, s3⟩
  rw [bI_f h3, if_pos rfl]
  rw [gr94_27 b3.1, Option.bind_some]
  obtain ⟨N4, l4, f4, s4⟩ := r_isHere (c := 113) hL b3 (by unfold isWc; omega) s3.1
  have g4 : Fr rlX q0 M N4 := g3.tr f4
  have b4 := hB.rl g4
  rw [l4]
  dsimp only [Option.bind_some]
  by_cases h4 : isW T t (wdc 113) = true
  · rw [bI_t h4, if_neg (by decide)]
    unfold f_X12_isOwnHere_B218
    rw [ow_B223, bI_t (own_y (lo := 12) (j := 16) (by decide) (by decide) h4)]
    exact ⟨N4, rfl, g4, s4⟩
  rw [bI_f h4, if_pos rfl]
  rw [gr94_28 b4.1, Option.bind_some]
  obtain ⟨N5, l5, f5, s5⟩ := r_isHere (c := 114) hL b4 (by unfold isWc; omega) s4.1
  have g5 : Fr rlX q0 M N5 := g4.tr f5
  have b5 := hB.rl g5
  rw [l5]
  dsimp only [Option.bind_some]
  by_cases h5 : isW T t (wdc 114) = true
  · rw [bI_t h5, if_neg (by decide)]
    unfold f_X12_isOwnHere_B218
    rw [ow_B223, bI_t (own_y (lo := 12) (j := 17) (by decide) (by decide) h5)]
    exact ⟨N5, rfl, g5, s5⟩
  rw [bI_f h5, if_pos rfl]
  obtain ⟨N, a1, a2, a3⟩ := on_B223 hL b5 s5.1
  rw [a1]
  refine ⟨N, ?_, g5.tr a2, a3⟩
  rw [bI_cong (p := ownF T t 18 33 = true) (q := ownF T t 12 33 = true) ⟨fun z => ?_, fun z => ?_⟩]
  · obtain ⟨j, j1, j2, j3⟩ := own_e z
    exact own_y (by omega) j2 j3
  · obtain ⟨j, j1, j2, j3⟩ := own_e z
    rcases Nat.lt_or_ge j 18 with q | q
    · match j, j1, q, j3 with
      | 12, _, _, j3 => exact absurd j3 h0
      | 13, _, _, j3 => exact absurd j3 h1
      | 14, _, _, j3 => exact absurd j3 h2
      | 15, _, _, j3 => exact absurd j3 h3
      | 16, _, _, j3 => exact absurd j3 h4
      | 17, _, _, j3 => exact absurd j3 h5
      | j + 18, _, q, _ => omega
    · exact own_y q j2 j3
theorem ow_B71 : f_X12_isOwnHere_B71 94 1 M = some (1, M) := by
  unfold f_X12_isOwnHere_B71 f_X12_isOwnHere_B142
  rw [if_neg (by decide), ow_B147]
theorem on_B71 (hL : Lex b n T e sa sz) (hB : RB b n M) (hS : RS T e sa sz M (.inr t)) : ∃ N, f_X12_isOwnHere_B71 94 0 M = some (bI ((ownF T t 6 33) = true), N) ∧ Fr rlX q0 M N ∧ RSl T e sa sz N t := by
  unfold f_X12_isOwnHere_B71
  rw [if_pos rfl]
  rw [gr94_17 hB.1, Option.bind_some]
  obtain ⟨N0, l0, f0, s0⟩ := r_isHere (c := 103) hL hB (by unfold isWc; omega) hS
  have g0 : Fr rlX q0 M N0 := f0
  have b0 := hB.rl g0
  rw [l0]
  dsimp only [Option.bind_some]
  by_cases h0 : isW T t (wdc 103) = true
  · rw [bI_t h0, if_neg (by decide)]
    unfold f_X12_isOwnHere_B142
    rw [ow_B147, bI_t (own_y (lo := 6) (j := 6) (by decide) (by decide) h0)]
    exact ⟨N0, rfl, g0, s0⟩
  rw [bI_f h0, if_pos rfl]
  rw [gr94_18 b0.1, Option.bind_some]
  obtain ⟨N1, l1, f1, s1⟩ := r_isHere (c := 104) hL b0 (by unfold isWc; omega) s0.1
  have g1 : Fr rlX q0 M N1 := g0.tr f1
  have b1 := hB.rl g1
  rw [l1]
  dsimp only [Option.bind_some]
  by_cases h1 : isW T t (wdc 104) = true
  · rw [bI_t h1, if_neg (by decide)]
    unfold f_X12_isOwnHere_B142
    rw [ow_B147, bI_t (own_y (lo := 6) (j := 7) (by decide) (by decide) h1)]
    exact ⟨N1, rfl, g1, s1⟩
  rw [bI_f h1, if_pos rfl]
  rw [gr94_19 b1.1, Option.bind_some]
  obtain ⟨N2, l2, f2, s2⟩ := r_isHere (c := 105) hL b1 (by unfold isWc; omega) s1.1
  have g2 : Fr rlX q0 M N2 := g1.tr f2
  have b2 := hB.rl g2
  rw [l2]
  dsimp only [Option.bind_some]
  by_cases h2 : isW T t (wdc 105) = true
  · rw [bI_t h2, if_neg (by decide)]
    unfold f_X12_isOwnHere_B142
    rw [ow_B147, bI_t (own_y (lo := 6) (j := 8) (by decide) (by decide) h2)]
    exact ⟨N2, rfl, g2, s2⟩
  rw [bI_f h2, if_pos rfl]
  rw [gr94_20 b2.1, Option.bind_some]
  obtain ⟨N3, l3, f3, s3⟩ := r_isHere (c := 106) hL b2 (by unfold isWc; omega) s2.1
  have g3 : Fr rlX q0 M N3 := g2.tr f3
  have b3 := hB.rl g3
  rw [l3]
  dsimp only [Option.bind_some]
  by_cases h3 : isW T t (wdc 106) = true
  · rw [bI_t h3, if_neg (by decide)]
    unfold f_X12_isOwnHere_B142
    rw [ow_B147, bI_t (own_y (lo := 6) (j := 9) (by decide) (by decide) h3)]
    exact ⟨N3, rfl, g3, s3⟩
  rw [bI_f h3, if_pos rfl]
  rw [gr94_21 b3.1, Option.bind_some]
  obtain ⟨N4, l4, f4, s4⟩ := r_isHere (c := 107) hL b3 (by unfold isWc; omega) s3.1
  have g4 : Fr rlX q0 M N4 := g3.tr f4
  have b4 := hB.rl g4
  rw [l4]
  dsimp only [Option.bind_some]
  by_cases h4 : isW T t (wdc 107) = true
  · rw [bI_t h4, if_neg (by decide)]
    unfold f_X12_isOwnHere_B142
    rw [ow_B147, bI_t (own_y (lo := 6) (j := 10) (by decide) (by decide) h4)]
    exact ⟨N4, rfl, g4, s4⟩
  rw [bI_f h4, if_pos rfl]
  rw [gr94_22 b4.1, Option.bind_some]
  obtain ⟨N5, l5, f5, s5⟩ := r_isHere (c := 108) hL b4 (by unfold isWc; omega) s4.1
  have g5 : Fr rlX q0 M N5 := g4.tr f5
  have b5 := hB.rl g5
  rw [l5]
  dsimp only [Option.bind_some]
  by_cases h5 : isW T t (wdc 108) = true
  · rw [bI_t h5, if_neg (by decide)]
    unfold f_X12_isOwnHere_B142
    rw [ow_B147, bI_t (own_y (lo := 6) (j := 11) (by decide) (by decide) h5)]
    exact ⟨N5, rfl, g5, s5⟩
  rw [bI_f h5, if_pos rfl]
  obtain ⟨N, a1, a2, a3⟩ := on_B147 hL b5 s5.1
  rw [a1]
  refine ⟨N, ?_, g5.tr a2, a3⟩
  rw [bI_cong (p := ownF T t 12 33 = true) (q := ownF T t 6 33 = true) ⟨fun z => ?_, fun z => ?_⟩]
  · obtain ⟨j, j1, j2, j3⟩ := own_e z
    exact own_y (by omega) j2 j3
  · obtain ⟨j, j1, j2, j3⟩ := own_e z
    rcases Nat.lt_or_ge j 12 with q | q
    · match j, j1, q, j3 with
      | 6, _, _, j3 => exact absurd j3 h0
      | 7, _, _, j3 => exact absurd j3 h1
      | 8, _, _, j3 => exact absurd j3 h2
      | 9, _, _, j3 => exact absurd j3 h3
      | 10, _, _, j3 => exact absurd j3 h4
      | 11, _, _, j3 => exact absurd j3 h5
      | j + 12, _, q, _ => omega
    · exact own_y q j2 j3
theorem on_isOwnHere (hL : Lex b n T e sa sz) (hB : RB b n M) (hS : RS T e sa sz M (.inr t)) : ∃ N, f_X12_isOwnHere 94 M = some (bI ((ownF T t 0 33) = true), N) ∧ Fr rlX q0 M N ∧ RSl T e sa sz N t := by
  unfold f_X12_isOwnHere
  rw [sr94 hB.1]
  rw [gr94_11 hB.1, Option.bind_some]
  obtain ⟨N0, l0, f0, s0⟩ := r_isHere (c := 97) hL hB (by unfold isWc; omega) hS
  have g0 : Fr rlX q0 M N0 := f0
  have b0 := hB.rl g0
  rw [l0]
  dsimp only [Option.bind_some]
  by_cases h0 : isW T t (wdc 97) = true
  · rw [bI_t h0, if_neg (by decide)]
    unfold f_X12_isOwnHere_B66
    rw [ow_B71, bI_t (own_y (lo := 0) (j := 0) (by decide) (by decide) h0)]
    exact ⟨N0, rfl, g0, s0⟩
  rw [bI_f h0, if_pos rfl]
  rw [gr94_12 b0.1, Option.bind_some]
  obtain ⟨N1, l1, f1, s1⟩ := r_isHere (c := 98) hL b0 (by unfold isWc; omega) s0.1
  have g1 : Fr rlX q0 M N1 := g0.tr f1
  have b1 := hB.rl g1
  rw [l1]
  dsimp only [Option.bind_some]
  by_cases h1 : isW T t (wdc 98) = true
  · rw [bI_t h1, if_neg (by decide)]
    unfold f_X12_isOwnHere_B66
    rw [ow_B71, bI_t (own_y (lo := 0) (j := 1) (by decide) (by decide) h1)]
    exact ⟨N1, rfl, g1, s1⟩
  rw [bI_f h1, if_pos rfl]
  rw [gr94_13 b1.1, Option.bind_some]
  obtain ⟨N2, l2, f2, s2⟩ := r_isHere (c := 99) hL b1 (by unfold isWc; omega) s1.1
  have g2 : Fr rlX q0 M N2 := g1.tr f2
  have b2 := hB.rl g2
  rw [l2]
  dsimp only [Option.bind_some]
  by_cases h2 : isW T t (wdc 99) = true
  · rw [bI_t h2, if_neg (by decide)]
    unfold f_X12_isOwnHere_B66
    rw [ow_B71, bI_t (own_y (lo := 0) (j := 2) (by decide) (by decide) h2)]
    exact ⟨N2, rfl, g2, s2⟩
  rw [bI_f h2, if_pos rfl]
  rw [gr94_14 b2.1, Option.bind_some]
  obtain ⟨N3, l3, f3, s3⟩ := r_isHere (c := 100) hL b2 (by unfold isWc; omega) s2.1
  have g3 : Fr rlX q0 M N3 := g2.tr f3
  have b3 := hB.rl g3
  rw [l3]
  dsimp only [Option.bind_some]
  by_cases h3 : isW T t (wdc 100) = true
  · rw [bI_t h3, if_neg (by decide)]
    unfold f_X12_isOwnHere_B66
    rw [ow_B71, bI_t (own_y (lo := 0) (j := 3) (by decide) (by decide) h3)]
    exact ⟨N3, rfl, g3, s3⟩
  rw [bI_f h3, if_pos rfl]
  rw [gr94_15 b3.1, Option.bind_some]
  obtain ⟨N4, l4, f4, s4⟩ := r_isHere (c := 101) hL b3 (by unfold isWc; omega) s3.1
  have g4 : Fr rlX q0 M N4 := g3.tr f4
  have b4 := hB.rl g4
  rw [l4]
  dsimp only [Option.bind_some]
  by_cases h4 : isW T t (wdc 101) = true
  · rw [bI_t h4, if_neg (by decide)]
    unfold f_X12_isOwnHere_B66
    rw [ow_B71, bI_t (own_y (lo := 0) (j := 4) (by decide) (by decide) h4)]
    exact ⟨N4, rfl, g4, s4⟩
  rw [bI_f h4, if_pos rfl]
  rw [gr94_16 b4.1, Option.bind_some]
  obtain ⟨N5, l5, f5, s5⟩ := r_isHere (c := 102) hL b4 (by unfold isWc; omega) s4.1
  have g5 : Fr rlX q0 M N5 := g4.tr f5
  have b5 := hB.rl g5
  rw [l5]
  dsimp only [Option.bind_some]
  by_cases h5 : isW T t (wdc 102) = true
  · rw [bI_t h5, if_neg (by decide)]
    unfold f_X12_isOwnHere_B66
    rw [ow_B71, bI_t (own_y (lo := 0) (j := 5) (by decide) (by decide) h5)]
    exact ⟨N5, rfl, g5, s5⟩
  rw [bI_f h5, if_pos rfl]
  obtain ⟨N, a1, a2, a3⟩ := on_B71 hL b5 s5.1
  rw [a1]
  refine ⟨N, ?_, g5.tr a2, a3⟩
  rw [bI_cong (p := ownF T t 6 33 = true) (q := ownF T t 0 33 = true) ⟨fun z => ?_, fun z => ?_⟩]
  · obtain ⟨j, j1, j2, j3⟩ := own_e z
    exact own_y (by omega) j2 j3
  · obtain ⟨j, j1, j2, j3⟩ := own_e z
    rcases Nat.lt_or_ge j 6 with q | q
    · match j, j1, q, j3 with
      | 0, _, _, j3 => exact absurd j3 h0
      | 1, _, _, j3 => exact absurd j3 h1
      | 2, _, _, j3 => exact absurd j3 h2
      | 3, _, _, j3 => exact absurd j3 h3
      | 4, _, _, j3 => exact absurd j3 h4
      | 5, _, _, j3 => exact absurd j3 h5
      | j + 6, _, q, _ => omega
    · exact own_y q j2 j3
end NM
