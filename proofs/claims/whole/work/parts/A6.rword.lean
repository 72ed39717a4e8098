/-! THE REFERENCE: which word is here -/
def kq (T : Tk) (t : Nat) : Nat := if T 3 t = 1 then ((List.range 15).find? (fun k => decide (T 6 t = nI (wdx k)))).getD 15 else 15
section KQ2
variable {b : Nat → Int32} {n e t c wh : Nat} {T : Tk} {sa sz : Nat → Nat} {M N : sMem} {s : Cs}
theorem wdx_find : ∀ k, k < 15 → ((List.range 15).find? (fun k' => decide (nI (wdx k) = nI (wdx k')))).getD 15 = k := by decide
theorem kq_of {k : Nat} (hk : k < 15) (h : isW T t (wdx k) = true) : kq T t = k := by
  unfold kq
  rw [if_pos (isW_v h).1, (isW_v h).2]
  exact wdx_find k hk
theorem kq_no (h : ∀ k, k < 15 → ¬ isW T t (wdx k) = true) : kq T t = 15 := by
  unfold kq
  by_cases h1 : T 3 t = 1
  · rw [if_pos h1]
    have : (List.range 15).find? (fun k => decide (T 6 t = nI (wdx k))) = none := by
      rw [List.find?_eq_none]
      intro k hk z
      exact h k (List.mem_range.mp hk) (decide_eq_true ⟨h1, of_decide_eq_true z⟩)
    rw [this]; rfl
  · rw [if_neg h1]
theorem kq_lt (h : kq T t < 15) : isW T t (wdx (kq T t)) = true := by
  have h1 : T 3 t = 1 := by
    unfold kq at h
    by_cases z : T 3 t = 1
    · exact z
    · rw [if_neg z] at h; omega
  have hh := h
  unfold kq at h
  rw [if_pos h1] at h
  cases q : (List.range 15).find? (fun k => decide (T 6 t = nI (wdx k))) with
  | none => rw [q] at h; exact absurd h (by decide)
  | some k =>
    have e1 : kq T t = k := by unfold kq; rw [if_pos h1, q]; rfl
    have := List.find?_some q
    rw [e1]
    exact decide_eq_true ⟨h1, of_decide_eq_true this⟩
theorem kof_find : ∀ k, k < 15 → ∀ P : Nat → Bool, P k = true → ((List.range 15).find? (fun k' => P k' && decide (nI (wdx k) = nI (wdx k')))) = some k := by
  intro k hk P hP
  have inj : ∀ k', k' < 15 → (decide (nI (wdx k) = nI (wdx k')) = true ↔ k' = k) := by
    have : ∀ k, k < 15 → ∀ k', k' < 15 → (decide (nI (wdx k) = nI (wdx k')) = true ↔ k' = k) := by decide
    exact this k hk
  cases q : (List.range 15).find? (fun k' => P k' && decide (nI (wdx k) = nI (wdx k'))) with
  | none =>
    rw [List.find?_eq_none] at q
    exact absurd (by rw [hP, (inj k hk).mpr rfl]; rfl) (q k (List.mem_range.mpr hk))
  | some k' =>
    have h1 := List.find?_some q
    have h2 := List.mem_range.mp (List.mem_of_find?_eq_some q)
    rw [Bool.and_eq_true] at h1
    rw [(inj k' h2).mp h1.2]
theorem kof_kq : kof wh T t = if kq T t < 15 ∧ okPart wh (kq T t) = true then kq T t else 15 := by
  by_cases h : kq T t < 15
  · have hw := kq_lt h
    have e1 := kof_n (wh := wh) (isW_v hw).1 (isW_v hw).2
    by_cases ho : okPart wh (kq T t) = true
    · rw [if_pos ⟨h, ho⟩, e1]
      unfold kofN
      rw [kof_find _ h (okPart wh) ho]; rfl
    · rw [if_neg (fun z => ho z.2), e1]
      unfold kofN
      have : (List.range 15).find? (fun k => okPart wh k && decide (nI (wdx (kq T t)) = nI (wdx k))) = none := by
        rw [List.find?_eq_none]
        intro k hk z
        rw [Bool.and_eq_true] at z
        have inj : ∀ k, k < 15 → ∀ k', k' < 15 → (decide (nI (wdx k) = nI (wdx k')) = true → k' = k) := by decide
        have := inj _ h k (List.mem_range.mp hk) z.2
        rw [this] at z; exact ho z.1
      rw [this]; rfl
  · rw [if_neg (fun z => h z.1)]
    by_cases h1 : T 3 t = 1
    · unfold kof
      rw [if_pos h1]
      have : (List.range 15).find? (fun k => okPart wh k && decide (T 6 t = nI (wdx k))) = none := by
        rw [List.find?_eq_none]
        intro k hk z
        rw [Bool.and_eq_true] at z
        have := kq_of (T := T) (t := t) (List.mem_range.mp hk) (decide_eq_true ⟨h1, of_decide_eq_true z.2⟩)
        have hk' := List.mem_range.mp hk
        omega
      rw [this]; rfl
    · exact kof_m (Or.inl h1)
theorem kq_le : kq T t ≤ 15 := by
  rcases Nat.lt_or_ge (kq T t) 15 with h | h
  · omega
  · unfold kq
    by_cases h1 : T 3 t = 1
    · rw [if_pos h1]
      cases q : (List.range 15).find? (fun k => decide (T 6 t = nI (wdx k))) with
      | none => exact Nat.le_refl _
      | some k => have := List.mem_range.mp (List.mem_of_find?_eq_some q); show k ≤ 15; omega
    · rw [if_neg h1]; exact Nat.le_refl _
set_option maxHeartbeats 4000000 in
theorem r_wordHere (hL : Lex b n T e sa sz) (hB : RB b n M) (hS : RS T e sa sz M (.inr t)) : ∃ N, f_X12_qWordHere 94 M = some (if kq T t = 15 then -1 else nI (kq T t), N) ∧ Fr rlX q0 M N ∧ RSl T e sa sz N t := by
  unfold f_X12_qWordHere
  rw [sr94 hB.1]
  rw [gr94_100 hB.1, Option.bind_some]
  obtain ⟨N0, l0, f0, s0⟩ := r_isHere (c := 168) hL hB (by unfold isWc; omega) hS
  have g0 : Fr rlX q0 M N0 := f0
  have b0 := hB.rl g0
  rw [l0]
  dsimp only [Option.bind_some]
  by_cases h0 : isW T t (wdc 168) = true
  · rw [bI_t h0, if_neg (by decide), kq_of (k := 0) (by decide) h0, if_neg (by decide)]
    exact ⟨N0, rfl, g0, s0⟩
  rw [bI_f h0, if_pos rfl]
  rw [gr94_101 b0.1, Option.bind_some]
  obtain ⟨N1, l1, f1, s1⟩ := r_isHere (c := 169) hL b0 (by unfold isWc; omega) s0.1
  have g1 : Fr rlX q0 M N1 := g0.tr f1
  have b1 := hB.rl g1
  rw [l1]
  dsimp only [Option.bind_some]
  by_cases h1 : isW T t (wdc 169) = true
  · rw [bI_t h1, if_neg (by decide), kq_of (k := 1) (by decide) h1, if_neg (by decide)]
    exact ⟨N1, rfl, g1, s1⟩
  rw [bI_f h1, if_pos rfl]
  rw [gr94_102 b1.1, Option.bind_some]
  obtain ⟨N2, l2, f2, s2⟩ := r_isHere (c := 170) hL b1 (by unfold isWc; omega) s1.1
  have g2 : Fr rlX q0 M N2 := g1.tr f2
  have b2 := hB.rl g2
  rw [l2]
  dsimp only [Option.bind_some]
  by_cases h2 : isW T t (wdc 170) = true
  · rw [bI_t h2, if_neg (by decide), kq_of (k := 2) (by decide) h2, if_neg (by decide)]
    exact ⟨N2, rfl, g2, s2⟩
  rw [bI_f h2, if_pos rfl]
  rw [gr94_103 b2.1, Option.bind_some]
  obtain ⟨N3, l3, f3, s3⟩ := r_isHere (c := 171) hL b2 (by unfold isWc; omega) s2.1
  have g3 : Fr rlX q0 M N3 := g2.tr f3
  have b3 := hB.rl g3
  rw [l3]
  dsimp only [Option.bind_some]
  by_cases h3 : isW T t (wdc 171) = true
  · rw [bI_t h3, if_neg (by decide), kq_of (k := 3) (by decide) h3, if_neg (by decide)]
    exact ⟨N3, rfl, g3, s3⟩
  rw [bI_f h3, if_pos rfl]
  rw [gr94_104 b3.1, Option.bind_some]
  obtain ⟨N4, l4, f4, s4⟩ := r_isHere (c := 172) hL b3 (by unfold isWc; omega) s3.1
  have g4 : Fr rlX q0 M N4 := g3.tr f4
  have b4 := hB.rl g4
  rw [l4]
  dsimp only [Option.bind_some]
  by_cases h4 : isW T t (wdc 172) = true
  · rw [bI_t h4, if_neg (by decide), kq_of (k := 4) (by decide) h4, if_neg (by decide)]
    exact ⟨N4, rfl, g4, s4⟩
  rw [bI_f h4, if_pos rfl]
  rw [gr94_105 b4.1, Option.bind_some]
  obtain ⟨N5, l5, f5, s5⟩ := r_isHere (c := 173) hL b4 (by unfold isWc; omega) s4.1
  have g5 : Fr rlX q0 M N5 := g4.tr f5
  have b5 := hB.rl g5
  rw [l5]
  dsimp only [Option.bind_some]
  by_cases h5 : isW T t (wdc 173) = true
  · rw [bI_t h5, if_neg (by decide), kq_of (k := 5) (by decide) h5, if_neg (by decide)]
    exact ⟨N5, rfl, g5, s5⟩
  rw [bI_f h5, if_pos rfl]
  rw [gr94_106 b5.1, Option.bind_some]
  obtain ⟨N6, l6, f6, s6⟩ := r_isHere (c := 174) hL b5 (by unfold isWc; omega) s5.1
  have g6 : Fr rlX q0 M N6 := g5.tr f6
  have b6 := hB.rl g6
  rw [l6]
  dsimp only [Option.bind_some]
  by_cases h6 : isW T t (wdc 174) = true
  · rw [bI_t h6, if_neg (by decide), kq_of (k := 6) (by decide) h6, if_neg (by decide)]
    exact ⟨N6, rfl, g6, s6⟩
  rw [bI_f h6, if_pos rfl]
  rw [gr94_107 b6.1, Option.bind_some]
  obtain ⟨N7, l7, f7, s7⟩ := r_isHere (c := 175) hL b6 (by unfold isWc; omega) s6.1
  have g7 : Fr rlX q0 M N7 := g6.tr f7
  have b7 := hB.rl g7
  rw [l7]
  dsimp only [Option.bind_some]
  by_cases h7 : isW T t (wdc 175) = true
  · rw [bI_t h7, if_neg (by decide), kq_of (k := 7) (by decide) h7, if_neg (by decide)]
    exact ⟨N7, rfl, g7, s7⟩
  rw [bI_f h7, if_pos rfl]
  rw [gr94_108 b7.1, Option.bind_some]
  obtain ⟨N8, l8, f8, s8⟩ := r_isHere (c := 176) hL b7 (by unfold isWc; omega) s7.1
  have g8 : Fr rlX q0 M N8 := g7.tr f8
  have b8 := hB.rl g8
  rw [l8]
  dsimp only [Option.bind_some]
  by_cases h8 : isW T t (wdc 176) = true
  · rw [bI_t h8, if_neg (by decide), kq_of (k := 8) (by decide) h8, if_neg (by decide)]
    exact ⟨N8, rfl, g8, s8⟩
  rw [bI_f h8, if_pos rfl]
  rw [gr94_109 b8.1, Option.bind_some]
  obtain ⟨N9, l9, f9, s9⟩ := r_isHere (c := 177) hL b8 (by unfold isWc; omega) s8.1
  have g9 : Fr rlX q0 M N9 := g8.tr f9
  have b9 := hB.rl g9
  rw [l9]
  dsimp only [Option.bind_some]
  by_cases h9 : isW T t (wdc 177) = true
  · rw [bI_t h9, if_neg (by decide), kq_of (k := 9) (by decide) h9, if_neg (by decide)]
    exact ⟨N9, rfl, g9, s9⟩
  rw [bI_f h9, if_pos rfl]
  rw [gr94_110 b9.1, Option.bind_some]
  obtain ⟨N10, l10, f10, s10⟩ := r_isHere (c := 178) hL b9 (by unfold isWc; omega) s9.1
  have g10 : Fr rlX q0 M N10 := g9.tr f10
  have b10 := hB.rl g10
  rw [l10]
  dsimp only [Option.bind_some]
  by_cases h10 : isW T t (wdc 178) = true
  · rw [bI_t h10, if_neg (by decide), kq_of (k := 10) (by decide) h10, if_neg (by decide)]
    exact ⟨N10, rfl, g10, s10⟩
  rw [bI_f h10, if_pos rfl]
  rw [gr94_111 b10.1, Option.bind_some]
  obtain ⟨N11, l11, f11, s11⟩ := r_isHere (c := 179) hL b10 (by unfold isWc; omega) s10.1
  have g11 : Fr rlX q0 M N11 := g10.tr f11
  have b11 := hB.rl g11
  rw [l11]
  dsimp only [Option.bind_some]
  by_cases h11 : isW T t (wdc 179) = true
  · rw [bI_t h11, if_neg (by decide), kq_of (k := 11) (by decide) h11, if_neg (by decide)]
    exact ⟨N11, rfl, g11, s11⟩
  rw [bI_f h11, if_pos rfl]
  rw [gr94_112 b11.1, Option.bind_some]
  obtain ⟨N12, l12, f12, s12⟩ := r_isHere (c := 180) hL b11 (by unfold isWc; omega) s11.1
  have g12 : Fr rlX q0 M N12 := g11.tr f12
  have b12 := hB.rl g12
  rw [l12]
  dsimp only [Option.bind_some]
  by_cases h12 : isW T t (wdc 180) = true
  · rw [bI_t h12, if_neg (by decide), kq_of (k := 12) (by decide) h12, if_neg (by decide)]
    exact ⟨N12, rfl, g12, s12⟩
  rw [bI_f h12, if_pos rfl]
  rw [gr94_113 b12.1, Option.bind_some]
  obtain ⟨N13, l13, f13, s13⟩ := r_isHere (c := 181) hL b12 (by unfold isWc; omega) s12.1
  have g13 : Fr rlX q0 M N13 := g12.tr f13
  have b13 := hB.rl g13
  rw [l13]
  dsimp only [Option.bind_some]
  by_cases h13 : isW T t (wdc 181) = true
  · rw [bI_t h13, if_neg (by decide), kq_of (k := 13) (by decide) h13, if_neg (by decide)]
    exact ⟨N13, rfl, g13, s13⟩
  rw [bI_f h13, if_pos rfl]
  rw [gr94_114 b13.1, Option.bind_some]
  obtain ⟨N14, l14, f14, s14⟩ := r_isHere (c := 182) hL b13 (by unfold isWc; omega) s13.1
  have g14 : Fr rlX q0 M N14 := g13.tr f14
  have b14 := hB.rl g14
  rw [l14]
  dsimp only [Option.bind_some]
  by_cases h14 : isW T t (wdc 182) = true
  · rw [bI_t h14, if_neg (by decide), kq_of (k := 14) (by decide) h14, if_neg (by decide)]
    exact ⟨N14, rfl, g14, s14⟩
  rw [bI_f h14, if_pos rfl]
  rw [kq_no (fun k hk => ?_), if_pos rfl]
  · exact ⟨N14, rfl, g14, s14⟩
  · match k, hk with
    | 0, _ => exact h0
    | 1, _ => exact h1
    | 2, _ => exact h2
    | 3, _ => exact h3
    | 4, _ => exact h4
    | 5, _ => exact h5
    | 6, _ => exact h6
    | 7, _ => exact h7
    | 8, _ => exact h8
    | 9, _ => exact h9
    | 10, _ => exact h10
    | 11, _ => exact h11
    | 12, _ => exact h12
    | 13, _ => exact h13
    | 14, _ => exact h14
theorem r_allowed (hs : RefS M.1 M.2.2.2) (h58 : M.2.1 94 58 = nI wh) (hw : wh < 4) {k : Nat} (hk : k < 15) : f_X12_isAllowed 94 (nI k) M = some (bI (okPart wh k = true)) := by
  unfold f_X12_isAllowed f_X12_isAllowed_B67
  rw [sr94 hs, gi94 hs, Option.bind_some, h58, isIn_of, isIn_of, Option.bind_some, Option.bind_some, i64]
  have : ∀ wh, wh < 4 → ∀ k, k < 15 → (if nI wh = (0 : Int32) then (if (5 : Int32) ≤ nI k then some ((0 : Int32)) else some ((1 : Int32))) else if nI wh = (1 : Int32) then (if nI k = (2 : Int32) then some ((1 : Int32)) else if nI k = (3 : Int32) then some ((1 : Int32)) else if bI ((5 : Int64).toInt ≤ (nI k).toInt ∧ (nI k).toInt ≤ (7 : Int64).toInt) = 0 then some ((0 : Int32)) else some ((1 : Int32))) else if nI wh = (2 : Int32) then (if bI ((6 : Int64).toInt ≤ (nI k).toInt ∧ (nI k).toInt ≤ (8 : Int64).toInt) = 0 ∨ bI ((6 : Int64).toInt ≤ (nI k).toInt ∧ (nI k).toInt ≤ (8 : Int64).toInt) = 1 then some (bI ((6 : Int64).toInt ≤ (nI k).toInt ∧ (nI k).toInt ≤ (8 : Int64).toInt)) else none) else if nI k ≤ (5 : Int32) then some ((0 : Int32)) else some ((1 : Int32))) = some (bI (okPart wh k = true)) := by decide +kernel
  exact this wh hw k hk
theorem r_wordOf (hL : Lex b n T e sa sz) (hB : RB b n M) (hS : RS T e sa sz M (.inr t)) (h58 : M.2.1 94 58 = nI wh) (hw : wh < 4) {lo hi : Nat} (hh : hi ≤ 15) (hlo : lo ≤ 15) {zl zh : Int32} (hzl : zl = nI lo) (hzh : zh = nI hi) : ∃ N, f_X12_qWordOf 94 zl zh M = some (if lo ≤ kof wh T t ∧ kof wh T t < hi then nI (kof wh T t) else -1, N) ∧ Fr rlX q0 M N ∧ RSl T e sa sz N t := by
  obtain ⟨N, l1, l2, l3⟩ := r_wordHere hL hB hS
  have hle := kq_le (T := T) (t := t)
  unfold f_X12_qWordOf
  rw [sr94 hB.1, l1]
  dsimp only [Option.bind_some]
  refine ⟨N, ?_, l2, l3⟩
  rw [kof_kq, hzl, hzh]
  by_cases h15 : kq T t = 15
  · have hm : (-1 : Int32) < nI lo := lt_i.mpr (by rw [nI_i (by omega)]; show (-1 : Int) < _; omega)
    rw [if_pos h15, if_pos hm, if_neg (show ¬ (kq T t < 15 ∧ okPart wh (kq T t) = true) from fun z => by omega), if_neg (by omega)]
  · have hlt : kq T t < 15 := by omega
    rw [if_neg h15]
    by_cases h1 : kq T t < lo
    · rw [if_pos (by rw [clt (by omega) (by omega)]; exact h1)]
      by_cases ho : okPart wh (kq T t) = true
      · rw [if_pos (show kq T t < 15 ∧ okPart wh (kq T t) = true from ⟨hlt, ho⟩), if_neg (by omega)]
      · rw [if_neg (show ¬ (kq T t < 15 ∧ okPart wh (kq T t) = true) from fun z => ho z.2), if_neg (by omega)]
    · rw [if_neg (by rw [clt (by omega) (by omega)]; exact h1)]
      by_cases h2 : hi ≤ kq T t
      · rw [if_pos (by rw [cle (by omega) (by omega)]; exact h2)]
        by_cases ho : okPart wh (kq T t) = true
        · rw [if_pos (show kq T t < 15 ∧ okPart wh (kq T t) = true from ⟨hlt, ho⟩), if_neg (by omega)]
        · rw [if_neg (show ¬ (kq T t < 15 ∧ okPart wh (kq T t) = true) from fun z => ho z.2), if_neg (by omega)]
      · rw [if_neg (by rw [cle (by omega) (by omega)]; exact h2), r_allowed (l2.hs hB.1) (by rw [l2.i rfl]; exact h58) hw hlt, Option.bind_some]
        by_cases ho : okPart wh (kq T t) = true
        · rw [bI_t ho, if_neg (by decide), if_pos (show kq T t < 15 ∧ okPart wh (kq T t) = true from ⟨hlt, ho⟩), if_pos (by omega)]
        · rw [bI_f ho, if_pos rfl, if_neg (show ¬ (kq T t < 15 ∧ okPart wh (kq T t) = true) from fun z => ho z.2), if_neg (by omega)]
theorem r_asksWord (hL : Lex b n T e sa sz) (hB : RB b n M) (hS : RS T e sa sz M s) {k : Nat} (hk : k < 15) : ∃ N, f_X12_qAsksWord 94 (nI k) M = some N ∧ Fr rlX q0 M N ∧ RS T e sa sz N (ndW T (nI (wdx k)) s) := by
  unfold f_X12_qAsksWord f_X12_qAsksWord_B168
  rw [sr94 hB.1]
  match k, hk with
  | 0, _ =>
    obtain ⟨N, a1, a2, a3⟩ := r_asks (c := 168) hL hB (by unfold isWc; omega) hS
    rw [if_pos (by decide), gr94_100 hB.1, Option.bind_some, a1]
    exact ⟨N, rfl, a2, a3⟩
  | 1, _ =>
    obtain ⟨N, a1, a2, a3⟩ := r_asks (c := 169) hL hB (by unfold isWc; omega) hS
    rw [if_neg (by decide), if_pos (by decide), gr94_101 hB.1, Option.bind_some, a1]
    exact ⟨N, rfl, a2, a3⟩
  | 2, _ =>
    obtain ⟨N, a1, a2, a3⟩ := r_asks (c := 170) hL hB (by unfold isWc; omega) hS
    rw [if_neg (by decide), if_neg (by decide), if_pos (by decide), gr94_102 hB.1, Option.bind_some, a1]
    exact ⟨N, rfl, a2, a3⟩
  | 3, _ =>
    obtain ⟨N, a1, a2, a3⟩ := r_asks (c := 171) hL hB (by unfold isWc; omega) hS
    rw [if_neg (by decide), if_neg (by decide), if_neg (by decide), if_pos (by decide), gr94_103 hB.1, Option.bind_some, a1]
    exact ⟨N, rfl, a2, a3⟩
  | 4, _ =>
    obtain ⟨N, a1, a2, a3⟩ := r_asks (c := 172) hL hB (by unfold isWc; omega) hS
    rw [if_neg (by decide), if_neg (by decide), if_neg (by decide), if_neg (by decide), if_pos (by decide), gr94_104 hB.1, Option.bind_some, a1]
    exact ⟨N, rfl, a2, a3⟩
  | 5, _ =>
    obtain ⟨N, a1, a2, a3⟩ := r_asks (c := 173) hL hB (by unfold isWc; omega) hS
    rw [if_neg (by decide), if_neg (by decide), if_neg (by decide), if_neg (by decide), if_neg (by decide), if_pos (by decide), gr94_105 hB.1, Option.bind_some, a1]
    exact ⟨N, rfl, a2, a3⟩
  | 6, _ =>
    obtain ⟨N, a1, a2, a3⟩ := r_asks (c := 174) hL hB (by unfold isWc; omega) hS
    rw [if_neg (by decide), if_neg (by decide), if_neg (by decide), if_neg (by decide), if_neg (by decide), if_neg (by decide), if_pos (by decide), gr94_106 hB.1, Option.bind_some, a1]
    exact ⟨N, rfl, a2, a3⟩
  | 7, _ =>
    obtain ⟨N, a1, a2, a3⟩ := r_asks (c := 175) hL hB (by unfold isWc; omega) hS
    rw [if_neg (by decide), if_neg (by decide), if_neg (by decide), if_neg (by decide), if_neg (by decide), if_neg (by decide), if_neg (by decide), if_pos (by decide), gr94_107 hB.1, Option.bind_some, a1]
    exact ⟨N, rfl, a2, a3⟩
  | 8, _ =>
    obtain ⟨N, a1, a2, a3⟩ := r_asks (c := 176) hL hB (by unfold isWc; omega) hS
    rw [if_neg (by decide), if_neg (by decide), if_neg (by decide), if_neg (by decide), if_neg (by decide), if_neg (by decide), if_neg (by decide), if_neg (by decide), if_pos (by decide), gr94_108 hB.1, Option.bind_some, a1]
    exact ⟨N, rfl, a2, a3⟩
  | 9, _ =>
    obtain ⟨N, a1, a2, a3⟩ := r_asks (c := 177) hL hB (by unfold isWc; omega) hS
    rw [if_neg (by decide), if_neg (by decide), if_neg (by decide), if_neg (by decide), if_neg (by decide), if_neg (by decide), if_neg (by decide), if_neg (by decide), if_neg (by decide), if_pos (by decide), gr94_109 hB.1, Option.bind_some, a1]
    exact ⟨N, rfl, a2, a3⟩
  | 10, _ =>
    obtain ⟨N, a1, a2, a3⟩ := r_asks (c := 178) hL hB (by unfold isWc; omega) hS
    rw [if_neg (by decide), if_neg (by decide), if_neg (by decide), if_neg (by decide), if_neg (by decide), if_neg (by decide), if_neg (by decide), if_neg (by decide), if_neg (by decide), if_neg (by decide), if_pos (by decide), gr94_110 hB.1, Option.bind_some, a1]
    exact ⟨N, rfl, a2, a3⟩
  | 11, _ =>
    obtain ⟨N, a1, a2, a3⟩ := r_asks (c := 179) hL hB (by unfold isWc; omega) hS
    rw [if_neg (by decide), if_neg (by decide), if_neg (by decide), if_neg (by decide), if_neg (by decide), if_neg (by decide), if_neg (by decide), if_neg (by decide), if_neg (by decide), if_neg (by decide), if_neg (by decide), if_pos (by decide), gr94_111 hB.1, Option.bind_some, a1]
    exact ⟨N, rfl, a2, a3⟩
  | 12, _ =>
    obtain ⟨N, a1, a2, a3⟩ := r_asks (c := 180) hL hB (by unfold isWc; omega) hS
    rw [if_neg (by decide), if_neg (by decide), if_neg (by decide), if_neg (by decide), if_neg (by decide), if_neg (by decide), if_neg (by decide), if_neg (by decide), if_neg (by decide), if_neg (by decide), if_neg (by decide), if_neg (by decide), if_pos (by decide), gr94_112 hB.1, Option.bind_some, a1]
    exact ⟨N, rfl, a2, a3⟩
  | 13, _ =>
    obtain ⟨N, a1, a2, a3⟩ := r_asks (c := 181) hL hB (by unfold isWc; omega) hS
    rw [if_neg (by decide), if_neg (by decide), if_neg (by decide), if_neg (by decide), if_neg (by decide), if_neg (by decide), if_neg (by decide), if_neg (by decide), if_neg (by decide), if_neg (by decide), if_neg (by decide), if_neg (by decide), if_neg (by decide), if_pos (by decide), gr94_113 hB.1, Option.bind_some, a1]
    exact ⟨N, rfl, a2, a3⟩
  | 14, _ =>
    obtain ⟨N, a1, a2, a3⟩ := r_asks (c := 182) hL hB (by unfold isWc; omega) hS
    rw [if_neg (by decide), if_neg (by decide), if_neg (by decide), if_neg (by decide), if_neg (by decide), if_neg (by decide), if_neg (by decide), if_neg (by decide), if_neg (by decide), if_neg (by decide), if_neg (by decide), if_neg (by decide), if_neg (by decide), if_neg (by decide), gr94_114 hB.1, Option.bind_some, a1]
    exact ⟨N, rfl, a2, a3⟩
end KQ2
