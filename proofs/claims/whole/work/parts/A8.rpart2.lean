section RPU
variable {b : Nat → Int32} {n e t c wh : Nat} {T : Tk} {sa sz : Nat → Nat} {M N : sMem} {s : Cs} {S0 S R : List Nat} {o o0 v : Nat}
/-- a code, then what waits for a part -/
theorem p_code (hB : RB b n M) (hS : RS T e sa sz M (.inr (t + 1))) (hQ : RQ M S0 S R o) (hI : MI S0 o0 (0, t, S, R, o)) (ht : t + 1 ≤ 1600) {z : Int32} (hz : z = nI v) : ∃ N, f_X12_qPartTold_B237 94 94 z M = some N ∧ Fr rqX q0 M N ∧ RM T e sa sz N S0 (1, t + 1, endsP S (R ++ [v]) o) ∧ MI S0 o0 (1, t + 1, endsP S (R ++ [v]) o) := by
  obtain ⟨i1, i2, i3, i4⟩ := hI
  dsimp only at i1 i2 i3 i4
  obtain ⟨N1, a1, a2, a3⟩ := q_code hB hQ (by omega) hz
  have hS1 := hS.q a2
  obtain ⟨N2, b1, b2, b3⟩ := q_ends (hB.q a2) hS1.1 a3 (fun s hs => by have := i2 s hs; omega) (by rw [List.length_append, List.length_singleton]; omega) (by omega) sFuel (by rw [sFuel_v]; omega)
  unfold f_X12_qPartTold_B237 f_X12_qEndsPart f_X12_qEndsPart_L0
  rw [a1, Option.bind_some, sr94 (a2.hs hB.1), b1]
  obtain ⟨c1, c2, c3, c4⟩ := ends_inv S (R ++ [v]) o o0 i3
  refine ⟨N2, rfl, up_q (a2.tr b2), ⟨hS1.q b2, b3⟩, ?_, fun s hs => i2 s (c3 s hs), c2, ?_⟩
  · dsimp only
    rw [List.length_append, List.length_singleton] at c1
    omega
  · dsimp only; omega
/-- a part without one in it -/
theorem p_leaf (hL : Lex b n T e sa sz) (hB : RB b n M) (h58 : M.2.1 94 58 = nI wh) (hw : wh < 4) (hS : RS T e sa sz M (.inr t)) (hQ : RQ M S0 S R o) (hI : MI S0 o0 (0, t, S, R, o)) (h1 : ¬ isS T t 40 = true) (h2 : ¬ mmC T t ≠ 0) (h3 : ¬ (kof wh T t = 13 ∨ kof wh T t = 14)) :
    ∃ N, f_X12_qPartTold_B186 94 M = some N ∧ Fr rqX q0 M N ∧ ((∃ q, stp wh T (0, t, S, R, o) = .inr (.inl q) ∧ RS T e sa sz N (.inl q) ∧ BS N) ∨ ∃ σ', stp wh T (0, t, S, R, o) = .inl σ' ∧ σ'.1 = 1 ∧ RM T e sa sz N S0 σ' ∧ MI S0 o0 σ') := by
  have hte := hS.2.1
  have he := hL.1.2
  have estp : stp wh T (0, t, S, R, o) = (match leaf wh T t with | .inl e => .inr (.inl e) | .inr q => .inl (1, q.2, endsP S (R ++ q.1) o)) := by
    unfold stp; dsimp only
    rw [if_pos rfl, if_neg h1, if_neg h2, if_neg h3]
    cases leaf wh T t <;> rfl
  obtain ⟨N1, l1, l2, l3⟩ := r_wordOf (lo := 0) (hi := 13) (zl := 0) (zh := 13) hL hB hS h58 hw (by decide) (by decide) rfl rfl
  have hB1 := hB.rl l2
  have hQ1 := hQ.l l2
  unfold f_X12_qPartTold_B186
  rw [gi94 hB.1, Option.bind_some, hS.1, if_pos rfl, l1]
  dsimp only [Option.bind_some]
  by_cases hk : kof wh T t < 13
  · have hkw : isW T t (wdx (kof wh T t)) = true := by
      have h1 := kof_kq (wh := wh) (T := T) (t := t)
      by_cases z : kq T t < 15 ∧ okPart wh (kq T t) = true
      · rw [if_pos z] at h1; rw [h1]; exact kq_lt z.1
      · rw [if_neg z] at h1; omega
    have hlt := hL.ne hte (by rw [(isW_v hkw).1]; decide)
    obtain ⟨N2, c1, c2, c3⟩ := r_asksWord hL hB1 l3.1 (k := kof wh T t) (by omega)
    have e3 : ndW T (nI (wdx (kof wh T t))) (.inr t) = .inr (t + 1) := by
      show (if T 3 t = 1 ∧ T 6 t = nI (wdx (kof wh T t)) then _ else _) = _
      rw [if_pos (isW_v hkw)]
    rw [e3] at c3
    have hm : ¬ nI (kof wh T t) = (-1 : Int32) := by show ¬ nI (kof wh T t) = mI; rw [cneg (by omega)]; exact id
    rw [if_pos (show 0 ≤ kof wh T t ∧ kof wh T t < 13 by omega), if_neg hm, c1, Option.bind_some]
    unfold f_X12_qPartTold_B212
    rw [if_neg hm]
    obtain ⟨N3, d1, d2, d3, d4⟩ := p_code (v := 40 + kof wh T t) (z := (40 : Int32) + nI (kof wh T t)) (hB1.rl c2) c3 (hQ1.l c2) hI (by omega) (by rw [show (40 : Int32) = nI 40 from rfl, nI_add])
    rw [d1]
    have el : leaf wh T t = .inr ([40 + kof wh T t], t + 1) := by
      unfold leaf
      rw [if_neg (by rw [(isW_v hkw).1]; decide), if_pos hk]
    exact ⟨N3, rfl, (up_l (l2.tr c2)).tr d2, Or.inr ⟨_, by rw [estp, el], rfl, d3, d4⟩⟩
  · rw [if_neg (show ¬ (0 ≤ kof wh T t ∧ kof wh T t < 13) by omega), if_pos rfl]
    unfold f_X12_qPartTold_B212
    rw [if_pos rfl]
    obtain ⟨v, N2, c1, c2, c3⟩ := r_number hL hB1 l3.1 0 9999
    rw [c1]
    dsimp only [Option.bind_some]
    have hB2 := hB1.rl c2
    have hQ2 := hQ1.l c2
    -- what comes of a fault
    have bad : ∀ q, leaf wh T t = .inl q → RS T e sa sz N2 (.inl q) → ∃ N, f_X12_qPartTold_B237 94 94 ((1000 : Int32) + v) N2 = some N ∧ Fr rqX q0 M N ∧ ((∃ q, stp wh T (0, t, S, R, o) = .inr (.inl q) ∧ RS T e sa sz N (.inl q) ∧ BS N) ∨ ∃ σ', stp wh T (0, t, S, R, o) = .inl σ' ∧ σ'.1 = 1 ∧ RM T e sa sz N S0 σ' ∧ MI S0 o0 σ') := by
      intro q hq hr
      have i1 := hI.1
      dsimp only at i1
      have hz : ∃ k, (1000 : Int32) + v = k := ⟨_, rfl⟩
      unfold f_X12_qPartTold_B237 f_X12_qCode f_X12_qEndsPart f_X12_qEndsPart_L0
      have hF : Fr qX q0 N2 (wrI (wrI N2 183 R.length ((1000 : Int32) + v)) 94 116 (nI (R.length + 1))) := (Fr.rf.wi rfl).wi rfl
      have hB3 := hB2.q hF
      have hr3 := hr.q hF
      rw [sr94 hB2.1, gr94_115 hB2.1, Option.bind_some, gi94 hB2.1, Option.bind_some, hQ2.2.2.1, st183 hB2.1 (by omega), Option.bind_some, gi94 (M := wrI N2 183 R.length ((1000 : Int32) + v)) hB2.1, Option.bind_some, wrI_ne (by omega), hQ2.2.2.1, nI_1, pi94 (M := wrI N2 183 R.length ((1000 : Int32) + v)) hB2.1, Option.bind_some, Option.bind_some, sr94 hB3.1]
      have eK : f_X12_qEndsPart_K0 94 (wrI (wrI N2 183 R.length ((1000 : Int32) + v)) 94 116 (nI (R.length + 1))) = some (.inr (wrI (wrI N2 183 R.length ((1000 : Int32) + v)) 94 116 (nI (R.length + 1)))) := by
        unfold f_X12_qEndsPart_K0
        rw [gi94 hB3.1, Option.bind_some, hr3.1, if_neg hr3.2.2]
      rw [show sFuel = 999999 + 1 from rfl, itr_e eK]
      refine ⟨_, rfl, ((up_l (l2.tr c2)).tr (up_q hF)), Or.inl ⟨q, by rw [estp, hq], hr3, R.length + 1, by omega, wrI_eq⟩⟩
    by_cases k2 : T 3 t = 2
    · have hlt := hL.ne hte (by rw [k2]; decide)
      obtain ⟨x, x1, x2⟩ := hL.R.2 t hte k2
      have hx : (nI x).toInt = x := nI_i (by omega)
      by_cases h4 : T 5 t - T 4 t ≤ 4
      · have en : numR T 0 9999 t = .inr (T 6 t, t + 1) := by
          unfold numR
          rw [if_pos k2, if_pos h4, if_pos]
          rw [x2]
          exact ⟨le_i.mpr (by rw [hx]; show (0 : Int) ≤ _; omega), le_i.mpr (by rw [hx]; show _ ≤ (9999 : Int); omega)⟩
        unfold RV2 at c3
        dsimp only at c3
        rw [en] at c3
        obtain ⟨N3, d1, d2, d3, d4⟩ := p_code (v := 1000 + x) (z := (1000 : Int32) + v) hB2 c3.2 hQ2 hI (by omega) (by rw [c3.1, x2, show (1000 : Int32) = nI 1000 from rfl, nI_add])
        rw [d1]
        have el : leaf wh T t = .inr ([1000 + x], t + 1) := by
          unfold leaf
          rw [if_pos k2, if_pos h4, x2, hx, Int.toNat_natCast]
        exact ⟨N3, rfl, (up_l (l2.tr c2)).tr d2, Or.inr ⟨_, by rw [estp, el], rfl, d3, d4⟩⟩
      · have en : numR T 0 9999 t = .inl (1, T 4 t + 4) := by
          unfold numR
          rw [if_pos k2, if_neg h4]
        unfold RV2 at c3
        dsimp only at c3
        rw [en] at c3
        exact bad _ (by unfold leaf; rw [if_pos k2, if_neg h4]) c3
    · have en : numR T 0 9999 t = .inl (1, T 4 t) := by
        unfold numR
        rw [if_neg k2]
      unfold RV2 at c3
      dsimp only at c3
      rw [en] at c3
      exact bad _ (by unfold leaf; rw [if_neg k2, if_neg hk]) c3
end RPU
