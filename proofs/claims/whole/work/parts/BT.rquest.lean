/-! THE QUESTION: the reference reads it -/
section RQU
variable {b : Nat → Int32} {n e t : Nat} {T : Tk} {sa sz : Nat → Nat} {M N : sMem}
theorem w33 (hR : LexR T e) (ht : t ≤ e) (h : T 3 t = 1 ∧ (33 : Int32) ≤ T 6 t) : isW T t 33 = true ∨ isW T t 34 = true ∨ isW T t 35 = true ∨ isW T t 36 = true ∨ isW T t 37 = true ∨ isW T t 38 = true := by
  rcases hR.1 t ht h.1 with z | ⟨j, j1, j2⟩
  · rw [z] at h; exact absurd h.2 (by decide)
  · have j33 : 33 ≤ j := by have := h.2; rw [j2, show (33 : Int32) = nI 33 from rfl, cle (by decide) (by omega)] at this; exact this
    simp only [isW_i h.1, j2]
    have : j = 33 ∨ j = 34 ∨ j = 35 ∨ j = 36 ∨ j = 37 ∨ j = 38 := by omega
    rcases this with rfl | rfl | rfl | rfl | rfl | rfl <;> simp
theorem r_kind (hL : Lex b n T e sa sz) (hB : RB b n M) (hS : RS T e sa sz M (.inr t)) : ∃ v N, f_X12_qKind 94 M = some (v, N) ∧ Fr rlX q0 M N ∧ ((∃ k, k ≤ 5 ∧ v = nI k ∧ isW T t (33 + k) = true ∧ RS T e sa sz N (.inr (t + 1))) ∨ (¬ (T 3 t = 1 ∧ (33 : Int32) ≤ T 6 t) ∧ RS T e sa sz N (.inl (1, T 4 t)))) := by
  have hs := hB.1
  have hte := hS.2.1
  unfold f_X12_qKind f_X12_qKind_B76
  have wc : ∀ c, 156 ≤ c → c < 183 → isWc c := fun c h1 h2 => Or.inr ⟨h1, h2⟩
  rw [sr94 hs, gr94_88 hs, Option.bind_some]
  by_cases w0 : isW T t 33 = true
  · obtain ⟨N, n1, n2, n3⟩ := r_takes_y (c := 156) hL hB (wc _ (by decide) (by decide)) hS w0
    rw [n1]; dsimp only [Option.bind_some]
    rw [if_neg (by decide), if_neg (by decide)]
    exact ⟨0, N, rfl, n2, Or.inl ⟨0, by decide, rfl, w0, n3⟩⟩
  · obtain ⟨M1, a1, a2, a3⟩ := r_takes_n (c := 156) hL hB (wc _ (by decide) (by decide)) hS w0
    have B1 := hB.rl a2
    rw [a1]; dsimp only [Option.bind_some]
    rw [if_pos rfl, gr94_89 B1.1, Option.bind_some]
    by_cases w1 : isW T t 34 = true
    · obtain ⟨N, n1, n2, n3⟩ := r_takes_y (c := 157) hL B1 (wc _ (by decide) (by decide)) a3.1 w1
      rw [n1]; dsimp only [Option.bind_some]
      rw [if_neg (by decide), if_neg (by decide)]
      exact ⟨1, N, rfl, a2.tr n2, Or.inl ⟨1, by decide, rfl, w1, n3⟩⟩
    · obtain ⟨M2, b1, b2, b3⟩ := r_takes_n (c := 157) hL B1 (wc _ (by decide) (by decide)) a3.1 w1
      have B2 := B1.rl b2
      rw [b1]; dsimp only [Option.bind_some]
      rw [if_pos rfl, gr94_90 B2.1, Option.bind_some]
      by_cases w2 : isW T t 35 = true
      · obtain ⟨N, n1, n2, n3⟩ := r_takes_y (c := 158) hL B2 (wc _ (by decide) (by decide)) b3.1 w2
        rw [n1]; dsimp only [Option.bind_some]
        rw [if_neg (by decide), if_neg (by decide)]
        exact ⟨2, N, rfl, (a2.tr b2).tr n2, Or.inl ⟨2, by decide, rfl, w2, n3⟩⟩
      · obtain ⟨M3, c1, c2, c3⟩ := r_takes_n (c := 158) hL B2 (wc _ (by decide) (by decide)) b3.1 w2
        have B3 := B2.rl c2
        rw [c1]; dsimp only [Option.bind_some]
        rw [if_pos rfl, gr94_91 B3.1, Option.bind_some]
        by_cases w3 : isW T t 36 = true
        · obtain ⟨N, n1, n2, n3⟩ := r_takes_y (c := 159) hL B3 (wc _ (by decide) (by decide)) c3.1 w3
          rw [n1]; dsimp only [Option.bind_some]
          rw [if_neg (by decide), if_neg (by decide)]
          exact ⟨3, N, rfl, ((a2.tr b2).tr c2).tr n2, Or.inl ⟨3, by decide, rfl, w3, n3⟩⟩
        · obtain ⟨M4, d1, d2, d3⟩ := r_takes_n (c := 159) hL B3 (wc _ (by decide) (by decide)) c3.1 w3
          have B4 := B3.rl d2
          rw [d1]; dsimp only [Option.bind_some]
          rw [if_pos rfl, gr94_92 B4.1, Option.bind_some]
          by_cases w4 : isW T t 37 = true
          · obtain ⟨N, n1, n2, n3⟩ := r_takes_y (c := 160) hL B4 (wc _ (by decide) (by decide)) d3.1 w4
            rw [n1]; dsimp only [Option.bind_some]
            rw [if_neg (by decide), if_neg (by decide)]
            exact ⟨4, N, rfl, (((a2.tr b2).tr c2).tr d2).tr n2, Or.inl ⟨4, by decide, rfl, w4, n3⟩⟩
          · obtain ⟨M5, e1, e2, e3⟩ := r_takes_n (c := 160) hL B4 (wc _ (by decide) (by decide)) d3.1 w4
            have B5 := B4.rl e2
            obtain ⟨N, n1, n2, n3⟩ := r_asks (c := 161) hL B5 (wc _ (by decide) (by decide)) e3.1
            rw [e1]; dsimp only [Option.bind_some]
            rw [if_pos rfl, if_pos rfl, gr94_93 B5.1, Option.bind_some, n1, Option.bind_some]
            refine ⟨5, N, rfl, ((((a2.tr b2).tr c2).tr d2).tr e2).tr n2, ?_⟩
            have e0 : ndW T (nI (wdc 161)) (.inr t) = if T 3 t = 1 ∧ T 6 t = nI 38 then .inr (t + 1) else .inl (1, T 4 t) := rfl
            rw [e0] at n3
            by_cases w5 : isW T t 38 = true
            · have w5' := w5
              unfold isW at w5'
              rw [if_pos (of_decide_eq_true w5')] at n3
              exact Or.inl ⟨5, by decide, rfl, w5, n3⟩
            · have w5' := w5
              unfold isW at w5'
              rw [if_neg (fun z => w5' (decide_eq_true z))] at n3
              refine Or.inr ⟨fun z => ?_, n3⟩
              rcases w33 hL.R hte z with y | y | y | y | y | y
              · exact w0 y
              · exact w1 y
              · exact w2 y
              · exact w3 y
              · exact w4 y
              · exact w5 y
end RQU
