section RH
variable {u : Nat → Nat → Int32} {M N : sMem} {D G P E C W k e c s : Nat} {c0 c1 c2 cs : List Nat} {w : Nat → Int32}
theorem r_day (hR : RV u M) (hu : DU u G P E C W c0 c1 c2) (hw : WG w G P E C) (hn : ∀ i, i < 27 → M.2.1 140 i = w i) {kc : Nat} (hkc : kc ≤ 40) (hk : M.2.1 140 27 = nI kc) (h70 : M.2.1 94 70 = 0 ∨ M.2.1 94 70 = 1) :
    ∃ N, f_X12_dayGoes 94 M = some N ∧ Fr pDy qDy M N ∧ (∀ i, i < 27 → N.2.1 140 i = dayS u c0 c1 c2 G P E C W w i) ∧ N.2.1 94 71 = M.2.1 94 71 + nI (smN (wtS u c0 G E W P w) C) ∧ (M.2.1 94 70 = 1 → ∀ i, 27 ≤ i → N.2.1 140 i = M.2.1 140 i) ∧ (M.2.1 94 70 = 0 → N.2.1 140 27 = nI (kpN kc) ∧ ∀ k, k < 3 * kpN kc → N.2.1 140 (28 + k) = kpF kc (fun k => M.2.1 140 (28 + k)) (w 0) (nI (smN (wtS u c0 G E W P w) C)) (nI (twN (wtS u c0 G E W P w) C)) k) := by
  have hb := hu.2.1
  have hf : ∀ c, wtS u c0 G E W P w c = mI ∨ ∃ n, n < 200 ∧ wtS u c0 G E W P w c = nI n := fun c => wt_rg
  have hsl := smN_le hf C
  unfold f_X12_dayGoes
  obtain ⟨M1, a1, a2, a3⟩ := r_laysShut (L := LF w) hR hu (fun e he => by rw [hn _ (by omega)]; exact hw.2.2.1 e he)
  rw [sr94 hR.1, a1, Option.bind_some]
  unfold f_X12_dayGoes_L10
  have hR1 : RV u M1 := hR.fr a2 (fun a k h1 h2 => sh_130 h1 (by omega))
  have e1 : ∀ i, M1.2.1 140 i = M.2.1 140 i := fun i => a2.i (sh_130 (by decide) (by decide))
  obtain ⟨M2, b1, b2, b3, b4⟩ := r_cars (w := w) hR1 hu a3 hw (fun i hi => by rw [e1]; exact hn i hi)
  rw [show (0 : Int32) = nI 0 from rfl, b1, Option.bind_some]
  dsimp only
  unfold f_X12_dayGoes_B55
  have hR2 : RV u M2 := hR1.fr b2 (fun a k h1 h2 => dy_d2 (dy_130 h1 h2))
  rw [pj94 hR2.1, Option.bind_some]
  have hR3 : RV u (wrJ M2 94 65 (nI (smN (wtS u c0 G E W P w) C)).toInt64) := hR2
  obtain ⟨M3, c1', c2', c3, c4⟩ := r_eras (w := w) (sm := smN (wtS u c0 G E W P w) C) hR3 hu hw (by omega) (by rw [wrJ_eq, i64, nI_i (by omega)]) (by rw [wrJ_in, b3 0 (by omega), e1]; exact hn 0 (by omega)) (fun e he => by rw [wrJ_in, b3 _ (by omega), e1]; exact hn _ (by omega)) (nI (smN (wtS u c0 G E W P w) C)) (nI (twN (wtS u c0 G E W P w) C))
  unfold f_X12_dayGoes_L63
  rw [show (0 : Int32) = nI 0 from rfl, c1', Option.bind_some]
  unfold f_X12_dayGoes_B110
  have hR4 : RV u M3 := hR3.fr c2' (fun a k h1 h2 => dy_d2 (dy_130 h1 h2))
  have v71 : M3.2.1 94 71 = M.2.1 94 71 := by rw [c2'.i rfl, wrJ_in, b2.i rfl, a2.i rfl]
  have v70 : M3.2.1 94 70 = M.2.1 94 70 := by rw [c2'.i rfl, wrJ_in, b2.i rfl, a2.i rfl]
  have v27 : ∀ i, 27 ≤ i → M3.2.1 140 i = M.2.1 140 i := fun i hi => by rw [c3 i (by omega), wrJ_in, b3 i (by omega), e1]
  rw [gi94 hR4.1, Option.bind_some, v71, pi94 hR4.1, Option.bind_some]
  have f4 : Fr pDy qDy M (wrI M3 94 71 (M.2.1 94 71 + nI (smN (wtS u c0 G E W P w) C))) :=
    (((a2.mono (fun _ _ z => dy_lay z) (fun a k z => by unfold qDy at z; unfold qR2; revert z; cases (a == 185) <;> simp)).tr (b2.mono (fun _ _ z => dy_d2 z) (fun _ _ z => z))).wj rfl).tr (c2'.mono (fun _ _ z => dy_d2 z) (fun a k z => by unfold qDy at z; unfold qR2; revert z; cases (a == 185) <;> simp)) |>.wi rfl
  have hsN : RefS (wrI M3 94 71 (M.2.1 94 71 + nI (smN (wtS u c0 G E W P w) C))).1 (wrI M3 94 71 (M.2.1 94 71 + nI (smN (wtS u c0 G E W P w) C))).2.2.2 := hR4.1
  have x71 : (wrI M3 94 71 (M.2.1 94 71 + nI (smN (wtS u c0 G E W P w) C))).2.1 94 71 = M.2.1 94 71 + nI (smN (wtS u c0 G E W P w) C) := wrI_eq
  have x70 : (wrI M3 94 71 (M.2.1 94 71 + nI (smN (wtS u c0 G E W P w) C))).2.1 94 70 = M.2.1 94 70 := by rw [wrI_ne (by omega)]; exact v70
  have x140 : ∀ i, (wrI M3 94 71 (M.2.1 94 71 + nI (smN (wtS u c0 G E W P w) C))).2.1 140 i = M3.2.1 140 i := fun i => wrI_ne (by omega)
  generalize wrI M3 94 71 (M.2.1 94 71 + nI (smN (wtS u c0 G E W P w) C)) = M4 at *
  -- what is in now, but for the day
  have core : ∀ i, 1 ≤ i → i < 27 → M3.2.1 140 i = dayS u c0 c1 c2 G P E C W w i := by
    intro i h1 h27
    by_cases h7 : i < 7
    · rw [c3 i (by omega), wrJ_in, b3 i (by omega), e1, hn i h27, show i = 1 + (i - 1) by omega, day_g (by omega)]
    · by_cases h12 : i < 12
      · by_cases hE : i - 7 < E
        · have := c4 (i - 7) hE
          rw [← day_e (u := u) (c0 := c0) (c1 := c1) (c2 := c2) (G := G) (P := P) (C := C) (W := W) (w := w) hE (by omega), show 7 + (i - 7) = i by omega] at this
          exact this
        · rw [c3 i (by omega), wrJ_in, b3 i (by omega), e1, hn i h27]
          unfold dayS
          rw [if_neg (by omega), if_neg h7, if_pos h12, if_neg hE]
      · rw [c3 i (by omega), wrJ_in]
        by_cases hC : (i - 12) / 3 < C
        · have := b4 ((i - 12) / 3) ((i - 12) % 3) hC (by omega)
          rw [← day_c (u := u) (c0 := c0) (c1 := c1) (c2 := c2) (G := G) (P := P) (E := E) (W := W) (w := w) hC (by omega) (by omega), show 12 + 3 * ((i - 12) / 3) + (i - 12) % 3 = i by omega] at this
          exact this
        · rw [b3 i (by omega), e1, hn i h27]
          unfold dayS
          rw [if_neg (by omega), if_neg h7, if_neg h12, if_pos h27, if_neg hC]
  have d0 : M3.2.1 140 0 = w 0 := by rw [c3 0 (by omega), wrJ_in, b3 0 (by omega), e1, hn 0 (by omega)]
  -- behind what is kept
  have fin : ∀ N5 : sMem, Fr pDy qDy M N5 → N5.2.1 94 71 = M.2.1 94 71 + nI (smN (wtS u c0 G E W P w) C) → (∀ i, i < 27 → N5.2.1 140 i = M3.2.1 140 i) → ∃ N, ((gR 12 127 59 N5 94).bind fun x4 => (ldI 14 N5 x4 (nI 0)).bind fun x5 => (stI N5 x4 (nI 0) (x5 + (1 : Int32))).bind fun M6 => some M6) = some N ∧ Fr pDy qDy M N ∧ (∀ i, i < 27 → N.2.1 140 i = dayS u c0 c1 c2 G P E C W w i) ∧ N.2.1 94 71 = M.2.1 94 71 + nI (smN (wtS u c0 G E W P w) C) ∧ ∀ i, 27 ≤ i → N.2.1 140 i = N5.2.1 140 i := by
    intro N5 hF5 h71 h140
    have hs5 := hF5.hs hR.1
    simp only [gr94_59 hs5, ld140 hs5 (show 0 < 148 by decide), st140 hs5 (show 0 < 148 by decide), Option.bind_some]
    refine ⟨_, rfl, hF5.wi rfl, fun i hi => ?_, by rw [wrI_ne (by omega)]; exact h71, fun i hi => wrI_ne (by omega)⟩
    by_cases hi0 : i = 0
    · subst hi0
      rw [wrI_eq, h140 0 (by omega), d0, day_0]
    · rw [wrI_ne (by omega), h140 i hi]; exact core i (by omega) hi
  rcases h70 with h70 | h70
  · obtain ⟨N5, g1, g2, g3, g4⟩ := r_kept (M := M4) hsN (by rw [x70]; exact h70) hkc (by rw [x140, v27 27 (by omega)]; exact hk) (nI (smN (wtS u c0 G E W P w) C)) (nI (twN (wtS u c0 G E W P w) C))
    rw [g1, Option.bind_some]
    obtain ⟨N, q1, q2, q3, q4, q5⟩ := fin N5 (f4.tr (g2.mono (fun a k z => by unfold pDy at z; revert z; cases (a == 140) <;> simp) (fun _ _ _ => rfl))) (by rw [g2.i rfl]; exact x71) (fun i hi => by rw [g2.i (by simp; omega), x140])
    refine ⟨N, q1, q2, q3, q4, fun z => by rw [h70] at z; exact absurd z (by decide), fun _ => ⟨by rw [q5 27 (by omega)]; exact g3, fun k hk2 => ?_⟩⟩
    rw [q5 _ (by omega), g4 k hk2, x140, d0]
    have : (fun k => M4.2.1 140 (28 + k)) = fun k => M.2.1 140 (28 + k) := by funext k; rw [x140, v27 _ (by omega)]
    rw [this]
  · have g1 : f_X12_isKept 94 (nI (smN (wtS u c0 G E W P w) C)) (nI (twN (wtS u c0 G E W P w) C)) M4 = some M4 := by
      unfold f_X12_isKept
      rw [sr94 hsN, gi94 hsN, Option.bind_some, x70, h70, if_neg (by decide)]
    rw [g1, Option.bind_some]
    obtain ⟨N, q1, q2, q3, q4, q5⟩ := fin M4 f4 x71 (fun i hi => x140 i)
    exact ⟨N, q1, q2, q3, q4, fun _ i hi => by rw [q5 i hi, x140, v27 i hi], fun z => by rw [h70] at z; exact absurd z (by decide)⟩
end RH
