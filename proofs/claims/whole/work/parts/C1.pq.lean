/-! QUERIES that change nothing -/
section PQ
variable {M N : sMem} {D G P E C W k e c g m s : Nat} {c0 c1 c2 : List Nat} {w : Nat → Int32}
theorem KI.n (h : KI M D G P E C W c0 c1 c2) : (M.2.1 131 5 = nI G ∧ M.2.1 131 6 = nI P ∧ M.2.1 131 7 = nI E ∧ M.2.1 131 8 = nI C ∧ M.2.1 131 9 = nI W) ∧ (G ≤ 6 ∧ P ≤ 7 ∧ E ≤ 5 ∧ C ≤ 5 ∧ W ≤ 12) := by
  have := h.2.1.1
  refine ⟨⟨?_, ?_, ?_, ?_, ?_⟩, h.2.1.2.1⟩
  · rw [uR_eq (by decide) (by decide)]; exact this.1
  · rw [uR_eq (by decide) (by decide)]; exact this.2.1
  · rw [uR_eq (by decide) (by decide)]; exact this.2.2.1
  · rw [uR_eq (by decide) (by decide)]; exact this.2.2.2.1
  · rw [uR_eq (by decide) (by decide)]; exact this.2.2.2.2
theorem KI.cv (h : KI M D G P E C W c0 c1 c2) : CV (uR M) M D G P E C W c0 c1 c2 := h.2.2.1
theorem KI.hc (h : KI M D G P E C W c0 c1 c2) : ClsS M.1 M.2.2.2 := h.2.2.1.hc
theorem KI.tG (h : KI M D G P E C W c0 c1 c2) (a : Int32) : f_X9_isThere (D + 1) a M = some (bI (0 ≤ a.toInt ∧ a.toInt < (G : Int))) := by
  have b := h.n.2
  rw [h.cv.tG, nI_i (by omega)]
theorem KI.tP (h : KI M D G P E C W c0 c1 c2) (a : Int32) : f_X9_isThere (D + 4) a M = some (bI (0 ≤ a.toInt ∧ a.toInt < (P : Int))) := by
  have b := h.n.2
  rw [h.cv.tP, nI_i (by omega)]
theorem KI.tE (h : KI M D G P E C W c0 c1 c2) (a : Int32) : f_X9_isThere (D + 10) a M = some (bI (0 ≤ a.toInt ∧ a.toInt < (E : Int))) := by
  have b := h.n.2
  rw [h.cv.tE, nI_i (by omega)]
theorem KI.tC (h : KI M D G P E C W c0 c1 c2) (a : Int32) : f_X9_isThere (D + 13) a M = some (bI (0 ≤ a.toInt ∧ a.toInt < (C : Int))) := by
  have b := h.n.2
  rw [h.cv.tC, nI_i (by omega)]
theorem KI.rG (h : KI M D G P E C W c0 c1 c2) (a : Int32) : f_X12_isGate 94 a.toInt64 M = some (bI (0 ≤ a.toInt ∧ a.toInt < (G : Int))) := by
  rw [r_isGate h.1 h.n.1.1 h.n.2.1, i64]
theorem KI.rP (h : KI M D G P E C W c0 c1 c2) (a : Int32) : f_X12_isPlace 94 a.toInt64 M = some (bI (0 ≤ a.toInt ∧ a.toInt < (P : Int))) := by
  rw [r_isPlace h.1 h.n.1.2.1 h.n.2.2.1, i64]
theorem KI.rE (h : KI M D G P E C W c0 c1 c2) (a : Int32) : f_X12_isEra 94 a M = some (bI (0 ≤ a.toInt ∧ a.toInt < (E : Int))) := r_isEra h.1 h.n.1.2.2.1 h.n.2.2.2.1 a
theorem KI.rC (h : KI M D G P E C W c0 c1 c2) (a : Int32) : f_X12_isCar 94 a M = some (bI (0 ≤ a.toInt ∧ a.toInt < (C : Int))) := r_isCar h.1 h.n.1.2.2.2.1 h.n.2.2.2.2.1 a
theorem bI_y {p : Prop} [Decidable p] (h : p) : ¬ bI p = 0 := fun z => bI_0.mp z h
theorem inR {j n : Nat} (h : j < n) (hn : n < 2147483648) : 0 ≤ (nI j).toInt ∧ (nI j).toInt < (n : Int) := by rw [nI_i (by omega)]; omega
/-- whether a gate is up -/
theorem upb_w (hw : WG w G P E C) (hG : G ≤ 6) (hg : g < 6) : upb (upF w G) g = true ↔ w (1 + g) = 1 := by
  by_cases q : g < G
  · exact upF_bit w G g q
  · have h0 := (hw.2.1 g hg).resolve_right (fun z => q z.1)
    rw [h0]
    refine ⟨fun z => ?_, fun z => absurd z (by decide)⟩
    unfold upb at z
    have hl := upF_lt w G
    have : 2 ^ G ≤ 2 ^ g := Nat.pow_le_pow_right (by decide) (by omega)
    rw [Nat.div_eq_of_lt (by omega)] at z
    exact absurd z (by decide)
theorem w01 (hw : WG w G P E C) (hg : g < 6) : w (1 + g) = 0 ∨ w (1 + g) = 1 := (hw.2.1 g hg).imp id (fun z => z.2)
theorem c_isUp (hS : StS M s) (hV : SV w M s G E C) (hw : WG w G P E C) (hG : G ≤ 6) (hg : g < 6) : f_X8_isUp s (nI g) M = some (w (1 + g)) := by
  have hl : upF w G < 64 := upF_lt64 hG
  unfold f_X8_isUp
  rw [sRc_of hS.1.1, iS hS, Option.bind_some, hV.2.1]
  have h1 := (upb_of (up := upF w G) (g := g) (by omega) (by omega)).trans (upb_w hw hG hg)
  by_cases q : w (1 + g) = 1
  · rw [if_pos (h1.mpr q), q]
  · rw [if_neg (fun z => q (h1.mp z)), (w01 hw hg).resolve_right q]
theorem ok_gate (h : KI M D G P E C W c0 c1 c2) (a b : Int32) : ∃ r, f_X11_gate 0 a b M = some r ∧ f_X12_gate 94 a b M = some r := by
  have hc := h.hc
  have hs := h.1
  have hb := h.n.2
  obtain ⟨hV, hw⟩ := h.2.2.2.2.1
  unfold f_X11_gate f_X12_gate
  simp only [sr0 hc, sr94 hs, h.cv.p0, h.cv.g1, h.tG, h.rG, gr0_4 hc, gr94_59 hs, Option.bind_some]
  rcases arg_c a G (by omega) with ⟨g, hg, rfl⟩ | hn
  · have hin := inR hg (by omega)
    rw [if_neg (bI_y hin), if_neg (bI_y hin)]
    by_cases q0 : b = 0
    · rw [if_pos q0, if_pos q0, show f_X9_cell (D + 1) (nI g) 0 M = _ from h.cv.cG h.2.1 hg, r_mileOf hs (by omega), uR_eq (M := M) (a := 133) (by decide) (by decide)]
      exact both rfl
    · rw [if_neg q0, if_neg q0]
      by_cases q1 : b = 1
      · rw [if_pos q1, if_pos q1, c_isUp (StS54 hc) hV hw (by omega) (by omega), Option.bind_some, show (1 : Int32) + nI g = nI (1 + g) from nI_add 1 g, ld140 hs (by omega), Option.bind_some]
        rcases w01 hw (show g < 6 by omega) with z | z
        · rw [z, if_pos rfl]; exact both rfl
        · rw [z, if_neg (by decide)]; exact both rfl
      · rw [if_neg q1, if_neg q1]; exact both rfl
  · rw [if_pos (bI_0.mpr hn), if_pos (bI_0.mpr hn)]; exact both rfl
theorem ok_era (h : KI M D G P E C W c0 c1 c2) (a b : Int32) : ∃ r, f_X11_era 0 a b M = some r ∧ f_X12_era 94 a b M = some r := by
  have hc := h.hc
  have hs := h.1
  have hb := h.n.2
  obtain ⟨hV, hw⟩ := h.2.2.2.2.1
  have hS := StS54 hc
  unfold f_X11_era f_X12_era
  simp only [sr0 hc, sr94 hs, h.cv.p0, h.cv.g4, h.tE, h.rE, gr0_4 hc, gr94_50 hs, gS2 hS, isIn_of, i64, Option.bind_some]
  rcases arg_c a E (by omega) with ⟨e, he, rfl⟩ | hn
  · have hin := inR he (by omega)
    rw [if_neg (bI_y hin), if_neg (bI_y hin)]
    have e0 : (0 : Int64).toInt = 0 := rfl
    have e3 : (3 : Int64).toInt = 3 := rfl
    have ce : ∀ j, j < 3 → f_X9_cell (D + 10) (nI e) (nI j) M = some (M.2.1 135 (15 + 3 * e + j)) := fun j hj => by rw [h.cv.cE h.2.1 he hj, uR_eq (M := M) (a := 135) (by decide) (by decide)]
    have le : ∀ j, j < 3 → ldI 14 M 135 ((15 : Int32) + (3 : Int32) * nI e + nI j) = some (M.2.1 135 (15 + 3 * e + j)) := fun j hj => by
      rw [show (15 : Int32) + (3 : Int32) * nI e + nI j = nI (15 + 3 * e + j) from (by rw [show (3 : Int32) = nI 3 from rfl, pk_mul, show (15 : Int32) = nI 15 from rfl, nI_add, nI_add]), ld135 hs (by omega)]
    by_cases q0 : b = 0
    · subst q0
      rw [if_pos rfl, if_neg (bI_y (by decide)), if_neg (by decide), show f_X9_cell (D + 10) (nI e) 0 M = some (M.2.1 135 (15 + 3 * e + 0)) from ce 0 (by decide), show ldI 14 M 135 ((15 : Int32) + (3 : Int32) * nI e + 0) = some (M.2.1 135 (15 + 3 * e + 0)) from le 0 (by decide)]
      exact both rfl
    · rw [if_neg q0]
      by_cases q1 : b = 1
      · subst q1
        rw [if_pos rfl, if_neg (bI_y (by decide)), if_neg (by decide), show f_X9_cell (D + 10) (nI e) 1 M = some (M.2.1 135 (15 + 3 * e + 1)) from ce 1 (by decide), show ldI 14 M 135 ((15 : Int32) + (3 : Int32) * nI e + 1) = some (M.2.1 135 (15 + 3 * e + 1)) from le 1 (by decide)]
        exact both rfl
      · rw [if_neg q1]
        by_cases q2 : b = 2
        · subst q2
          rw [if_pos rfl, if_neg (bI_y (by decide)), if_neg (by decide), show f_X9_cell (D + 10) (nI e) 2 M = some (M.2.1 135 (15 + 3 * e + 2)) from ce 2 (by decide), show ldI 14 M 135 ((15 : Int32) + (3 : Int32) * nI e + 2) = some (M.2.1 135 (15 + 3 * e + 2)) from le 2 (by decide)]
          exact both rfl
        · rw [if_neg q2]
          by_cases q3 : b = 3
          · subst q3
            rw [if_pos rfl, if_neg (bI_y (by decide)), if_pos rfl, lS1 hS (by omega), r_lateOf hs (by omega), hV.2.2.1 e he]
            exact both rfl
          · rw [if_neg q3, if_pos (bI_0.mpr (fun z => ?_))]
            · exact both rfl
            · have f0 : (0 : Int32).toInt = 0 := rfl
              have f1 : (1 : Int32).toInt = 1 := rfl
              have f2 : (2 : Int32).toInt = 2 := rfl
              have f3 : (3 : Int32).toInt = 3 := rfl
              have g0 : ¬ b.toInt = 0 := fun z => q0 (eq_i.mpr z)
              have g1 : ¬ b.toInt = 1 := fun z => q1 (eq_i.mpr z)
              have g2 : ¬ b.toInt = 2 := fun z => q2 (eq_i.mpr z)
              have g3 : ¬ b.toInt = 3 := fun z => q3 (eq_i.mpr z)
              omega
  · rw [if_pos (bI_0.mpr hn), if_pos (bI_0.mpr hn)]; exact both rfl
theorem ok_car (h : KI M D G P E C W c0 c1 c2) (a b : Int32) : ∃ r, f_X11_car 0 a b M = some r ∧ f_X12_car 94 a b M = some r := by
  have hc := h.hc
  have hs := h.1
  have hb := h.n.2
  obtain ⟨hV, hw⟩ := h.2.2.2.2.1
  have hS := StS54 hc
  unfold f_X11_car f_X12_car
  simp only [sr0 hc, sr94 hs, h.cv.p0, h.cv.g5, h.tC, h.rC, gr0_4 hc, gS3 hS, gS4 hS, gS5 hS, Option.bind_some]
  rcases arg_c a C (by omega) with ⟨c, hcC, rfl⟩ | hn
  · have hin := inR hcC (by omega)
    obtain ⟨v1, v2, v3⟩ := hV.2.2.2 c hcC
    rw [if_neg (bI_y hin), if_neg (bI_y hin), lS2 hS (by omega), lS3 hS (by omega), lS4 hS (by omega), v1, v2, v3, r_placeOf hs (by omega), r_goalOf hs (by omega), r_knowsOf hs (by omega), r_minuteOf hs (by omega), show f_X9_cell (D + 13) (nI c) 2 M = some (M.2.1 136 (17 + 3 * c)) from (by
      have := h.cv.cC h.2.1 hcC (j := 2) (by decide)
      rw [show 15 + 3 * c + 2 = 17 + 3 * c by omega, ← uR_eq (M := M) (a := 136) (by decide) (by decide)] at this
      exact this)]
    refine both ?_
    repeat' (first | rfl | split)
  · rw [if_pos (bI_0.mpr hn), if_pos (bI_0.mpr hn)]; exact both rfl
theorem hdU_R {l m : Int32} : hdU M.2.1 e l m = hdU (uR M) e l m := by
  unfold hdU
  rw [← uR_eq (M := M) (a := 135) (by decide) (by decide), ← uR_eq (M := M) (a := 135) (by decide) (by decide), ← uR_eq (M := M) (a := 135) (by decide) (by decide), ← uR_eq (M := M) (a := 130) (by decide) (by decide)]
theorem ok_head (h : KI M D G P E C W c0 c1 c2) (a b : Int32) : ∃ r, f_X11_head 0 a b M = some r ∧ f_X12_head 94 a b M = some r := by
  have hc := h.hc
  have hs := h.1
  have hb := h.n.2
  obtain ⟨hV, hw⟩ := h.2.2.2.2.1
  have hS := StS54 hc
  unfold f_X11_head f_X12_head
  simp only [sr0 hc, sr94 hs, h.cv.p0, h.cv.g4, h.tE, h.rE, r_isMin, c_isMin, gr0_9 hc, gr67_1 hc, gr0_4 hc, gS2 hS, Option.bind_some]
  rcases arg_c a E (by omega) with ⟨e, he, rfl⟩ | hn
  · have hin := inR he (by omega)
    rw [if_neg (bI_y hin), if_neg (bI_y hin)]
    by_cases q : 0 ≤ b.toInt ∧ b.toInt < ((200 : Nat) : Int)
    · rw [if_neg (bI_y q), if_neg (bI_y q)]
      simp only [lS1 hS (show e < 5 by omega), Option.bind_some, c_headOf h.cv h.2.1 he, r_lateOf hs (show e < 5 by omega), r_headOf hs (show e < 5 by omega), hV.2.2.1 e he, hdU_R]
      exact both rfl
    · rw [if_pos (bI_0.mpr q), if_pos (bI_0.mpr q)]; exact both rfl
  · rw [if_pos (bI_0.mpr hn), if_pos (bI_0.mpr hn)]; exact both rfl
end PQ
