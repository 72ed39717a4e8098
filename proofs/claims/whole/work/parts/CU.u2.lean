/-! WHAT STANDS is told by the second halves -/
def UH2 (u u' : Nat → Nat → Int32) : Prop := ∀ a k, (a = 130 ∧ 2 ≤ k) ∨ (a = 131 ∧ 5 ≤ k) ∨ (a = 133 ∧ 6 ≤ k) ∨ (a = 134 ∧ 48 ≤ k) ∨ ((a = 135 ∨ a = 136) ∧ 15 ≤ k) ∨ ((a = 137 ∨ a = 138) ∧ 3 ≤ k) ∨ (a = 139 ∧ 1600 ≤ k) → u' a k = u a k
section UU2
variable {u u' : Nat → Nat → Int32} {M N : sMem} {D G P E C W wh e g : Nat} {c0 c1 c2 cs : List Nat} {l m : Int32}
theorem CodeU.u2 (h : CodeU u wh cs) (hu : UH2 u u') : CodeU u' wh cs := by
  rcases h with ⟨a1, a2⟩ | ⟨fr, a1, a2, a3, a4⟩
  · exact Or.inl ⟨by rw [hu 137 _ (by omega)]; exact a1, a2⟩
  · exact Or.inr ⟨fr, by rw [hu 137 _ (by omega)]; exact a1, by rw [hu 138 _ (by omega)]; exact a2, a3, fun i hi => by rw [hu 139 _ (by omega)]; exact a4 i hi⟩
theorem DU.u2 (h : DU u G P E C W c0 c1 c2) (hu : UH2 u u') : DU u' G P E C W c0 c1 c2 := by
  obtain ⟨⟨a1, a2, a3, a4, a5⟩, b, ⟨d1, d2, d3, d4⟩, f, e', w, c, z, y⟩ := h
  have e1 : u' 130 2 = u 130 2 := hu 130 2 (by omega)
  have e2 : u' 130 3 = u 130 3 := hu 130 3 (by omega)
  refine ⟨⟨by rw [hu 131 5 (by omega)]; exact a1, by rw [hu 131 6 (by omega)]; exact a2, by rw [hu 131 7 (by omega)]; exact a3, by rw [hu 131 8 (by omega)]; exact a4, by rw [hu 131 9 (by omega)]; exact a5⟩, b, ⟨by rw [e1]; exact d1, by rw [e1]; exact d2, by rw [e2]; exact d3, by rw [e2]; exact d4⟩, fun g hg => ?_, fun e he => ?_, fun k hk => ?_, fun c' hc => ?_, fun hz => ?_, fun hz => ?_⟩
  · rw [hu 133 (6 + g) (by omega)]; exact f g hg
  · rw [hu 135 (15 + 3 * e) (by omega), hu 135 (16 + 3 * e) (by omega), hu 135 (17 + 3 * e) (by omega)]; exact e' e he
  · rw [hu 134 (48 + 4 * k) (by omega), hu 134 (49 + 4 * k) (by omega), hu 134 (50 + 4 * k) (by omega), hu 134 (51 + 4 * k) (by omega)]; exact w k hk
  · rw [hu 136 (17 + 3 * c') (by omega)]; exact c c' hc
  · rw [e1] at hz; exact z hz
  · rw [e1] at hz
    obtain ⟨⟨x0, x1, x2⟩, q⟩ := y hz
    exact ⟨⟨x0.u2 hu, x1.u2 hu, x2.u2 hu⟩, q⟩
theorem CV.u2 (h : CV u M D G P E C W c0 c1 c2) (hu : UH2 u u') : CV u' M D G P E C W c0 c1 c2 := by
  obtain ⟨a, b, ⟨d1, d2, d3⟩, g, w, e, c, p⟩ := h
  have e1 : u' 130 2 = u 130 2 := hu 130 2 (by omega)
  refine ⟨a, b, ⟨by rw [e1]; exact d1, by rw [hu 130 3 (by omega)]; exact d2, d3⟩, fun i hi => ?_, fun i j hi hj => ?_, fun i j hi hj => ?_, fun i j hi hj => ?_, fun hz => ?_⟩
  · rw [hu 133 (6 + i) (by omega)]; exact g i hi
  · rw [hu 134 (48 + 4 * i + j) (by omega)]; exact w i j hi hj
  · rw [hu 135 (15 + 3 * i + j) (by omega)]; exact e i j hi hj
  · rw [hu 136 (15 + 3 * i + j) (by omega)]; exact c i j hi hj
  · rw [e1] at hz; exact p hz
theorem hdU_u2 (hu : UH2 u u') : hdU u' e l m = hdU u e l m := by
  unfold hdU
  rw [hu 130 2 (by omega), hu 135 (15 + 3 * e) (by omega), hu 135 (16 + 3 * e) (by omega), hu 135 (17 + 3 * e) (by omega)]
theorem shutS_u2 (hu : UH2 u u') : shutS u' c0 e g l m = shutS u c0 e g l m := by
  have : envS u' e g l m = envS u e g l m := by
    funext k
    unfold envS
    rw [hdU_u2 hu, hu 133 (6 + g) (by omega), hu 135 (15 + 3 * e) (by omega), hu 135 (16 + 3 * e) (by omega)]
  unfold shutS
  rw [this, hdU_u2 hu]
theorem RowsI.u2 (h : RowsI u M G c0) (hu : UH2 u u') : RowsI u' M G c0 := by
  refine ⟨h.1, h.2.1, fun w hw h1 => ?_⟩
  obtain ⟨q, a1, a2⟩ := h.2.2 w hw h1
  refine ⟨q, a1, fun g m hg hm => ?_⟩
  rw [a2 g m hg hm]
  unfold rowS
  rw [shutS_u2 hu]
/-- reading leaves the second halves -/
theorem r57_2 {a k : Nat} (h : (a = 130 ∧ 2 ≤ k) ∨ (a = 131 ∧ 5 ≤ k) ∨ (a = 133 ∧ 6 ≤ k) ∨ (a = 134 ∧ 48 ≤ k) ∨ ((a = 135 ∨ a = 136) ∧ 15 ≤ k) ∨ ((a = 137 ∨ a = 138) ∧ 3 ≤ k) ∨ (a = 139 ∧ 1600 ≤ k)) : r57 a k = false := Bool.eq_false_iff.mpr (fun y => by
  unfold r57 r56 rdX rqX rlX qX at y
  simp only [Bool.or_eq_true, Bool.and_eq_true, beq_iff_eq, decide_eq_true_eq] at y
  omega)
theorem uR_u2 (h : ∀ a k, (a = 130 ∧ 2 ≤ k) ∨ (a = 131 ∧ 5 ≤ k) ∨ (a = 133 ∧ 6 ≤ k) ∨ (a = 134 ∧ 48 ≤ k) ∨ ((a = 135 ∨ a = 136) ∧ 15 ≤ k) ∨ ((a = 137 ∨ a = 138) ∧ 3 ≤ k) ∨ (a = 139 ∧ 1600 ≤ k) → N.2.1 a k = M.2.1 a k) : UH2 (uR M) (uR N) := fun a k z => by
  rw [← uR_eq (by omega) (by omega), ← uR_eq (by omega) (by omega)]
  exact h a k z
end UU2
