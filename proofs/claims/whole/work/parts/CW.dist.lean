/-! A DISTRICT IS TOLD: district -/
section DIS
variable {M N : sMem} {D Do G P E C W n pc pn : Nat} {c0 c1 c2 : List Nat}
def e11 : Nat → Nat → Bool := fun a k => (a == 1 && k == 1) || a == 93
def e78 : Nat → Nat → Bool := fun a k => (a == 94 && (k == 7 || k == 8)) || a == 96
theorem ix_no {X : Nat → Nat → Bool} {a k : Nat} (h : iX a k = true) (hX : X a k = true → (a < 8) ∧ a ≠ 0 ∨ a = 93 ∨ a = 96 ∨ (a = 94 ∧ (k = 7 ∨ k = 8))) : X a k = false := Bool.eq_false_iff.mpr (fun y => by
  have := hX y
  unfold iX at h
  simp only [Bool.or_eq_true, Bool.and_eq_true, beq_iff_eq, decide_eq_true_eq] at h
  omega)
theorem sr_ix {a k : Nat} (h : iX a k = true) : srX a k = false := ix_no h (fun y => by
  unfold srX at y
  simp only [Bool.or_eq_true, Bool.and_eq_true, beq_iff_eq, decide_eq_true_eq] at y
  omega)
theorem sr_no {a k : Nat} (h : ¬ (3 ≤ a ∧ a ≤ 6)) (h2 : a ≠ 1 ∨ k < 6) : srX a k = false := Bool.eq_false_iff.mpr (fun y => by
  unfold srX at y
  simp only [Bool.or_eq_true, Bool.and_eq_true, beq_iff_eq, decide_eq_true_eq] at y
  omega)
theorem tp_no2 {a k : Nat} (h : a ≠ 1 ∨ k < 6) : tpX a k = false := Bool.eq_false_iff.mpr (fun y => by
  unfold tpX at y
  simp only [Bool.or_eq_true, Bool.and_eq_true, beq_iff_eq] at y
  omega)
theorem dist_bad {b : Nat → Int32} {T : Tk} {e : Nat} {sa sz : Nat → Nat} {M1 N1 : sMem} {q : Flt} (h : IX M D Do G P E C W c0 c1 c2 n pc pn) (hbe : ∀ i, i < n → M.2.1 95 i = b i) (hb : ∀ i, i < n → b i ≠ mI) (cor : Cor N1 D Do G P E C W c0 c1 c2 pc pn) (hL : Lex b n T e sa sz) (hq : diR b T sa sz = .inl q) (hv : ∀ a k, a < 187 → ¬ (3 ≤ a ∧ a ≤ 6) → (a ≠ 1 ∨ k < 6) → ¬ (Do ≤ a ∧ a ≤ Do + 21) → N1.2.1 a k = M.2.1 a k) (hj : N1.2.2.1 94 87 = M.2.2.1 94 87) (hS : CS e N1 (.inl q)) : ∃ M2, f_X12_district 94 (wrI (wrI N1 1 1 0) 93 1 (N1.2.1 93 1 + 1)) = some (-1, M2) ∧ Inv M2 := by
  obtain ⟨k, ⟨⟨hn, t1, t2, t3⟩, _, _⟩, _, hsn, ⟨hsd, hrf, hfl, him⟩, _, _, _, hDD⟩ := h
  obtain ⟨N, hN⟩ : ∃ N, N = wrI (wrI N1 1 1 0) 93 1 (N1.2.1 93 1 + 1) := ⟨_, rfl⟩
  have FN : Fr e11 q0 N1 N := by rw [hN]; exact (Fr.rf.wi rfl).wi rfl
  have cor3 := cor.st FN (fun a k z => ix_no z (fun y => by unfold e11 at y; simp only [Bool.or_eq_true, Bool.and_eq_true, beq_iff_eq] at y; omega)) (fun _ _ _ => rfl)
  have vN : ∀ a k, a < 187 → ¬ (3 ≤ a ∧ a ≤ 6) → a ≠ 1 → a ≠ 93 → ¬ (Do ≤ a ∧ a ≤ Do + 21) → N.2.1 a k = M.2.1 a k := fun a k q1 q2 q3 q4 q5 => by
    rw [FN.i (Bool.eq_false_iff.mpr (fun y => by unfold e11 at y; simp only [Bool.or_eq_true, Bool.and_eq_true, beq_iff_eq] at y; omega))]
    exact hv a k q1 q2 (Or.inl q3) q5
  have hDo : Do ≤ 32 := by omega
  have hT : RT b n N := ⟨cor3.1.1, cor3.2.2.2.1.1, by rw [vN 94 1 (by omega) (by omega) (by omega) (by omega) (by omega)]; exact t2, fun i hi => by rw [vN 95 i (by omega) (by omega) (by omega) (by omega) (by omega)]; exact hbe i hi⟩
  rw [← hN]
  obtain ⟨v', N', R1, b1, b2, b3, b4, b5⟩ := r_dist hL hb hT
  rw [hq] at b5
  obtain ⟨b5, b6⟩ := b5
  subst b5
  have cor4 := cor3.rr7 b2
  have F5 : Fr e78 q0 R1 N' := by rw [b6]; exact ((Fr.rf.wi rfl).wi rfl).wi rfl
  have cor5 := cor4.st F5 (fun a k z => ix_no z (fun y => by unfold e78 at y; simp only [Bool.or_eq_true, Bool.and_eq_true, beq_iff_eq] at y; omega)) (fun _ _ _ => rfl)
  have vv : ∀ a k, a < 187 → ¬ (3 ≤ a ∧ a ≤ 6) → a ≠ 1 → a ≠ 93 → a ≠ 96 → ¬ (Do ≤ a ∧ a ≤ Do + 21) → a ≠ 183 ∧ a ≠ 184 → ¬ (130 ≤ a ∧ a ≤ 139) → ¬ (a = 94 ∧ (k = 1 ∨ k = 2 ∨ k = 3 ∨ k = 4 ∨ k = 5 ∨ k = 6 ∨ k = 7 ∨ k = 8 ∨ k = 10 ∨ k = 44 ∨ k = 55 ∨ k = 56 ∨ k = 58 ∨ k = 116 ∨ k = 118 ∨ k = 119 ∨ k = 120)) → N'.2.1 a k = M.2.1 a k := fun a k q1 q2 q3 q4 q5 q6 q7 q8 q9 => by
    rw [F5.i (Bool.eq_false_iff.mpr (fun y => by unfold e78 at y; simp only [Bool.or_eq_true, Bool.and_eq_true, beq_iff_eq] at y; omega)), b2.i (r57_n (by omega) q7 q8)]
    exact vN a k q1 q2 q3 q4 q6
  have v1 : ∀ k, N'.2.1 1 k = N.2.1 1 k := fun k => by rw [F5.i rfl, b2.i (r57_out (by omega))]
  have v93 : ∀ k, N'.2.1 93 k = N.2.1 93 k := fun k => by rw [F5.i rfl, b2.i (r57_out (by omega))]
  have n93 : ∀ k, N.2.1 93 k = if k = 1 then M.2.1 93 1 + 1 else M.2.1 93 k := fun k => by
    rw [hN]
    by_cases z : k = 1
    · subst z; rw [wrI_eq, if_pos rfl, hv 93 1 (by omega) (by omega) (by omega) (by omega)]
    · rw [wrI_ne (by omega), wrI_ne (by omega), if_neg z]; exact hv 93 k (by omega) (by omega) (by omega) (by omega)
  have n96 : ∀ k, N'.2.1 96 k = if k = 1 then M.2.1 96 1 + 1 else M.2.1 96 k := fun k => by
    have e96 : ∀ k, R1.2.1 96 k = M.2.1 96 k := fun k => by rw [b2.i (r57_n (by omega) (by omega) (by omega))]; exact vN 96 k (by omega) (by omega) (by omega) (by omega) (by omega)
    rw [b6]
    by_cases z : k = 1
    · subst z; rw [wrI_eq, if_pos rfl, e96]
    · rw [wrI_ne (by omega), if_neg z]
      unfold fl78
      rw [wrI_ne (by omega), wrI_ne (by omega)]; exact e96 k
  refine ⟨N', b1, D, Do, G, P, E, C, W, c0, c1, c2, 0, pc, pn, cor5.1, ⟨⟨by omega, ?_, ?_, fun i hi => by omega⟩, cor5.2.1⟩, cor5.2.2.1, ?_, ⟨?_, ?_, ?_, ?_⟩, cor5.2.2.2⟩
  · rw [v1, hN, wrI_ne (by omega), wrI_eq]; rfl
  · rw [F5.i rfl, b3]; rfl
  · exact hsn.fr (vv 0 13 (by omega) (by omega) (by omega) (by omega) (by omega) (by omega) (by omega) (by omega) (by omega)) (vv 94 80 (by omega) (by omega) (by omega) (by omega) (by omega) (by omega) (by omega) (by omega) (by omega)) (fun k => vv 153 k (by omega) (by omega) (by omega) (by omega) (by omega) (by omega) (by omega) (by omega) (by omega)) (fun k => vv 89 k (by omega) (by omega) (by omega) (by omega) (by omega) (by omega) (by omega) (by omega) (by omega))
  · exact hsd.fr (vv 0 19 (by omega) (by omega) (by omega) (by omega) (by omega) (by omega) (by omega) (by omega) (by omega)) (by rw [F5.j rfl, b2.j rfl, FN.j rfl]; exact hj)
  · intro k hk
    rw [v93, n93, n96]
    by_cases z : k = 1
    · rw [if_pos z, if_pos z, hrf 1 (by omega)]
    · rw [if_neg z, if_neg z]; exact hrf k hk
  · refine ⟨?_, ?_⟩
    · rw [v1, hN, wrI_ne (by omega), wrI_ne (by omega), hS.2.1, b6, wrI_ne (by omega)]; unfold fl78; rw [wrI_ne (by omega), wrI_eq]
    · rw [v1, hN, wrI_ne (by omega), wrI_ne (by omega), hS.2.2.1, b6, wrI_ne (by omega)]; unfold fl78; rw [wrI_eq]
  · exact him.fr (vv 0 17 (by omega) (by omega) (by omega) (by omega) (by omega) (by omega) (by omega) (by omega) (by omega)) (vv 94 126 (by omega) (by omega) (by omega) (by omega) (by omega) (by omega) (by omega) (by omega) (by omega)) (fun k => vv 92 k (by omega) (by omega) (by omega) (by omega) (by omega) (by omega) (by omega) (by omega) (by omega)) (fun k => vv 186 k (by omega) (by omega) (by omega) (by omega) (by omega) (by omega) (by omega) (by omega) (by omega))
end DIS
