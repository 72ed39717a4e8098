/-! A QUESTION that can't be read: both say so -/
section AB2
variable {M N : sMem} {D Do G P E C W n pc pn : Nat} {c0 c1 c2 : List Nat}
/-- after a question: what both kept, whatever the answer -/
theorem ask_end {N' : sMem} {x7 x8 : Int32} (h : IX M D Do G P E C W c0 c1 c2 n pc pn) (cor : Cor N' D Do G P E C W c0 c1 c2 pc pn) (h11 : N'.2.1 1 1 = 0) (h941 : N'.2.1 94 1 = 0) (h18 : N'.2.1 1 8 = x7) (h19 : N'.2.1 1 9 = x8) (h7 : N'.2.1 94 7 = x7) (h8 : N'.2.1 94 8 = x8) (hj : N'.2.2.1 94 87 = M.2.2.1 94 87) (hv : ∀ a k, (a = 0 ∧ (k = 13 ∨ k = 17 ∨ k = 19)) ∨ (a = 94 ∧ (k = 80 ∨ k = 126)) ∨ a = 153 ∨ a = 89 ∨ a = 93 ∨ a = 96 ∨ a = 92 ∨ a = 186 → N'.2.1 a k = M.2.1 a k) : Inv N' := by
  obtain ⟨_, _, _, s4, ⟨s5, s6, s7, s8⟩, _⟩ := id h
  exact ⟨D, Do, G, P, E, C, W, c0, c1, c2, 0, pc, pn, cor.1, ⟨⟨by omega, h11, h941, fun i hi => by omega⟩, cor.2.1⟩, cor.2.2.1, s4.fr (hv _ _ (by omega)) (hv _ _ (by omega)) (fun k => hv _ _ (by omega)) (fun k => hv _ _ (by omega)), ⟨s5.fr (hv _ _ (by omega)) hj, s6.fr (fun k => hv _ _ (by omega)) (fun k => hv _ _ (by omega)), ⟨by rw [h18, h7], by rw [h19, h8]⟩, s8.fr (hv _ _ (by omega)) (hv _ _ (by omega)) (fun k => hv _ _ (by omega)) (fun k => hv _ _ (by omega))⟩, cor.2.2.2⟩
theorem ask_bad {v : Int32} {e : Nat} {q : Flt} (h : IX M D Do G P E C W c0 c1 c2 n pc pn) (cor : Cor N D Do G P E C W c0 c1 c2 pc pn) (hv : ∀ a k, a < 187 → ¬ (3 ≤ a ∧ a ≤ 6) → a ≠ 8 → a ≠ 9 → (a ≠ 1 ∨ k < 6) → N.2.1 a k = M.2.1 a k) (hj : N.2.2.1 94 87 = M.2.2.1 94 87) (hq : QZ e N v (.inl q)) (hO : ∀ O : sMem, (∀ a k, 94 ≤ a → a < 187 → O.2.1 a k = N.2.1 a k) → RefS O.1 O.2.2.2 → ∃ kv O', f_X12_ask 94 O = f_X12_ask_B133 94 kv O' ∧ Fr raX q0 O O' ∧ O'.2.1 94 1 = 0 ∧ O'.2.1 94 5 = q.1 ∧ O'.2.1 94 6 = q.2) : ∃ r M1 M2, f_X11_ask_B18 0 v N = some (r, M1) ∧ f_X12_ask 94 M1 = some (r, M2) ∧ Inv M2 := by
  have hc := cor.1.hc
  obtain ⟨q1, q2, q3, q4, q5⟩ := hq
  subst q1
  have FO : Fr e11 q0 N (wrI N 1 1 0) := Fr.rf.wi rfl
  have hsO : RefS (wrI N 1 1 0).1 (wrI N 1 1 0).2.2.2 := cor.1.1
  obtain ⟨kv, O', o1, o2, o3, o4, o5⟩ := hO (wrI N 1 1 0) (fun a k _ _ => wrI_ne (by omega)) hsO
  have hs' := o2.hs hsO
  have corO := cor.st FO (fun a k z => ix_no z (fun y => by unfold e11 at y; simp only [Bool.or_eq_true, Bool.and_eq_true, beq_iff_eq] at y; omega)) (fun _ _ _ => rfl)
  have cor' := corO.st o2 (fun a k z => ra_ix z) (fun _ _ _ => rfl)
  obtain ⟨N', hN'⟩ : ∃ N', N' = wrI (wrI O' 94 7 q.1) 94 8 q.2 := ⟨_, rfl⟩
  have F5 : Fr e78 q0 O' N' := by rw [hN']; exact (Fr.rf.wi rfl).wi rfl
  have cor5 := cor'.st F5 (fun a k z => ix_no z (fun y => by unfold e78 at y; simp only [Bool.or_eq_true, Bool.and_eq_true, beq_iff_eq] at y; omega)) (fun _ _ _ => rfl)
  have ra_n : ∀ a k, a ≠ 94 ∨ (k = 80 ∨ k = 126) → a ≠ 183 → a ≠ 184 → raX a k = false := fun a k z1 z2 z3 => Bool.eq_false_iff.mpr (fun y => by
    unfold raX rqX rlX qX at y
    simp only [Bool.or_eq_true, Bool.and_eq_true, beq_iff_eq] at y
    omega)
  have w : ∀ a k, a ≠ 94 ∨ (k = 80 ∨ k = 126) → a ≠ 183 → a ≠ 184 → a ≠ 96 → N'.2.1 a k = (wrI N 1 1 0).2.1 a k := fun a k z1 z2 z3 z4 => by
    rw [F5.i (Bool.eq_false_iff.mpr (fun y => by unfold e78 at y; simp only [Bool.or_eq_true, Bool.and_eq_true, beq_iff_eq] at y; omega)), o2.i (ra_n a k z1 z2 z3)]
  have w96 : ∀ k, N'.2.1 96 k = (wrI N 1 1 0).2.1 96 k := fun k => by
    rw [hN', wrI_ne (by omega), wrI_ne (by omega), o2.i (ra_n 96 k (by omega) (by omega) (by omega))]
  refine ⟨-1000000000000000, wrI N 1 1 0, N', ?_, ?_, ?_⟩
  · unfold f_X11_ask_B18
    rw [gr0_0 hc, Option.bind_some, pi1 hc, Option.bind_some, if_pos rfl]
  · rw [o1]
    unfold f_X12_ask_B133
    have hsA : RefS (wrI O' 94 7 q.1).1 (wrI O' 94 7 q.1).2.2.2 := hs'
    have hsB : RefS (wrI (wrI O' 94 7 q.1) 94 8 q.2).1 (wrI (wrI O' 94 7 q.1) 94 8 q.2).2.2.2 := hs'
    rw [gi94 hs', Option.bind_some, o4, pi94 hs', Option.bind_some, gi94 hsA, Option.bind_some, wrI_ne (by omega), o5, pi94 hsA, Option.bind_some, gi94 hsB, Option.bind_some, wrI_ne (by omega), wrI_ne (by omega), o4, if_neg q5, ← hN']
  · refine ask_end (x7 := q.1) (x8 := q.2) h cor5 ?_ ?_ ?_ ?_ ?_ ?_ ?_ (fun a k z => ?_)
    · rw [w 1 1 (by omega) (by omega) (by omega) (by omega), wrI_eq]
    · rw [F5.i rfl, o3]
    · rw [w 1 8 (by omega) (by omega) (by omega) (by omega), wrI_ne (by omega)]; exact q3
    · rw [w 1 9 (by omega) (by omega) (by omega) (by omega), wrI_ne (by omega)]; exact q4
    · rw [hN', wrI_ne (by omega), wrI_eq]
    · rw [hN', wrI_eq]
    · rw [F5.j rfl, o2.j rfl]; exact hj
    · by_cases y : a = 96
      · subst y
        rw [w96, wrI_ne (by omega)]; exact hv 96 k (by omega) (by omega) (by omega) (by omega) (by omega)
      · rw [w a k (by omega) (by omega) (by omega) y, wrI_ne (by omega)]; exact hv a k (by omega) (by omega) (by omega) (by omega) (by omega)
end AB2
