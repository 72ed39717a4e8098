/-! THE CLASS answers for a car: its two tables -/
section CAN
variable {M N : sMem} {c m : Nat} {cl : Nat → Nat → Bool} {ar : Nat → Int32}
def p70 : Nat → Nat → Bool := fun a _ => a == 70
def p71 : Nat → Nat → Bool := fun a _ => a == 71
theorem c_ans70 (hc : ClsS M.1 M.2.2.2) (hm : m < 200) (hcl : ∀ g t, g < 6 → t < 256 → rb (M.2.2.1 88) g t = cl g t) : ∃ N, sItr (fun a : (Int32 × sMem) => f_X0_answerOf_K117 67 54 (nI c) 88 8 (nI m) a.1 a.2) sFuel (0, M) = some N ∧ Fr p70 q0 M N ∧ ∀ g, g < 6 → N.2.1 70 g = bI (cl g m = true) := by
  obtain ⟨N, b1, b2⟩ := itr_up (f := fun a : (Int32 × sMem) => f_X0_answerOf_K117 67 54 (nI c) 88 8 (nI m) a.1 a.2) (fun j N => Fr p70 q0 M N ∧ ∀ g, g < j → N.2.1 70 g = bI (cl g m = true)) (fun N => Fr p70 q0 M N ∧ ∀ g, g < 6 → N.2.1 70 g = bI (cl g m = true)) 6 (by decide) (by
    rintro j N hj ⟨i1, i2⟩
    dsimp only
    unfold f_X0_answerOf_K117 f_X0_answerOf_B149
    by_cases q : j = 6
    · right
      subst q
      rw [if_pos (by decide)]
      exact ⟨N, rfl, i1, i2⟩
    · left
      refine ⟨by omega, ?_⟩
      have hcN := i1.hc hc
      have er := hcl j m (by omega) (by omega)
      unfold rb at er
      have e88 : N.2.2.1 88 = M.2.2.1 88 := funext fun k => i1.j rfl
      rw [if_neg (show ¬ (6 : Int32) ≤ nI j from fun z => by rw [show (6 : Int32) = nI 6 from rfl, cle (by decide) (by omega)] at z; omega), gr67_0 hcN, Option.bind_some, gr68_1 hcN, Option.bind_some, b_isMarked (cs88 hcN) (by omega) (by omega), Option.bind_some, e88, er, nI_1]
      have fin : ∀ x : Int32, x = bI (cl j m = true) → Fr p70 q0 M (wrI N 70 j x) ∧ ∀ g, g < j + 1 → (wrI N 70 j x).2.1 70 g = bI (cl g m = true) := fun x hx => ⟨i1.wi rfl, fun g hg => by
        by_cases y : g = j
        · subst y; rw [wrI_eq, hx]
        · rw [wrI_ne (by omega)]; exact i2 g (by omega)⟩
      by_cases z : cl j m = true
      · rw [if_neg (bI_y z), st70 hcN (by omega), Option.bind_some]
        exact ⟨_, rfl, fin 1 (bI_t z).symm⟩
      · rw [if_pos (bI_0.mpr z), st70 hcN (by omega), Option.bind_some]
        exact ⟨_, rfl, fin 0 (bI_f z).symm⟩) (i := 0) (s := M) (by decide) ⟨Fr.rf, fun g hg => by omega⟩
  exact ⟨N, b1, b2⟩
theorem c_ans71 (hc : ClsS M.1 M.2.2.2) (har : ∀ p N, p < 7 → Fr p71 q0 M N → f_X7_arrival 80 (nI p) N = some (ar p)) : ∃ N, sItr (fun a : (Int32 × sMem) => f_X0_answerOf_K175 67 8 a.1 a.2) sFuel (0, M) = some N ∧ Fr p71 q0 M N ∧ ∀ p, p < 7 → N.2.1 71 p = ar p := by
  obtain ⟨N, b1, b2⟩ := itr_up (f := fun a : (Int32 × sMem) => f_X0_answerOf_K175 67 8 a.1 a.2) (fun j N => Fr p71 q0 M N ∧ ∀ g, g < j → N.2.1 71 g = ar g) (fun N => Fr p71 q0 M N ∧ ∀ g, g < 7 → N.2.1 71 g = ar g) 7 (by decide) (by
    rintro j N hj ⟨i1, i2⟩
    dsimp only
    unfold f_X0_answerOf_K175
    by_cases q : j = 7
    · right
      subst q
      rw [if_pos (by decide)]
      exact ⟨N, rfl, i1, i2⟩
    · left
      refine ⟨by omega, ?_⟩
      have hcN := i1.hc hc
      rw [if_neg (show ¬ (7 : Int32) ≤ nI j from fun z => by rw [show (7 : Int32) = nI 7 from rfl, cle (by decide) (by omega)] at z; omega), gr67_0 hcN, Option.bind_some, gr68_2 hcN, Option.bind_some, gr67_2 hcN, Option.bind_some, har j N (by omega) i1, Option.bind_some, st71 hcN (by omega), Option.bind_some, nI_1]
      exact ⟨_, rfl, i1.wi rfl, fun g hg => by
        by_cases y : g = j
        · subst y; rw [wrI_eq]
        · rw [wrI_ne (by omega)]; exact i2 g (by omega)⟩) (i := 0) (s := M) (by decide) ⟨Fr.rf, fun g hg => by omega⟩
  exact ⟨N, b1, b2⟩
end CAN
