/-! THE REFERENCE's district(): the answer -/
section RD4
variable {b : Nat → Int32} {n e t k wh : Nat} {T : Tk} {sa sz : Nat → Nat} {M N : sMem} {d : Ds}
def fl78 (M : sMem) (q : Flt) : sMem := wrI (wrI M 94 7 q.1) 94 8 q.2
theorem r_dist (hL : Lex b n T e sa sz) (hb : ∀ i, i < n → b i ≠ mI) (hT : RT b n M) : ∃ v N N1, f_X12_district 94 M = some (v, N) ∧ Fr r57 rdJ M N1 ∧ N1.2.1 94 1 = 0 ∧ RefS N1.1 N1.2.2.2 ∧ match diR b T sa sz with | .inl q => v = -1 ∧ N = wrI (fl78 N1 q) 96 1 (N1.2.1 96 1 + 1) | .inr (d, k) => v = nI k ∧ (1 ≤ k ∧ k ≤ 80) ∧ RD N1 d ∧ GF d e ∧ (∃ m, 5 ≤ m ∧ m ≤ 60 ∧ d.1.1 = nI m) ∧ Std (fl78 N1 (0, mI)) N (cdL d) (d.2.1 3).length := by
  obtain ⟨N1, a1, a2, a3, a4, a5, a6⟩ := r_dread hL hb hT
  have hs := a5.1
  rw [a1]
  unfold f_X12_district_B116
  rw [gi94 hs, Option.bind_some, pi94 hs, Option.bind_some, gi94 (M := wrI N1 94 7 (N1.2.1 94 5)) hs, Option.bind_some, wrI_ne (by omega), pi94 (M := wrI N1 94 7 (N1.2.1 94 5)) hs, Option.bind_some, gi94 (M := wrI (wrI N1 94 7 (N1.2.1 94 5)) 94 8 (N1.2.1 94 6)) hs, Option.bind_some, wrI_ne (by omega), wrI_ne (by omega)]
  match z : diR b T sa sz with
  | .inl q =>
    rw [z] at a6
    dsimp only at a6 ⊢
    have e1 : wrI (wrI N1 94 7 (N1.2.1 94 5)) 94 8 (N1.2.1 94 6) = fl78 N1 q := by unfold fl78; rw [a6.1, a6.2.1]
    rw [if_neg (by rw [a6.1]; exact a6.2.2), e1, gr94_9 (M := fl78 N1 q) hs, Option.bind_some, show ldI 14 (fl78 N1 q) 96 1 = some ((fl78 N1 q).2.1 96 1) from ldI_n (j := 1) (M := fl78 N1 q) (rs96 hs) (by decide) (by decide), Option.bind_some, show ∀ x, stI (fl78 N1 q) 96 1 x = some (wrI (fl78 N1 q) 96 1 x) from fun x => stI_n (j := 1) (M := fl78 N1 q) (rs96 hs) (by decide) (by decide), Option.bind_some]
    refine ⟨-1, _, N1, rfl, a2, a3, hs, rfl, ?_⟩
    have : (fl78 N1 q).2.1 96 1 = N1.2.1 96 1 := by unfold fl78; rw [wrI_ne (by omega), wrI_ne (by omega)]
    rw [this]
  | .inr (d, k) =>
    rw [z] at a6
    dsimp only at a6 ⊢
    obtain ⟨c1, c2, c3, c4, c5, c6⟩ := a6
    have e1 : wrI (wrI N1 94 7 (N1.2.1 94 5)) 94 8 (N1.2.1 94 6) = fl78 N1 (0, mI) := by unfold fl78; rw [c1.1, c1.2.2.2.2]
    have hk := c3.1.2.2 3 (by decide)
    have he := hL.1.2
    have hcd := c3.2.2.2.2
    rw [if_pos c1.1, e1]
    have f0 : ∀ a j, ¬ (a = 94 ∧ j = 7) → ¬ (a = 94 ∧ j = 8) → (fl78 N1 (0, mI)).2.1 a j = N1.2.1 a j := fun a j h1 h2 => by unfold fl78; rw [wrI_ne h2, wrI_ne h1]
    obtain ⟨N, n1, n2⟩ := r_stands (M := fl78 N1 (0, mI)) (n := cdL d) (C := (d.2.1 3).length) hs (by omega) (by rw [f0 _ _ (by omega) (by omega)]; exact c2.2.2.2.2.2.2.1) hk (by rw [f0 _ _ (by omega) (by omega)]; exact c2.1.1 3 (by decide))
    have hsN : RefS N.1 N.2.2.2 := by rw [n2.1.1, n2.1.2]; exact hs
    rw [n1, Option.bind_some, gi94 hsN, Option.bind_some]
    refine ⟨_, N, N1, rfl, a2, a3, hs, ?_, c4, c2, c3, c6, n2⟩
    rw [n2.2.2.2.1 56 (by decide) (by decide) (by decide), f0 _ _ (by omega) (by omega)]
    exact c5
end RD4
