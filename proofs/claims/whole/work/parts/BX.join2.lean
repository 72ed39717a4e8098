/-! THE QUESTION: the reference joins answers -/
section JN2
variable {M : sMem} {k c : Nat} {y : Int64}
def JT (M N : sMem) (x : Int64) : Prop := Fr jX jJ M N ∧ N.2.1 94 124 = 0 ∧ N.2.2.1 94 123 = x
theorem q133 {N : sMem} {x : Int64} (hs : RefS N.1 N.2.2.2) (hF : Fr jX jJ M N) (hx : N.2.2.1 94 123 = x) : ∃ O, f_X12_qTakes_B133 94 N = some O ∧ JT M O x := by
  unfold f_X12_qTakes_B133
  rw [pZ_of (rs94 hs) (Or.inl rfl), Option.bind_some]
  exact ⟨_, rfl, hF.wi rfl, wrI_eq, hx⟩
theorem q128 {N : sMem} (hs : RefS N.1 N.2.2.2) (hF : Fr jX jJ M N) (x : Int64) : ∃ O, f_X12_qTakes_B128 94 x N = some O ∧ JT M O x := by
  unfold f_X12_qTakes_B128
  rw [pj94 hs, Option.bind_some]
  exact q133 (N := wrJ N 94 123 x) hs (hF.wj rfl) wrJ_eq
theorem r_takesQ (hs : RefS M.1 M.2.2.2) (hk : k ≤ 5) (hc : c < 5) (h124 : M.2.1 94 124 = if c = 0 then 1 else 0) : ∃ N, f_X12_qTakes 94 (nI k) y (nI c) M = some N ∧ JT M N (jn k (M.2.2.1 94 123) (nI c) y) := by
  have ne : ∀ i j, i ≤ 5 → j ≤ 5 → i ≠ j → ¬ nI i = nI j := fun i j h1 h2 h3 z => by rw [nI_eq (by omega) (by omega)] at z; omega
  have F0 : ∀ x, Fr jX jJ M (wrJ M 94 123 x) := fun x => Fr.rf.wj rfl
  have hc0 : nI c = 0 ↔ c = 0 := by rw [show (0 : Int32) = nI 0 from rfl, nI_eq (by omega) (by decide)]
  have le3 : ∀ i, i ≤ 5 → (nI i ≤ (3 : Int32) ↔ i ≤ 3) := fun i hi => by rw [show (3 : Int32) = nI 3 from rfl, cle (by omega) (by decide)]
  have ge3 : ∀ i, i ≤ 5 → ((3 : Int32) ≤ nI i ↔ 3 ≤ i) := fun i hi => by rw [show (3 : Int32) = nI 3 from rfl, cle (by decide) (by omega)]
  -- from B75 on
  have b75 : ∀ N x, k ≤ 2 → Fr jX jJ M N → RefS N.1 N.2.2.2 → N.2.2.1 94 123 = x → ∃ O, f_X12_qTakes_B75 94 (nI k) y N = some O ∧ JT M O x := by
    intro N x hk2 hF hN hx
    unfold f_X12_qTakes_B75 f_X12_qTakes_B90
    rw [if_neg (show ¬ nI k = (3 : Int32) from ne k 3 (by omega) (by decide) (by omega)), if_pos ((le3 k hk).mpr (by omega))]
    exact q133 hN hF hx
  have b55 : ∀ N x z, k ≤ 1 → Fr jX jJ M N → RefS N.1 N.2.2.2 → N.2.2.1 94 123 = x → ∃ O, f_X12_qTakes_B55 94 (nI k) y z N = some O ∧ JT M O x := by
    intro N x z hk1 hF hN hx
    unfold f_X12_qTakes_B55
    rw [if_neg (show ¬ nI k = (2 : Int32) from ne k 2 (by omega) (by decide) (by omega))]
    exact b75 N x (by omega) hF hN hx
  have b48 : ∀ z, k ≤ 1 → ∃ O, f_X12_qTakes_B48 94 (nI k) y (nI c) z M = some O ∧ JT M O (nI c).toInt64 := by
    intro z hk1
    unfold f_X12_qTakes_B48
    rw [pj94 hs, Option.bind_some]
    exact b55 _ _ z hk1 (F0 _) hs wrJ_eq
  unfold f_X12_qTakes f_X12_qTakes_B15 f_X12_qTakes_B16 f_X12_qTakes_B38
  rw [sr94 hs]
  match k, hk with
  | 0, hk =>
    rw [if_neg (by decide), jn0]
    by_cases q : y = 1
    · rw [if_pos q, if_pos (show nI 0 = (0 : Int32) from rfl), if_neg (show ¬ (1 : Int32) = 0 by decide), gj94 hs, Option.bind_some]
      by_cases w : M.2.2.1 94 123 = -1
      · rw [if_pos w, if_pos ⟨q, w⟩]; exact b48 1 (by decide)
      · rw [if_neg w, if_neg (show ¬ nI 0 = (1 : Int32) by decide), if_neg (fun z => w z.2)]
        exact b55 M _ 1 (by decide) Fr.rf hs rfl
    · rw [if_neg q, if_pos (show nI 0 = (0 : Int32) from rfl), if_pos rfl, if_neg (show ¬ nI 0 = (1 : Int32) by decide), if_neg (fun z => q z.1)]
      exact b55 M _ 0 (by decide) Fr.rf hs rfl
  | 1, hk =>
    rw [if_neg (by decide), jn1]
    by_cases q : y = 1
    · rw [if_pos q, if_neg (show ¬ nI 1 = (0 : Int32) by decide), if_pos (show nI 1 = (1 : Int32) from rfl), if_neg (show ¬ (1 : Int32) = 0 by decide), if_pos q]
      exact b48 1 (by decide)
    · rw [if_neg q, if_neg (show ¬ nI 1 = (0 : Int32) by decide), if_pos (show nI 1 = (1 : Int32) from rfl), if_pos rfl, if_neg q]
      exact b55 M _ 0 (by decide) Fr.rf hs rfl
  | 2, hk =>
    rw [if_neg (by decide), jn2]
    by_cases q : y = 1
    · rw [if_pos q, if_neg (show ¬ nI 2 = (0 : Int32) by decide), if_neg (show ¬ nI 2 = (1 : Int32) by decide), if_pos q]
      unfold f_X12_qTakes_B55
      rw [if_pos (show nI 2 = (2 : Int32) from rfl), if_neg (show ¬ (1 : Int32) = 0 by decide), gj94 hs, Option.bind_some, pj94 hs, Option.bind_some]
      exact b75 _ _ (by decide) (F0 _) hs wrJ_eq
    · rw [if_neg q, if_neg (show ¬ nI 2 = (0 : Int32) by decide), if_neg (show ¬ nI 2 = (1 : Int32) by decide), if_neg q]
      unfold f_X12_qTakes_B55
      rw [if_pos (show nI 2 = (2 : Int32) from rfl), if_pos rfl]
      exact b75 M _ (by decide) Fr.rf hs rfl
  | 3, hk =>
    rw [if_pos (by decide), jn3, if_neg (show ¬ nI 3 = (0 : Int32) by decide), if_neg (show ¬ nI 3 = (1 : Int32) by decide)]
    unfold f_X12_qTakes_B55 f_X12_qTakes_B75 f_X12_qTakes_B90
    rw [if_neg (show ¬ nI 3 = (2 : Int32) by decide), if_pos (show nI 3 = (3 : Int32) from rfl), gj94 hs, Option.bind_some, pj94 hs, Option.bind_some, if_pos (show nI 3 ≤ (3 : Int32) by decide)]
    exact q133 (N := wrJ M 94 123 (M.2.2.1 94 123 + y)) hs (F0 _) wrJ_eq
  | 4, hk =>
    rw [if_pos (by decide), jn4, if_neg (show ¬ nI 4 = (0 : Int32) by decide), if_neg (show ¬ nI 4 = (1 : Int32) by decide)]
    unfold f_X12_qTakes_B55 f_X12_qTakes_B75 f_X12_qTakes_B90
    rw [if_neg (show ¬ nI 4 = (2 : Int32) by decide), if_neg (show ¬ nI 4 = (3 : Int32) by decide), if_neg (show ¬ nI 4 ≤ (3 : Int32) by decide), gi94 hs, Option.bind_some, h124]
    by_cases q : c = 0
    · rw [if_pos q, if_neg (show ¬ (1 : Int32) = 0 by decide), if_pos (hc0.mpr q)]
      exact q128 hs Fr.rf y
    · rw [if_neg q, if_pos rfl, if_pos (show nI 4 = (4 : Int32) from rfl), gj94 hs, Option.bind_some, if_neg (fun z => q (hc0.mp z))]
      by_cases w : y ≤ M.2.2.1 94 123
      · rw [if_pos w, if_neg (fun z => by rw [Int64.lt_iff_toInt_lt] at z; rw [Int64.le_iff_toInt_le] at w; omega)]
        exact q133 hs Fr.rf rfl
      · rw [if_neg w, if_pos (by rw [Int64.lt_iff_toInt_lt]; rw [Int64.le_iff_toInt_le] at w; omega)]
        exact q128 hs Fr.rf y
  | 5, hk =>
    rw [if_pos (by decide), jn5, if_neg (show ¬ nI 5 = (0 : Int32) by decide), if_neg (show ¬ nI 5 = (1 : Int32) by decide)]
    unfold f_X12_qTakes_B55 f_X12_qTakes_B75 f_X12_qTakes_B90
    rw [if_neg (show ¬ nI 5 = (2 : Int32) by decide), if_neg (show ¬ nI 5 = (3 : Int32) by decide), if_neg (show ¬ nI 5 ≤ (3 : Int32) by decide), gi94 hs, Option.bind_some, h124]
    by_cases q : c = 0
    · rw [if_pos q, if_neg (show ¬ (1 : Int32) = 0 by decide), if_pos (hc0.mpr q)]
      exact q128 hs Fr.rf y
    · rw [if_neg q, if_pos rfl, if_neg (show ¬ nI 5 = (4 : Int32) by decide), gj94 hs, Option.bind_some, if_neg (fun z => q (hc0.mp z))]
      by_cases w : M.2.2.1 94 123 ≤ y
      · rw [if_pos w, if_neg (fun z => by rw [Int64.lt_iff_toInt_lt] at z; rw [Int64.le_iff_toInt_le] at w; omega)]
        exact q133 hs Fr.rf rfl
      · rw [if_neg w, if_pos (by rw [Int64.lt_iff_toInt_lt]; rw [Int64.le_iff_toInt_le] at w; omega)]
        exact q128 hs Fr.rf y
end JN2
