/-! THE QUESTION: answers are joined -/
def jn (k : Nat) (a : Int64) (c : Int32) (y : Int64) : Int64 := if k = 0 then (if y = 1 ∧ a = -1 then c.toInt64 else a) else if k = 1 then (if y = 1 then c.toInt64 else a) else if k = 2 then (if y = 1 then a + 1 else a) else if k = 3 then a + y else if k = 4 then (if c = 0 then y else if a < y then y else a) else (if c = 0 then y else if y < a then y else a)
def jX : Nat → Nat → Bool := fun a k => a == 94 && k == 124
def jJ : Nat → Nat → Bool := fun a k => a == 94 && k == 123
section JNS
variable {M : sMem} {k c : Nat} {y : Int64}
theorem jn0 {a : Int64} {c : Int32} : jn 0 a c y = if y = 1 ∧ a = -1 then c.toInt64 else a := rfl
theorem jn1 {a : Int64} {c : Int32} : jn 1 a c y = if y = 1 then c.toInt64 else a := rfl
theorem jn2 {a : Int64} {c : Int32} : jn 2 a c y = if y = 1 then a + 1 else a := rfl
theorem jn3 {a : Int64} {c : Int32} : jn 3 a c y = a + y := rfl
theorem jn4 {a : Int64} {c : Int32} : jn 4 a c y = if c = 0 then y else if a < y then y else a := rfl
theorem jn5 {a : Int64} {c : Int32} : jn 5 a c y = if c = 0 then y else if y < a then y else a := rfl
theorem c_joined {a : Int64} {x : Int32} (hk : k ≤ 5) (hx : k ≤ 2 → x = 0 ∨ x = 1) : f_X11_joined (nI (33 + k)) a (nI c) x M = some (jn k a (nI c) x.toInt64) := by
  have ne : ∀ i j, i ≤ 5 → j ≤ 5 → i ≠ j → ¬ nI (33 + i) = nI (33 + j) := fun i j h1 h2 h3 z => by rw [nI_eq (by omega) (by omega)] at z; omega
  unfold f_X11_joined f_X11_joined_B109 f_J9_max_f86c9 f_J9_min_f86c9
  rw [show (33 : Int32) = nI (33 + 0) from rfl, show (34 : Int32) = nI (33 + 1) from rfl, show (35 : Int32) = nI (33 + 2) from rfl, show (36 : Int32) = nI (33 + 3) from rfl, show (37 : Int32) = nI (33 + 4) from rfl]
  match k, hk with
  | 0, _ =>
    rw [if_pos rfl, jn0]
    rcases hx (by decide) with rfl | rfl
    · rw [if_pos rfl, if_neg (fun z => absurd z.1 (by decide))]
    · rw [if_neg (show ¬ (1 : Int32) = 0 by decide)]
      by_cases q : a = -1
      · rw [if_pos q, if_pos ⟨by decide, q⟩]
      · rw [if_neg q, if_neg (fun z => q z.2)]
  | 1, _ =>
    rw [if_neg (ne 1 0 (by decide) (by decide) (by decide)), if_pos rfl, jn1]
    rcases hx (by decide) with rfl | rfl
    · rw [if_pos rfl, if_neg (show ¬ Int32.toInt64 0 = 1 by decide)]
    · rw [if_neg (show ¬ (1 : Int32) = 0 by decide), if_pos (show Int32.toInt64 1 = 1 by decide)]
  | 2, _ =>
    rw [if_neg (ne 2 0 (by decide) (by decide) (by decide)), if_neg (ne 2 1 (by decide) (by decide) (by decide)), if_pos rfl, jn2]
    rcases hx (by decide) with rfl | rfl
    · rw [if_pos rfl, if_neg (show ¬ Int32.toInt64 0 = 1 by decide)]
    · rw [if_neg (show ¬ (1 : Int32) = 0 by decide), if_pos (show Int32.toInt64 1 = 1 by decide)]
  | 3, _ =>
    rw [if_neg (ne 3 0 (by decide) (by decide) (by decide)), if_neg (ne 3 1 (by decide) (by decide) (by decide)), if_neg (ne 3 2 (by decide) (by decide) (by decide)), if_pos rfl, jn3]
  | 4, _ =>
    rw [if_neg (ne 4 0 (by decide) (by decide) (by decide)), if_neg (ne 4 1 (by decide) (by decide) (by decide)), if_neg (ne 4 2 (by decide) (by decide) (by decide)), if_neg (ne 4 3 (by decide) (by decide) (by decide)), if_pos rfl, jn4]
    by_cases q : nI c = 0
    · rw [if_pos q, if_pos q]
    · rw [if_neg q, if_neg q]
      by_cases w : a < x.toInt64
      · rw [if_pos w, if_pos w]; rfl
      · rw [if_neg w, if_neg w]; rfl
  | 5, _ =>
    rw [if_neg (ne 5 0 (by decide) (by decide) (by decide)), if_neg (ne 5 1 (by decide) (by decide) (by decide)), if_neg (ne 5 2 (by decide) (by decide) (by decide)), if_neg (ne 5 3 (by decide) (by decide) (by decide)), if_neg (ne 5 4 (by decide) (by decide) (by decide)), jn5]
    by_cases q : nI c = 0
    · rw [if_pos q, if_pos q]
    · rw [if_neg q, if_neg q]
      by_cases w : x.toInt64 < a
      · rw [if_pos w, if_pos w]; rfl
      · rw [if_neg w, if_neg w]; rfl
end JNS
