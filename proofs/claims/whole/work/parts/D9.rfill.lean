/-! THE REFERENCE lays waits and drives for a question -/
section RFL
variable {M N : sMem} {G P E C W c : Nat} {c0 c1 c2 : List Nat} {w : Nat → Int32} {u : Nat → Nat → Int32}
def pQw : Nat → Nat → Bool := fun a k => pDr a k || a == 142 || a == 143
theorem pQw_n {a k : Nat} (h : pDr a k = false) (h1 : a ≠ 142) (h2 : a ≠ 143) : pQw a k = false := by unfold pQw; rw [h, beq_eq_false_iff_ne.mpr h1, beq_eq_false_iff_ne.mpr h2]; rfl
theorem pQw_d {a k : Nat} (h : pQw a k = false) : pDr a k = false := by
  revert h; unfold pQw; cases pDr a k <;> simp
end RFL
