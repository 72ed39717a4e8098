/-! WHAT a question asks of a car -/
def envQ (u : Nat → Nat → Int32) (w : Nat → Int32) (wt : Int32) (c k : Nat) : Int := if k = 6 then (w 0).toInt else if k = 7 then wt.toInt else if k = 8 then (w (14 + 3 * c)).toInt else if k = 9 then (c : Int) else if k = 10 then (w (12 + 3 * c)).toInt else if k = 11 then (w (13 + 3 * c)).toInt else (u 136 (17 + 3 * c)).toInt
def shQ (cl : Nat → Nat → Bool) (m : Nat) (v : Int) : Int := if 0 ≤ v ∧ v < 6 then (bI (cl v.toNat m = true)).toInt else 0
noncomputable def drQ (u : Nat → Nat → Int32) (cl : Nat → Nat → Bool) (W P m fr : Nat) (v : Int) : Int := if 0 ≤ v ∧ v < 7 then (drvF u cl W P m fr v.toNat).toInt else -1
def pAn : Nat → Nat → Bool := fun a k => a == 81 || a == 69 || a == 70 || a == 71 || a == 72 || (a == 68 && k == 4)
section CA2
variable {M : sMem} {W P m fr : Nat} {u : Nat → Nat → Int32} {cl : Nat → Nat → Bool} {v : Int}
theorem shQ_C (h : ∀ g, g < 6 → M.2.1 70 g = bI (cl g m = true)) : shC M.2.1 = shQ cl m := by
  funext v
  unfold shC shQ
  by_cases q : 0 ≤ v ∧ v < 6
  · rw [if_pos q, if_pos q, h _ (by omega)]
  · rw [if_neg q, if_neg q]
theorem drQ_C (h : ∀ p, p < 7 → M.2.1 71 p = drvF u cl W P m fr p) : drC M.2.1 = drQ u cl W P m fr := by
  funext v
  unfold drC drQ
  by_cases q : 0 ≤ v ∧ v < 7
  · rw [if_pos q, if_pos q, h _ (by omega)]
  · rw [if_neg q, if_neg q]
theorem shQ_rg : -1000000 ≤ shQ cl m v ∧ shQ cl m v ≤ 1000000 := by
  unfold shQ
  by_cases q : 0 ≤ v ∧ v < 6
  · rw [if_pos q]
    cases cl v.toNat m with
    | true => rw [bI_t rfl]; decide
    | false => rw [bI_f (by decide)]; decide
  · rw [if_neg q]; decide
theorem drQ_rg : -1000000 ≤ drQ u cl W P m fr v ∧ drQ u cl W P m fr v ≤ 1000000 := by
  unfold drQ
  by_cases q : 0 ≤ v ∧ v < 7
  · rw [if_pos q]
    rcases drvF_P (u := u) (cl := cl) (W := W) (P := P) (m0 := m) (fr := fr) (to := v.toNat) with ⟨z, _⟩ | ⟨k, k1, k2, _⟩
    · rw [z]; decide
    · rw [k2, nI_i (by omega)]; omega
  · rw [if_neg q]; decide
end CA2
