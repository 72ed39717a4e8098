/-! SMALL METHODS of both sides, as equations -/
theorem both {α : Type} {X : Option α} (h : X.isSome = true) : ∃ r, X = some r ∧ X = some r := by
  cases X with
  | none => cases h
  | some r => exact ⟨r, rfl, rfl⟩
def bI (p : Prop) [Decidable p] : Int32 := if p then 1 else 0
theorem bI_t {p : Prop} [Decidable p] (h : p) : bI p = 1 := if_pos h
theorem bI_f {p : Prop} [Decidable p] (h : ¬ p) : bI p = 0 := if_neg h
theorem bI_0 {p : Prop} [Decidable p] : bI p = 0 ↔ ¬ p := by
  unfold bI; by_cases h : p
  · rw [if_pos h]; exact ⟨fun e => absurd e (by decide), fun e => absurd h e⟩
  · rw [if_neg h]; exact ⟨fun _ => h, fun _ => rfl⟩
theorem bI_01 {p : Prop} [Decidable p] : bI p = 0 ∨ bI p = 1 := by
  unfold bI; by_cases h : p
  · rw [if_pos h]; exact Or.inr rfl
  · rw [if_neg h]; exact Or.inl rfl
theorem bI_cong {p q : Prop} [Decidable p] [Decidable q] (h : p ↔ q) : bI p = bI q := by
  by_cases hp : p
  · rw [bI_t hp, bI_t (h.mp hp)]
  · rw [bI_f hp, bI_f (fun hq => hp (h.mpr hq))]
theorem mulc {x y : Int32} (k : Int) (hk : y.toInt = k) (h1 : -2147483648 ≤ x.toInt * k) (h2 : x.toInt * k < 2147483648) : (x * y).toInt = x.toInt * k := by
  subst hk; exact mul_i h1 h2
theorem cmul {x y : Int32} (k : Int) (hk : y.toInt = k) (h1 : -2147483648 ≤ k * x.toInt) (h2 : k * x.toInt < 2147483648) : (y * x).toInt = k * x.toInt := by
  subst hk; exact mul_i h1 h2
theorem addc {x y : Int32} (k : Int) (hk : y.toInt = k) (h1 : -2147483648 ≤ x.toInt + k) (h2 : x.toInt + k < 2147483648) : (x + y).toInt = x.toInt + k := by
  subst hk; exact add_i h1 h2
theorem cadd {x y : Int32} (k : Int) (hk : y.toInt = k) (h1 : -2147483648 ≤ k + x.toInt) (h2 : k + x.toInt < 2147483648) : (y + x).toInt = k + x.toInt := by
  subst hk; exact add_i h1 h2
theorem subc {x y : Int32} (k : Int) (hk : y.toInt = k) (h1 : -2147483648 ≤ x.toInt - k) (h2 : x.toInt - k < 2147483648) : (x - y).toInt = x.toInt - k := by
  subst hk; exact sub_i h1 h2
theorem i64 (x : Int32) : x.toInt64.toInt = x.toInt := Int32.toInt_toInt64 x
section SM
variable {M : sMem}
theorem isIn_of (v a b : Int64) : f_X12_isIn v a b M = some (bI (a.toInt ≤ v.toInt ∧ v.toInt ≤ b.toInt)) := by
  unfold f_X12_isIn
  by_cases h1 : v < a
  · rw [if_pos h1, bI_f (fun h => by have := Int64.lt_iff_toInt_lt.mp h1; omega)]
  · rw [if_neg h1]
    have h1' : a.toInt ≤ v.toInt := by
      have := Int64.le_iff_toInt_le.mp (Int64.not_lt.mp h1); exact this
    by_cases h2 : b < v
    · rw [if_pos h2, bI_f (fun h => by have := Int64.lt_iff_toInt_lt.mp h2; omega)]
    · rw [if_neg h2, bI_t ⟨h1', Int64.le_iff_toInt_le.mp (Int64.not_lt.mp h2)⟩]
theorem isThere_of {t : Nat} (hT : M.1[t]? = some (9, 4)) (a : Int32) : f_X9_isThere t a M = some (bI (0 ≤ a.toInt ∧ a.toInt < (M.2.1 t 3).toInt)) := by
  unfold f_X9_isThere
  rw [sRc_of hT, gI_of hT, Option.bind_some]
  have e0 : (0 : Int32).toInt = 0 := rfl
  by_cases h1 : a < 0
  · rw [if_pos h1, bI_f (fun h => by have := lt_i.mp h1; omega)]
  · rw [if_neg h1]
    have h1' := le_i.mp (Int32.not_lt.mp h1)
    by_cases h2 : M.2.1 t 3 ≤ a
    · rw [if_pos h2, bI_f (fun h => by have := le_i.mp h2; omega)]
    · rw [if_neg h2, bI_t ⟨by omega, lt_i.mp (Int32.not_le.mp h2)⟩]
theorem cell_of {t q mx : Nat} {a k : Int32} (hT : M.1[t]? = some (9, 4)) (hr : M.2.2.2 t 2 = some q) (hq : M.1[q]? = some (14, 4 * mx)) (hm : (M.2.1 t 3).toInt ≤ mx) (hmx : mx ≤ 100) (ha : 0 ≤ a.toInt ∧ a.toInt < (M.2.1 t 3).toInt) (hk : 0 ≤ k.toInt ∧ k.toInt < 4) : f_X9_cell t a k M = some (M.2.1 q (4 * a.toInt + k.toInt).toNat) := by
  unfold f_X9_cell f_X9_cell_B26
  have e0 : (0 : Int32).toInt = 0 := rfl
  have e4 : (4 : Int32).toInt = 4 := rfl
  rw [sRc_of hT, gI_of hT, Option.bind_some]
  rw [if_neg (fun h => by have := lt_i.mp h; omega), if_neg (fun h => by have := le_i.mp h; omega), if_neg (fun h => by have := lt_i.mp h; omega), if_neg (fun h => by have := le_i.mp h; omega)]
  rw [if_neg (by decide), gR_of hT hr, Option.bind_some]
  have em : (a * (4 : Int32)).toInt = a.toInt * 4 := mulc 4 rfl (by omega) (by omega)
  have ei : (a * (4 : Int32) + k).toInt = 4 * a.toInt + k.toInt := by rw [add_i (by omega) (by omega), em]; omega
  rw [ldI_of hq (by rw [ei]; omega), Option.bind_some, ei]
theorem cell_no {t : Nat} {a k : Int32} (hT : M.1[t]? = some (9, 4)) (ha : ¬ (0 ≤ a.toInt ∧ a.toInt < (M.2.1 t 3).toInt)) : f_X9_cell t a k M = some (-1) := by
  unfold f_X9_cell f_X9_cell_B25 f_X9_cell_B26
  have e0 : (0 : Int32).toInt = 0 := rfl
  rw [sRc_of hT, gI_of hT, Option.bind_some]
  by_cases h1 : a < 0
  · rw [if_pos h1, if_pos rfl]
  · rw [if_neg h1]
    have h1' := le_i.mp (Int32.not_lt.mp h1)
    rw [if_pos (le_i.mpr (by omega)), if_pos rfl]
theorem ok_fault (hc : ClsS M.1 M.2.2.2) (hs : RefS M.1 M.2.2.2) (h1 : M.2.1 1 8 = M.2.1 94 7) (h2 : M.2.1 1 9 = M.2.1 94 8) (a : Int32) : ∃ r, f_X11_fault 0 a M = some r ∧ f_X12_fault 94 a M = some r := by
  unfold f_X11_fault f_X12_fault
  rw [sRc_of (cs0 hc), sRc_of (rs94 hs)]
  simp only [gR_of (cs0 hc) (cr0_0 hc), gI_of (cs1 hc), gI_of (rs94 hs), Option.bind_some, h1, h2]
  exact both (by split; rfl; split <;> rfl)
theorem ok_status (hc : ClsS M.1 M.2.2.2) (hs : RefS M.1 M.2.2.2) (h1 : ∀ k, k < 6 → M.2.1 93 k = M.2.1 96 k) (a : Int32) : ∃ r, f_X11_status 0 a M = some r ∧ f_X12_status 94 a M = some r := by
  unfold f_X11_status f_X12_status
  rw [sRc_of (cs0 hc), sRc_of (rs94 hs), isIn_of, Option.bind_some, gR_of (cs0 hc) (cr0_18 hc), gR_of (rs94 hs) (rr9 hs), Option.bind_some, Option.bind_some, i64]
  have e0 : (0 : Int32).toInt = 0 := rfl
  have e6 : (6 : Int32).toInt = 6 := rfl
  have f0 : (0 : Int64).toInt = 0 := rfl
  have f5 : (5 : Int64).toInt = 5 := rfl
  by_cases ha : 0 ≤ a.toInt ∧ a.toInt < 6
  · rw [if_neg (fun h => by have := lt_i.mp h; omega), if_neg (fun h => by have := le_i.mp h; omega), if_neg (fun h => bI_0.mp h (by omega)), ldI_of (cs93 hc) (by omega), ldI_of (rs96 hs) (by omega), Option.bind_some, Option.bind_some, h1 _ (by omega)]
    exact both rfl
  · rw [if_pos (bI_0.mpr (by omega))]
    refine ⟨-1, ?_, rfl⟩
    by_cases h1 : a < 0
    · rw [if_pos h1]
    · rw [if_neg h1]
      have := le_i.mp (Int32.not_lt.mp h1)
      rw [if_pos (le_i.mpr (by omega))]
theorem ok_octet (hc : ClsS M.1 M.2.2.2) (hs : RefS M.1 M.2.2.2) (h1 : M.2.1 0 17 = M.2.1 94 126) (h2 : (M.2.1 94 126).toInt ≤ 34) (h3 : ∀ k : Nat, (k : Int) < (M.2.1 94 126).toInt → M.2.1 92 k = M.2.1 186 k) (a : Int32) : ∃ r, f_X11_octet 0 a M = some r ∧ f_X12_octet 94 a M = some r := by
  unfold f_X11_octet f_X12_octet
  rw [sRc_of (cs0 hc), sRc_of (rs94 hs), gI_of (cs0 hc), gI_of (rs94 hs), gR_of (cs0 hc) (cr0_16 hc), gR_of (rs94 hs) (rr125 hs)]
  simp only [Option.bind_some, h1]
  have e0 : (0 : Int32).toInt = 0 := rfl
  by_cases c1 : a < 0
  · rw [if_pos c1, if_pos c1]; exact both rfl
  · rw [if_neg c1, if_neg c1]
    have c1' := le_i.mp (Int32.not_lt.mp c1)
    by_cases c2 : M.2.1 94 126 ≤ a
    · rw [if_pos c2, if_pos c2]; exact both rfl
    · rw [if_neg c2, if_neg c2]
      have c2' := lt_i.mp (Int32.not_le.mp c2)
      rw [ldI_of (cs92 hc) (by omega), ldI_of (rs186 hs) (by omega), Option.bind_some, Option.bind_some, h3 _ (by omega)]
      exact both rfl
theorem ok_kept (hc : ClsS M.1 M.2.2.2) (hs : RefS M.1 M.2.2.2) (h1 : M.2.1 54 7 = M.2.1 140 27) (h2 : 0 ≤ (M.2.1 140 27).toInt ∧ (M.2.1 140 27).toInt ≤ 40) (h3 : ∀ k : Nat, (k : Int) < 3 * (M.2.1 140 27).toInt → M.2.1 59 k = M.2.1 140 (28 + k)) (a b : Int32) : ∃ r, f_X11_kept 0 a b M = some r ∧ f_X12_kept 94 a b M = some r := by
  unfold f_X11_kept f_X12_kept
  have e0 : (0 : Int32).toInt = 0 := rfl
  have e3 : (3 : Int32).toInt = 3 := rfl
  have e1 : (1 : Int32).toInt = 1 := rfl
  have e27 : (27 : Int32).toInt = 27 := rfl
  have e28 : (28 : Int32).toInt = 28 := rfl
  have f0 : (0 : Int64).toInt = 0 := rfl
  have f2 : (2 : Int64).toInt = 2 := rfl
  rw [sRc_of (cs0 hc), sRc_of (rs94 hs)]
  simp only [gR_of (cs0 hc) (cr0_4 hc), gR_of (rs94 hs) (rr59 hs), gI_of (cs54 hc), gR_of (cs54 hc) (cr54_6 hc), Option.bind_some, isIn_of, i64, h1]
  rw [ldI_of (rs140 hs) (by rw [e27]; omega), Option.bind_some, e27]
  show ∃ r, _ ∧ (if bI (_ ∧ _ ≤ ((M.2.1 140 27) - 1).toInt) = 0 then _ else _) = some r
  have es : (M.2.1 140 27 - 1).toInt = (M.2.1 140 27).toInt - 1 := by rw [sub_i (by omega) (by omega), e1]
  rw [es]
  by_cases ha : 0 ≤ a.toInt ∧ a.toInt < (M.2.1 140 27).toInt
  · rw [if_neg (fun h => by have := lt_i.mp h; omega), if_neg (fun h => by have := le_i.mp h; omega), if_neg (fun h => bI_0.mp h (by omega))]
    by_cases hb : 0 ≤ b.toInt ∧ b.toInt < 3
    · rw [if_neg (fun h => by have := lt_i.mp h; omega), if_pos (lt_i.mpr (by omega)), if_neg (fun h => bI_0.mp h (by omega))]
      have em : (a * (3 : Int32)).toInt = a.toInt * 3 := mulc 3 rfl (by omega) (by omega)
      have ei : (a * (3 : Int32) + b).toInt = a.toInt * 3 + b.toInt := by rw [add_i (by omega) (by omega), em]
      have em2 : ((3 : Int32) * a).toInt = 3 * a.toInt := cmul 3 rfl (by omega) (by omega)
      have ei2 : ((28 : Int32) + (3 : Int32) * a).toInt = 28 + 3 * a.toInt := by rw [add_i (by omega) (by omega), em2, e28]
      have ei3 : ((28 : Int32) + (3 : Int32) * a + b).toInt = 28 + 3 * a.toInt + b.toInt := by rw [add_i (by omega) (by omega), ei2]
      rw [ldI_of (cs59 hc) (by rw [ei]; omega), ldI_of (rs140 hs) (by rw [ei3]; omega), Option.bind_some, Option.bind_some, ei, ei3, h3 _ (by omega), show 28 + (a.toInt * 3 + b.toInt).toNat = (28 + 3 * a.toInt + b.toInt).toNat by omega]
      exact both rfl
    · rw [if_pos (bI_0.mpr (by omega))]
      refine ⟨-1, ?_, rfl⟩
      by_cases q : b < 0
      · rw [if_pos q]
      · rw [if_neg q]
        have := le_i.mp (Int32.not_lt.mp q)
        rw [if_neg (fun h => by have := lt_i.mp h; omega)]
  · rw [if_pos (bI_0.mpr (by omega))]
    refine ⟨-1, ?_, rfl⟩
    by_cases q : a < 0
    · rw [if_pos q]
    · rw [if_neg q]
      have := le_i.mp (Int32.not_lt.mp q)
      rw [if_pos (le_i.mpr (by omega))]
end SM
