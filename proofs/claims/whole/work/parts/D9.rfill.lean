/-! THE REFERENCE lays waits and drives for a question -/
section RFL
variable {M N : sMem} {G P E C W c : Nat} {c0 c1 c2 : List Nat} {w : Nat → Int32} {u : Nat → Nat → Int32}
def pQw : Nat → Nat → Bool := fun a k => pDr a k || a == 142 || a == 143
theorem pQw_n {a k : Nat} (h : pDr a k = false) (h1 : a ≠ 142) (h2 : a ≠ 143) : pQw a k = false := by unfold pQw; rw [h, beq_eq_false_iff_ne.mpr h1, beq_eq_false_iff_ne.mpr h2]; rfl
theorem pQw_d {a k : Nat} (h : pQw a k = false) : pDr a k = false := by
  revert h; unfold pQw; cases pDr a k <;> simp
theorem r_fillP (hR : RV u M) (hu : DU u G P E C W c0 c1 c2) (hLd : Laid u M G E c0 (LF w)) (hw : WG w G P E C) (h140 : ∀ i, i < 27 → M.2.1 140 i = w i) (hup : ∀ N, Fr pQw q0 M N → f_X12_upSet 94 N = some (nI (upF w G))) (hup2 : upF w G < 64) (hc : c < C) (v1 : Int32) : ∃ N, sItr (fun a : (Int32 × sMem) => f_X12_ask_K208 94 v1 (nI c) a.1 a.2) sFuel (0, M) = some N ∧ Fr pQw q0 M N ∧ (∀ p, p < P → N.2.1 143 (7 * c + p) = drvF u (cw u c0 G E w) W P (mnS u c) (atS w c) p) ∧ (∀ k, N.2.1 142 k = M.2.1 142 k) ∧ ∀ k, k < 7 * c → N.2.1 143 k = M.2.1 143 k := by
  have hb := hu.2.1
  have hcar := hu.car hc
  have hs := hR.1
  obtain ⟨w1, w2, w3, w4, w5, w6⟩ := hw.2.2.2 c hc
  obtain ⟨N, b1, b2⟩ := itr_up (f := fun a : (Int32 × sMem) => f_X12_ask_K208 94 v1 (nI c) a.1 a.2) (fun j N => Fr pQw q0 M N ∧ (∀ p, p < j → N.2.1 143 (7 * c + p) = drvF u (cw u c0 G E w) W P (mnS u c) (atS w c) p) ∧ (∀ k, N.2.1 142 k = M.2.1 142 k) ∧ ∀ k, k < 7 * c → N.2.1 143 k = M.2.1 143 k) (fun N => Fr pQw q0 M N ∧ (∀ p, p < P → N.2.1 143 (7 * c + p) = drvF u (cw u c0 G E w) W P (mnS u c) (atS w c) p) ∧ (∀ k, N.2.1 142 k = M.2.1 142 k) ∧ ∀ k, k < 7 * c → N.2.1 143 k = M.2.1 143 k) P (by omega) (by
    rintro j N hj ⟨i1, i2, i3, i4⟩
    dsimp only
    have hsN := i1.hs hs
    have RN : RV u N := hR.fr i1 (fun a k h1 h2 => pQw_n (beq_eq_false_iff_ne.mpr (by omega)) (by omega) (by omega))
    unfold f_X12_ask_K208
    rw [(r_many hsN).2.1, Option.bind_some, RN.2 131 6 (by decide) (by decide), hu.1.2.1]
    by_cases q : j = P
    · right
      subst q
      rw [if_pos (nI_le (Nat.le_refl _) (by omega))]
      exact ⟨N, rfl, i1, i2, i3, i4⟩
    · left
      refine ⟨by omega, ?_⟩
      have LN : Laid u N G E c0 (LF w) := fun g m hg hm => by rw [i1.i rfl]; exact hLd g m hg hm
      obtain ⟨r, N1, n1, n2, n3⟩ := r_drive (fr := atS w c) (to := j) (m0 := mnS u c) (up := upF w G) RN hu LN hup2 w3 (by omega) (by omega)
      have hs1 := n2.hs hsN
      have er : r = drvF u (cw u c0 G E w) W P (mnS u c) (atS w c) j := (drvF_of n3).symm
      rw [if_neg (nI_ge (by omega) (by omega)), gr94_67 hsN, Option.bind_some, r_placeOf hsN (by omega), Option.bind_some, i1.i rfl, h140 _ (by omega), w1, r_minuteOf hsN (by omega), Option.bind_some, RN.2 136 _ (by decide) (by decide), hcar.1, hup N i1, Option.bind_some, n1]
      dsimp only [Option.bind_some]
      rw [show (7 : Int32) * nI c + nI j = nI (7 * c + j) from (by rw [show (7 : Int32) = nI 7 from rfl, pk_mul, nI_add]), st143 hs1 (by omega), Option.bind_some, nI_1]
      refine ⟨_, rfl, (i1.tr (n2.mono (fun _ _ z => pQw_d z) (fun _ _ z => z))).wi rfl, fun p hp => ?_, fun k => ?_, fun k hk => ?_⟩
      · by_cases y : p = j
        · subst y; rw [wrI_eq, er]
        · rw [wrI_ne (by omega), n2.i rfl]; exact i2 p (by omega)
      · rw [wrI_ne (by omega), n2.i rfl]; exact i3 k
      · rw [wrI_ne (by omega), n2.i rfl]; exact i4 k hk) (i := 0) (s := M) (by omega) ⟨Fr.rf, fun p hp => by omega, fun _ => rfl, fun _ _ => rfl⟩
  exact ⟨N, b1, b2⟩
end RFL
