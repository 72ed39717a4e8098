/-! THE REFERENCE lays waits and drives for a question: all cars -/
section RF2
variable {M : sMem} {G P E C W : Nat} {c0 c1 c2 : List Nat} {w : Nat → Int32} {u : Nat → Nat → Int32}
theorem r_fillC (hR : RV u M) (hu : DU u G P E C W c0 c1 c2) (hLd : Laid u M G E c0 (LF w)) (hw : WG w G P E C) (h140 : ∀ i, i < 27 → M.2.1 140 i = w i) (hup : ∀ N, Fr pQw q0 M N → f_X12_upSet 94 N = some (nI (upF w G))) (hup2 : upF w G < 64) (v1 : Int32) : ∃ N, sItr (fun a : (Int32 × sMem) => f_X12_ask_K187 94 v1 a.1 a.2) sFuel (0, M) = some N ∧ Fr pQw q0 M N ∧ ∀ c, c < C → N.2.1 142 c = wtS u c0 G E W P w c ∧ ∀ p, p < P → N.2.1 143 (7 * c + p) = drvF u (cw u c0 G E w) W P (mnS u c) (atS w c) p := by
  have hb := hu.2.1
  have hs := hR.1
  obtain ⟨N, b1, b2⟩ := itr_up (f := fun a : (Int32 × sMem) => f_X12_ask_K187 94 v1 a.1 a.2) (fun j N => Fr pQw q0 M N ∧ ∀ c, c < j → N.2.1 142 c = wtS u c0 G E W P w c ∧ ∀ p, p < P → N.2.1 143 (7 * c + p) = drvF u (cw u c0 G E w) W P (mnS u c) (atS w c) p) (fun N => Fr pQw q0 M N ∧ ∀ c, c < C → N.2.1 142 c = wtS u c0 G E W P w c ∧ ∀ p, p < P → N.2.1 143 (7 * c + p) = drvF u (cw u c0 G E w) W P (mnS u c) (atS w c) p) C (by omega) (by
    rintro j N hj ⟨i1, i2⟩
    dsimp only
    have hsN := i1.hs hs
    have RN : RV u N := hR.fr i1 (fun a k h1 h2 => pQw_n (beq_eq_false_iff_ne.mpr (by omega)) (by omega) (by omega))
    unfold f_X12_ask_K187 f_X12_ask_L208
    rw [(r_many hsN).2.2.2.1, Option.bind_some, RN.2 131 8 (by decide) (by decide), hu.1.2.2.2.1]
    by_cases q : j = C
    · right
      subst q
      rw [if_pos (nI_le (Nat.le_refl _) (by omega))]
      exact ⟨N, rfl, i1, i2⟩
    · left
      refine ⟨by omega, ?_⟩
      have LN : Laid u N G E c0 (LF w) := fun g m hg hm => by rw [i1.i rfl]; exact hLd g m hg hm
      obtain ⟨N1, n1, n2⟩ := r_wait (c := j) RN hu LN hw (fun i h1 h2 => by rw [i1.i rfl]; exact h140 i (by omega)) ⟨by rw [i1.i rfl]; exact h140 _ (by omega), by rw [i1.i rfl]; exact h140 _ (by omega)⟩ (by omega)
      have hs1 := n2.hs hsN
      obtain ⟨N2, hN2⟩ : ∃ N2, N2 = wrI N1 142 j (wtS u c0 G E W P w j) := ⟨_, rfl⟩
      have F2 : Fr pQw q0 M N2 := by rw [hN2]; exact (i1.tr (n2.mono (fun _ _ z => pQw_d z) (fun _ _ z => z))).wi rfl
      have hs2 := F2.hs hs
      have R2 : RV u N2 := hR.fr F2 (fun a k h1 h2 => pQw_n (beq_eq_false_iff_ne.mpr (by omega)) (by omega) (by omega))
      obtain ⟨N3, m1, m2, m3, m4, m5⟩ := r_fillP (M := N2) (c := j) R2 hu (fun g m hg hm => by rw [F2.i rfl]; exact hLd g m hg hm) hw (fun i hi => by rw [F2.i rfl]; exact h140 i hi) (fun N hN => hup N (F2.tr hN)) hup2 (by omega) v1
      rw [if_neg (nI_ge (by omega) (by omega)), gr94_66 hsN, Option.bind_some, n1]
      dsimp only [Option.bind_some]
      rw [show stI N1 142 (nI j) (wtS u c0 G E W P w j) = some N2 from (by rw [hN2]; exact st142 hs1 (by omega)), Option.bind_some, m1, Option.bind_some]
      unfold f_X12_ask_B252
      rw [nI_1]
      refine ⟨N3, rfl, F2.tr m2, fun c hc => ?_⟩
      by_cases y : c = j
      · subst y
        exact ⟨by rw [m4, hN2, wrI_eq], m3⟩
      · obtain ⟨g1, g2⟩ := i2 c (by omega)
        exact ⟨by rw [m4, hN2, wrI_ne (by omega), n2.i rfl]; exact g1, fun p hp => by rw [m5 _ (by omega), hN2, wrI_ne (by omega), n2.i rfl]; exact g2 p hp⟩) (i := 0) (s := M) (by omega) ⟨Fr.rf, fun c hc => by omega⟩
  exact ⟨N, b1, b2⟩
end RF2
