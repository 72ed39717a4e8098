/-! ACTS: chance, all of it -/
noncomputable def chI (u : Nat → Nat → Int32) (c0 c1 c2 : List Nat) (G P E C W v : Nat) (w : Nat → Int32) (kc : Nat) (K : Nat → Int32) : Nat → Nat × (Nat → Int32) × Nat × (Nat → Int32) × Int32
  | 0 => (v, w, kc, K, 0)
  | i + 1 => (chV u E (chI u c0 c1 c2 G P E C W v w kc K i).1, dayS u c0 c1 c2 G P E C W (chW u E (chI u c0 c1 c2 G P E C W v w kc K i).1 (chI u c0 c1 c2 G P E C W v w kc K i).2.1), kpN (chI u c0 c1 c2 G P E C W v w kc K i).2.2.1, kpD u c0 G P E C W (chW u E (chI u c0 c1 c2 G P E C W v w kc K i).1 (chI u c0 c1 c2 G P E C W v w kc K i).2.1) (chI u c0 c1 c2 G P E C W v w kc K i).2.2.1 (chI u c0 c1 c2 G P E C W v w kc K i).2.2.2.1, if pgY u E (chI u c0 c1 c2 G P E C W v w kc K i).1 = true then (chI u c0 c1 c2 G P E C W v w kc K i).2.2.2.2 + 1 else (chI u c0 c1 c2 G P E C W v w kc K i).2.2.2.2)
section ACG
variable {M N N1 N2 N3 N4 : sMem} {D Do G P E C W k e c g m s n pc pn kc d v : Nat} {c0 c1 c2 : List Nat} {w w' K K' : Nat → Int32} {u : Nat → Nat → Int32}
theorem chI_ok (hu : DU u G P E C W c0 c1 c2) (hw : WG w G P E C) (hd : w 0 = nI d) (hv : v < 2147483648) : ∀ i, d + i ≤ 999 → WG (chI u c0 c1 c2 G P E C W v w kc K i).2.1 G P E C ∧ (chI u c0 c1 c2 G P E C W v w kc K i).2.1 0 = nI (d + i) ∧ (chI u c0 c1 c2 G P E C W v w kc K i).1 < 2147483648
  | 0, _ => ⟨hw, hd, hv⟩
  | i + 1, hi => by
    obtain ⟨h1, h2, h3⟩ := chI_ok hu hw hd hv i (by omega)
    obtain ⟨g1, g2⟩ := chW_ok (u := u) (v := (chI u c0 c1 c2 G P E C W v w kc K i).1) h1 hu.2.1.2.2.1
    refine ⟨WG_day hu g1 (g2.trans h2) (by omega), ?_, chV_lt⟩
    show dayS u c0 c1 c2 G P E C W _ 0 = _
    rw [day_0, g2, h2]
    exact nI_1 (d + i)
theorem sd_cd {a k : Nat} (h : pCd a k = false) : pSd a k = false := imF (fun z => by unfold pSd at z; unfold pCd pPs pRow; simp only [Bool.or_eq_true, Bool.and_eq_true, beq_iff_eq, decide_eq_true_eq] at z ⊢; omega) h
theorem sr_dy {a k : Nat} (h : pDy a k = false) : pSr a k = false := imF (fun z => by unfold pSr at z; unfold pDy; simp only [Bool.or_eq_true, Bool.and_eq_true, beq_iff_eq, decide_eq_true_eq] at z ⊢; omega) h
theorem sr_qd {a k : Nat} (h : qRd a k = false) : qSr a k = false := imF (fun z => by unfold qSr at z; unfold qRd qDy; simp only [Bool.or_eq_true, Bool.and_eq_true, beq_iff_eq, decide_eq_true_eq] at z ⊢; omega) h
theorem ok_chance (h : IX M D Do G P E C W c0 c1 c2 n pc pn) (a : Int32) : ∃ r M1 M2, f_X11_chance 0 a M = some (r, M1) ∧ f_X12_chance 94 a M1 = some (r, M2) ∧ Inv M2 := by
  have k := h.1
  have hc := k.hc
  have hb := k.n.2
  have hu := k.2.1
  obtain ⟨d, hd9, hd⟩ := k.day
  obtain ⟨hV, hw⟩ := k.2.2.2.2.1
  have e1 : (1 : Int32).toInt = 1 := rfl
  by_cases q : 0 < (uR M 130 2).toInt ∧ ((1 : Int) ≤ a.toInt ∧ a.toInt ≤ 40) ∧ d + a.toInt ≤ 999
  · obtain ⟨j, hj, rfl⟩ : ∃ j, j < 41 ∧ a = nI j := by
      rcases arg_c a 41 (by decide) with z | z
      · exact z
      · exact absurd (by omega) z
    have ej : (nI j).toInt = j := nI_i (by omega)
    have hdj : d + j ≤ 999 := by omega
    obtain ⟨N1, s, a1, a2, a3, a4, a5, a6, hc1, hs1, vv⟩ := act_pre h
    obtain ⟨k1, eu1⟩ := KI.rm h a2
    obtain ⟨kc, kc1, kc2, kc3⟩ := k.2.2.2.2.2.2.1
    obtain ⟨sd1, sd2⟩ := h.2.2.2.2.1.1
    obtain ⟨v, hv2, hv⟩ : ∃ v, v < 2147483648 ∧ M.2.1 0 19 = nI v := ⟨(M.2.1 0 19).toInt.toNat, by have := (M.2.1 0 19).toInt_lt; omega, eq_i.mpr (by have := (M.2.1 0 19).toInt_lt; rw [nI_i (by omega)]; omega)⟩
    have hl : 187 ≤ M.1.length := k.cv.ln
    have e140 : N1.2.1 140 = M.2.1 140 := funext fun k => vv _ _ (by decide) (by decide)
    have hV1 := k1.2.2.2.2.1.1
    rw [e140] at hV1
    have hCR0 : CR N1 G P E C (M.2.1 140) kc (fun x => M.2.1 140 (28 + x)) := ⟨hV1, kc1, by rw [vv _ _ (by decide) (by decide)]; exact kc3, fun x hx => by rw [vv _ _ (by decide) (by decide)]; exact h.2.1.2.2 kc x kc1 kc2 hx⟩
    obtain ⟨Z, hZ⟩ : ∃ Z, Z = chI (uR M) c0 c1 c2 G P E C W v (M.2.1 140) kc (fun x => M.2.1 140 (28 + x)) := ⟨_, rfl⟩
    have zok : ∀ i, d + i ≤ 999 → WG (Z i).2.1 G P E C ∧ (Z i).2.1 0 = nI (d + i) ∧ (Z i).1 < 2147483648 := by rw [hZ]; exact chI_ok hu hw hd hv2
    have zs : ∀ i, Z (i + 1) = (chV (uR M) E (Z i).1, dayS (uR M) c0 c1 c2 G P E C W (chW (uR M) E (Z i).1 (Z i).2.1), kpN (Z i).2.2.1, kpD (uR M) c0 G P E C W (chW (uR M) E (Z i).1 (Z i).2.1) (Z i).2.2.1 (Z i).2.2.2.1, if pgY (uR M) E (Z i).1 = true then (Z i).2.2.2.2 + 1 else (Z i).2.2.2.2) := fun i => by rw [hZ]; rfl
    have z0 : Z 0 = (v, M.2.1 140, kc, fun x => M.2.1 140 (28 + x), 0) := by rw [hZ]; rfl
    clear hZ
    have hl1 : 187 ≤ N1.1.length := k1.cv.ln
    -- the class
    obtain ⟨N2, o1, o2, o3, o4, o5⟩ : ∃ N2, f_X11_chance_L22 0 (nI j) 0 0 N1 = some ((Z j).2.2.2.2, N2) ∧ FrB pCd (qCl 73) rRow N1 N2 ∧ RowsI (uR M) N2 G c0 ∧ CR N2 G P E C (Z j).2.1 (Z j).2.2.1 (Z j).2.2.2.1 ∧ N2.2.1 0 19 = nI (Z j).1 := by
      unfold f_X11_chance_L22
      obtain ⟨b, b1, b2⟩ := itr_g (f := fun a : (Int32 × Int32 × sMem) => f_X11_chance_K22 0 (nI j) a.1 a.2.1 a.2.2) (fun i (N : sMem) => ((Z i).2.2.2.2, nI i, N)) (fun i N => FrB pCd (qCl 73) rRow N1 N ∧ RowsI (uR M) N G c0 ∧ CR N G P E C (Z i).2.1 (Z i).2.2.1 (Z i).2.2.2.1 ∧ N.2.1 0 19 = nI (Z i).1) (fun b => b.1 = (Z j).2.2.2.2 ∧ FrB pCd (qCl 73) rRow N1 b.2 ∧ RowsI (uR M) b.2 G c0 ∧ CR b.2 G P E C (Z j).2.1 (Z j).2.2.1 (Z j).2.2.2.1 ∧ b.2.2.1 0 19 = nI (Z j).1) j (by omega) (by
        rintro i N hi ⟨i1, i2, i3, i4⟩
        dsimp only
        by_cases q : i = j
        · right
          subst q
          unfold f_X11_chance_K22
          rw [if_pos (nI_le (Nat.le_refl _) (by omega))]
          exact ⟨_, rfl, rfl, i1, i2, i3, i4⟩
        · left
          have hcN := i1.hc (by decide) hc1
          have hVN : CV (uR M) N D G P E C W c0 c1 c2 := by
            rw [← eu1]
            exact k1.cv.fb i1 (fun a k z => by unfold pCd pPs pRow at z; simp only [Bool.or_eq_true, Bool.and_eq_true, beq_iff_eq, decide_eq_true_eq] at z; omega) offR_row
          obtain ⟨w1, w2, w3⟩ := zok i (by omega)
          obtain ⟨A, t1, t2, t3, t4⟩ := c_turn hVN hu i3 w1 i4 (nI j) (Z i).2.2.2.2 (nI i) (nI_ge (by omega) (by omega))
          have hcA := t2.hc hcN
          have hVA : CV (uR M) A D G P E C W c0 c1 c2 := hVN.fr (R := fun _ _ => false) t2.fa (fun a k z => by unfold pSd at z; simp only [Bool.or_eq_true, Bool.and_eq_true, beq_iff_eq] at z; omega) offR_0
          have hIA : RowsI (uR M) A G c0 := i2.fr hcN (t2.fb (R := fun _ _ => false)) (fun _ => rfl) (fun _ _ _ => rfl) (fun _ => rfl)
          obtain ⟨g1, g2⟩ := chW_ok (u := uR M) (v := (Z i).1) w1 hb.2.2.1
          obtain ⟨N', p1, p2, p3, p4⟩ := c_day1 (w := chW (uR M) E (Z i).1 (Z i).2.1) hVA hu hIA (fun x hx => by rw [t2.j rfl, i1.j (by omega) rfl]; exact k1.2.2.2.1.2 x hx) t4 g1 (g2.trans w2) (by omega)
          rw [t1]
          unfold f_X11_chance_B63
          rw [gr0_9 hcA, Option.bind_some, gr0_4 hcA, Option.bind_some, p1]
          dsimp only [Option.bind_some]
          rw [nI_1, zs i]
          refine ⟨by omega, N', rfl, (i1.tr (t2.fb.mono (fun _ _ z => sd_cd z) (fun _ _ _ => rfl) (fun _ _ z => z))).tr (p2.mono (fun a k z => by unfold pCd at z; revert z; cases pPs 54 a k <;> simp) (fun _ _ z => z) (fun _ _ z => z)), p3, p4, ?_⟩
          have hlA : 0 < A.1.length := lt_of_sh (cs0 hcA)
          rw [p2.i hlA rfl]; exact t3) (i := 0) (s := N1) (by omega) ⟨FrB.rf, by rw [← eu1]; exact k1.2.2.2.1.1, by rw [z0]; exact hCR0, by rw [z0, a2.2.1 _ _ (by omega) (by have := a2.2.2.2.2.1.1; omega) (by omega)]; exact hv⟩
      rw [z0] at b1
      replace b1 : sItr (fun a : (Int32 × Int32 × sMem) => f_X11_chance_K22 0 (nI j) a.1 a.2.1 a.2.2) sFuel (0, 0, N1) = some b := b1
      rw [b1, Option.bind_some]
      obtain ⟨x, N⟩ := b
      obtain ⟨b2, b3⟩ := b2
      dsimp only at b2 b3
      subst b2
      exact ⟨N, rfl, b3⟩
    have hs2 : RefS N2.1 N2.2.2.2 := o2.hs (by decide) hs1
    obtain ⟨N3, b1, b2, b3, b4, b5⟩ := act_keep (N := N2) h hs2 ⟨by rw [o2.i (by omega) (pCd_o (by decide)), vv _ _ (by decide) (by decide)], by rw [o2.i (by omega) (pCd_o (by decide)), vv _ _ (by decide) (by decide)]⟩
    have hs3 := b2.hs hs2
    have v3 : ∀ a k, 94 ≤ a → a < 187 → a ≠ 155 → ¬ (a = 94 ∧ (k = 85 ∨ k = 86)) → N3.2.1 a k = M.2.1 a k := fun a k h1 h2 h3 h4 => by rw [b2.i (pKe_n h3 h4), o2.i (by omega) (pCd_o (by omega)), vv _ _ (by omega) h2]
    have hR3 : RV (uR M) N3 := ⟨hs3, fun a k h1 h2 => by rw [v3 _ _ (by omega) (by omega) (by omega) (by omega)]; exact uR_eq h1 h2⟩
    have hRR0 : RR N3 (M.2.1 140) kc (fun x => M.2.1 140 (28 + x)) := ⟨fun i _ => v3 _ _ (by decide) (by decide) (by decide) (by omega), kc1, by rw [v3 _ _ (by decide) (by decide) (by decide) (by omega)]; exact kc2, fun x hx => v3 _ _ (by decide) (by decide) (by decide) (by omega)⟩
    have hJ3 : N3.2.2.1 94 87 = lN v := by
      rw [b2.j rfl, o2.j (by omega) rfl, a2.2.2.1 _ _ (by omega), sd2, hv, nI_l (by omega)]
    -- the reference
    obtain ⟨N4, g1, g2, g3, g4⟩ : ∃ N4, f_X12_chance_L25 94 (nI j) 0 0 N3 = some ((Z j).2.2.2.2, N4) ∧ Fr pDy qRd N3 N4 ∧ RR N4 (Z j).2.1 (Z j).2.2.1 (Z j).2.2.2.1 ∧ N4.2.2.1 94 87 = lN (Z j).1 := by
      unfold f_X12_chance_L25
      obtain ⟨b, b1, b2⟩ := itr_g (f := fun a : (Int32 × Int32 × sMem) => f_X12_chance_K25 94 (nI j) a.1 a.2.1 a.2.2) (fun i (N : sMem) => ((Z i).2.2.2.2, nI i, N)) (fun i N => Fr pDy qRd N3 N ∧ RR N (Z i).2.1 (Z i).2.2.1 (Z i).2.2.2.1 ∧ N.2.2.1 94 87 = lN (Z i).1) (fun b => b.1 = (Z j).2.2.2.2 ∧ Fr pDy qRd N3 b.2 ∧ RR b.2 (Z j).2.1 (Z j).2.2.1 (Z j).2.2.2.1 ∧ b.2.2.2.1 94 87 = lN (Z j).1) j (by omega) (by
        rintro i N hi ⟨i1, i2, i3⟩
        dsimp only
        by_cases q : i = j
        · right
          subst q
          unfold f_X12_chance_K25
          rw [if_pos (nI_le (Nat.le_refl _) (by omega))]
          exact ⟨_, rfl, rfl, i1, i2, i3⟩
        · left
          obtain ⟨w1, w2, w3⟩ := zok i (by omega)
          have hRN := hR3.fr i1 (fun a k h1 h2 => dy_130 h1 h2)
          obtain ⟨A, t1, t2, t3, t4⟩ := r_turn hRN hu i2 w1 w3 i3 (nI j) (Z i).2.2.2.2 (nI i) (nI_ge (by omega) (by omega))
          have hRA := hRN.fr t2 (fun a k h1 h2 => by unfold pSr; rw [beq_eq_false_iff_ne.mpr (show a ≠ 140 by omega)]; rfl)
          obtain ⟨g1, g2⟩ := chW_ok (u := uR M) (v := (Z i).1) w1 hb.2.2.1
          obtain ⟨N', p1, p2, p3, p4⟩ := r_day1 (w := chW (uR M) E (Z i).1 (Z i).2.1) hRA hu t4 g1 (by rw [t2.i rfl, i1.i rfl, v3 _ _ (by decide) (by decide) (by decide) (by omega)]; exact k.2.2.2.2.2.1)
          rw [t1]
          unfold f_X12_chance_B94
          rw [p1, Option.bind_some, nI_1, zs i]
          refine ⟨by omega, N', rfl, (i1.tr (t2.mono (fun _ _ z => sr_dy z) (fun _ _ z => sr_qd z))).tr (p2.mono (fun _ _ z => z) (fun a k z => by unfold qRd at z; revert z; cases qDy a k <;> simp)), p4, ?_⟩
          rw [p2.j rfl]; exact t3) (i := 0) (s := N3) (by omega) ⟨Fr.rf, by rw [z0]; exact hRR0, by rw [z0]; exact hJ3⟩
      rw [z0] at b1
      replace b1 : sItr (fun a : (Int32 × Int32 × sMem) => f_X12_chance_K25 94 (nI j) a.1 a.2.1 a.2.2) sFuel (0, 0, N3) = some b := b1
      rw [b1, Option.bind_some]
      obtain ⟨x, N⟩ := b
      obtain ⟨b2, b3⟩ := b2
      dsimp only at b2 b3
      subst b2
      exact ⟨N, rfl, b3⟩
    obtain ⟨wl, wl2, wl3⟩ := zok j hdj
    refine ⟨(Z j).2.2.2.2, N2, N4, ?_, ?_, (h.actD a2 a3 a4 a5 a6 o2 o3 b2 b3 b4 b5 g2 o4 g3 wl ?_).inv⟩
    · unfold f_X11_chance
      rw [sr0 hc, c_canPass k hd hd9, Option.bind_some, if_neg (bI_y q), a1, Option.bind_some, o1]
    · unfold f_X12_chance
      have hkN2 : f_X12_isAhead 94 (nI j) 1 40 N2 = some (bI (0 < (uR M 130 2).toInt ∧ (((1 : Nat) : Int) ≤ (nI j).toInt ∧ (nI j).toInt ≤ ((40 : Nat) : Int)) ∧ d + (nI j).toInt ≤ 999)) := by
        have i2 : ∀ a k, 94 ≤ a → a < 187 → N2.2.1 a k = M.2.1 a k := fun a k h1 h2 => by rw [o2.i (by omega) (pCd_o (by omega)), vv _ _ (by omega) h2]
        have := r_isAhead (M := M) k hd hd9 (nI j) (lo := 1) (hi := 40) (by decide) (by decide)
        unfold f_X12_isAhead at this ⊢
        rw [sr94 k.1, gi94 k.1, gr94_59 k.1] at this
        rw [sr94 hs2, gi94 hs2, gr94_59 hs2, i2 94 57 (by decide) (by decide)]
        rw [show ∀ c, (some 140).bind (fun x3 => (ldI 14 N2 x3 0).bind c) = (some 140).bind (fun x3 => (ldI 14 M x3 0).bind c) from fun c => by
          rw [Option.bind_some, Option.bind_some, show ldI 14 N2 140 0 = some (N2.2.1 140 0) from ld140 hs2 (j := 0) (by decide), show ldI 14 M 140 0 = some (M.2.1 140 0) from ld140 k.1 (j := 0) (by decide), i2 _ _ (by decide) (by decide)]]
        exact this
      rw [sr94 hs2, hkN2, Option.bind_some, if_neg (bI_y ⟨q.1, by omega, by omega⟩), b1, Option.bind_some, g1]
    · have e19 : N4.2.1 0 19 = nI (Z j).1 := by rw [g2.i (pDy_o (by omega)), b2.i (pKe_n (by decide) (by omega))]; exact o5
      refine ⟨by rw [e19, nI_i wl3]; omega, ?_⟩
      rw [e19, g4, nI_l wl3]
  · obtain ⟨p1, p2, p3⟩ := bad_days h
    have kb : KI (wrI M 93 3 (M.2.1 93 3 + 1)) D G P E C W c0 c1 c2 := k.rf
    have ra := r_isAhead kb (by rw [wrI_ne (by omega)]; exact hd) hd9 a (lo := 1) (hi := 40) (by decide) (by decide)
    replace ra : f_X12_isAhead 94 a 1 40 (wrI M 93 3 (M.2.1 93 3 + 1)) = _ := ra
    have eub : uR (wrI M 93 3 (M.2.1 93 3 + 1)) = uR M := uR_cong (fun a k h1 h2 => wrI_ne (by omega))
    refine ⟨-1, wrI M 93 3 (M.2.1 93 3 + 1), rfM M 3, ?_, ?_, p3⟩
    · unfold f_X11_chance
      rw [sr0 hc, c_canPass k hd hd9, Option.bind_some, if_pos (bI_0.mpr q)]
      exact p1
    · unfold f_X12_chance
      rw [sr94 kb.1, ra, Option.bind_some, eub, if_pos (bI_0.mpr (fun z => q ⟨z.1, by omega, by omega⟩))]
      exact p2
end ACG
