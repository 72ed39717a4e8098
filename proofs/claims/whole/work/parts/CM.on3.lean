/-! CALLS: on, both -/
section OND
variable {M N : sMem} {D Do G P E C W k e c g m s n pc pn : Nat} {c0 c1 c2 : List Nat} {t : Nat → Nat} {w : Nat → Int32}
theorem onW_ok (hb : G ≤ 6 ∧ P ≤ 7 ∧ E ≤ 5 ∧ C ≤ 5) (hg : gdIm t G P E C) (hw : WG w G P E C) : WG (onW t G E C w) G P E C := by
  obtain ⟨g1, g2, g3, g4⟩ := hg
  refine ⟨⟨_, g1, onW_0⟩, fun g hg => ?_, fun e he => ?_, fun c hc => ?_⟩
  · by_cases q : g < G
    · rw [onW_g q hb.1]
      have := g2 g q
      rcases (show t (2 + g) = 0 ∨ t (2 + g) = 1 by omega) with z | z
      · rw [z]; exact Or.inl rfl
      · rw [z]; exact Or.inr ⟨q, rfl⟩
    · have : onW t G E C w (1 + g) = w (1 + g) := by
        unfold onW
        rw [if_neg (by omega), if_pos (by omega), if_neg (by omega)]
      rw [this]; exact hw.2.1 g hg
  · have x := g3 e he
    have e1 := onW_e (t := t) (G := G) (C := C) (w := w) he hb.2.2.1
    have : LF (onW t G E C w) e = t (2 + G + e) := by unfold LF; rw [e1, nI_i (by omega)]; rfl
    rw [this, e1]; exact ⟨rfl, by omega⟩
  · obtain ⟨x1, x2, x3, x4⟩ := g4 c hc
    obtain ⟨w0, w1, w2⟩ := onW_c (t := t) (G := G) (E := E) (w := w) hc hb.2.2.2
    have h1 : atS (onW t G E C w) c = t (2 + G + E + 4 * c) := by unfold atS; rw [w0, nI_i (by omega)]; rfl
    have h2 : gaS (onW t G E C w) c = t (2 + G + E + 4 * c + 1) := by unfold gaS; rw [w1, nI_i (by omega)]; rfl
    rw [h1, h2, w0, w1, w2]
    exact ⟨rfl, rfl, x1, x2, x3, _, x4, rfl⟩
theorem ok_on (h : IX M D Do G P E C W c0 c1 c2 n pc pn) : ∃ r M1 M2, f_X11_on 0 M = some (r, M1) ∧ f_X12_on 94 M1 = some (r, M2) ∧ Inv M2 := by
  obtain ⟨k, ⟨⟨t1, t2, t3, t4⟩, _, hkp⟩, ⟨ups, ⟨⟨v1, v2, v3, v4, v5, v6⟩, v7⟩⟩, _, ⟨_, t6, _, _⟩, _⟩ := id h
  have hc := k.hc
  have hs := k.1
  have hb := k.n.2
  obtain ⟨hV, hw⟩ := k.2.2.2.2.1
  obtain ⟨n1, n2, n3, n4, n5⟩ := k.n.1
  obtain ⟨kc, kc1, kc2, kc3⟩ := k.2.2.2.2.2.2.1
  obtain ⟨t, ht⟩ : ∃ t : Nat → Nat, t = fun i => (M.2.1 95 i).toInt.toNat := ⟨_, rfl⟩
  have tv : ∀ i, i < n → t i < 256 ∧ M.2.1 95 i = nI (t i) ∧ M.2.1 2 i = nI (t i) := fun i hi => by
    obtain ⟨a1, v, v1, v2⟩ := t4 i hi
    have : t i = v := by rw [ht]; dsimp only; rw [v2, nI_i (by omega)]; rfl
    rw [this, a1]; exact ⟨v1, v2, v2⟩
  have hC : CT (fun i => nI (t i)) n M := ⟨hc, t2, t1, fun i hi => (tv i hi).2.2⟩
  have h57 := k.2.2.2.2.2.2.2
  -- refused
  have bad : ∀ A, Fr pSt6 q0 M A → ∃ B1, f_X11_on_B18 0 A = some (0, B1) ∧ B1 = wrI (wrI A 1 1 0) 93 5 (M.2.1 93 5 + 1) ∧ (∀ x : Int32, x = 0 → ((if x = 0 then (gR 12 127 9 (wrI B1 94 1 0) 94).bind fun x29 => (ldI 14 (wrI B1 94 1 0) x29 5).bind fun x30 => (stI (wrI B1 94 1 0) x29 5 (x30 + 1)).bind fun M31 => some ((0 : Int32), M31) else none) = some (0, wrI (wrI B1 94 1 0) 96 5 (M.2.1 96 5 + 1)))) ∧ Inv (wrI (wrI B1 94 1 0) 96 5 (M.2.1 96 5 + 1)) := fun A hFA => by
    have hcA := hFA.hc hc
    have hsA := hFA.hs hs
    have vA : ∀ a k, ¬ (60 ≤ a ∧ a ≤ 65) → A.2.1 a k = M.2.1 a k := fun a k h1 => hFA.i (p6_n h1)
    obtain ⟨B1, hB1⟩ : ∃ B1, B1 = wrI (wrI A 1 1 0) 93 5 (M.2.1 93 5 + 1) := ⟨_, rfl⟩
    refine ⟨B1, ?_, hB1, fun x hx => ?_, ?_⟩
    · unfold f_X11_on_B18 f_X11_on_B19
      have e := c_refuse (k := 5) (M := wrI A 1 1 0) hcA (by decide)
      rw [wrI_ne (by omega), vA _ _ (by omega)] at e
      rw [gr0_0 hcA, Option.bind_some, pi1 hcA, Option.bind_some, if_pos rfl, show f_X11_refuse 0 5 (wrI A 1 1 0) = _ from e, ← hB1]
      rfl
    · have hsB : RefS (wrI B1 94 1 0).1 (wrI B1 94 1 0).2.2.2 := by rw [hB1]; exact hsA
      rw [if_pos hx, gr94_9 hsB, Option.bind_some, show ldI 14 (wrI B1 94 1 0) 96 5 = some ((wrI B1 94 1 0).2.1 96 5) from ld96 hsB (j := 5) (by decide), Option.bind_some, wrI_ne (by omega), hB1, wrI_ne (by omega), wrI_ne (by omega), vA _ _ (by omega), ← hB1, show ∀ y, stI (wrI B1 94 1 0) 96 5 y = some (wrI (wrI B1 94 1 0) 96 5 y) from fun y => st96 hsB (j := 5) (by decide)]
      rfl
    · obtain ⟨R, hR⟩ : ∃ R, R = wrI (wrI B1 94 1 0) 96 5 (M.2.1 96 5 + 1) := ⟨_, rfl⟩
      rw [← hR]
      have vR : ∀ a k, ¬ (60 ≤ a ∧ a ≤ 65) → ¬ (a = 1 ∧ k = 1) → a ≠ 93 → ¬ (a = 94 ∧ k = 1) → a ≠ 96 → R.2.1 a k = M.2.1 a k := fun a k h1 h2 h3 h4 h5 => by rw [hR, wrI_ne (by omega), wrI_ne h4, hB1, wrI_ne (by omega), wrI_ne h2, vA _ _ h1]
      have FR : Fr nX q0 M R := by
        rw [hR, hB1]
        exact ((((hFA.mono (fun a k z => p6_n (fun y => by
          have : nX a k = true := by (unfold nX; simp only [Bool.or_eq_true, Bool.and_eq_true, beq_iff_eq, decide_eq_true_eq]; omega)
          rw [this] at z; cases z)) (fun _ _ z => z)).wi rfl).wi rfl).wi rfl).wi rfl
      have e140 : R.2.1 140 = M.2.1 140 := funext fun k => vR _ _ (by omega) (by omega) (by omega) (by omega) (by omega)
      refine (h.now (pc' := pc) (pn' := pn) (n' := 0) FR (by rw [e140]; exact hV.sm (fun _ => rfl) (fun j k hj => vR _ _ (by omega) (by omega) (by omega) (by omega) (by omega))) (by rw [e140]; exact hw) ⟨kc, kc1, by rw [e140]; exact kc2, by rw [vR _ _ (by omega) (by omega) (by omega) (by omega) (by omega)]; exact kc3⟩ (hkp.fr (fun k => vR _ _ (by omega) (by omega) (by omega) (by omega) (by omega)) (fun k => vR _ _ (by omega) (by omega) (by omega) (by omega) (by omega))) ⟨⟨v1, v2, by rw [vR _ _ (by omega) (by omega) (by omega) (by omega) (by omega)]; exact v3, by rw [vR _ _ (by omega) (by omega) (by omega) (by omega) (by omega)]; exact v4, by rw [vR _ _ (by omega) (by omega) (by omega) (by omega) (by omega)]; exact v5, by rw [vR _ _ (by omega) (by omega) (by omega) (by omega) (by omega)]; exact v6⟩, fun i hi => (v7 i hi).fr ups (Nat.mod_lt _ (by decide)) FR⟩ ⟨by omega, ?_, ?_, fun i hi => by omega⟩ (fun j hj => ?_)).inv
      · rw [hR, wrI_ne (by omega), wrI_ne (by omega), hB1, wrI_ne (by omega), wrI_eq]; rfl
      · rw [hR, wrI_ne (by omega), wrI_eq]; rfl
      · by_cases q : j = 5
        · subst q
          rw [hR, wrI_ne (by omega), wrI_ne (by omega), wrI_eq, hB1, wrI_eq, t6 5 (by decide)]
        · rw [hR, wrI_ne (by omega), wrI_ne (by omega), wrI_ne (by omega), wrI_ne (by omega), hB1, wrI_ne (by omega), wrI_ne (by omega), wrI_ne (by omega), wrI_ne (by omega), vA _ _ (by omega), vA _ _ (by omega)]
          exact t6 j hj
  -- the reference, refusing
  have rbad : ∀ A B1, Fr pSt6 q0 M A → B1 = wrI (wrI A 1 1 0) 93 5 (M.2.1 93 5 + 1) → (∀ x : Int32, x = 0 → ((if x = 0 then (gR 12 127 9 (wrI B1 94 1 0) 94).bind fun x29 => (ldI 14 (wrI B1 94 1 0) x29 5).bind fun x30 => (stI (wrI B1 94 1 0) x29 5 (x30 + 1)).bind fun M31 => some ((0 : Int32), M31) else none) = some (0, wrI (wrI B1 94 1 0) 96 5 (M.2.1 96 5 + 1)))) → f_X12_isImage 94 (nI n) (wrI B1 94 1 0) = some 0 → f_X12_on 94 B1 = some (0, wrI (wrI B1 94 1 0) 96 5 (M.2.1 96 5 + 1)) := fun A B1 hFA hB1 hr hi => by
    have hsB : RefS B1.1 B1.2.2.2 := by rw [hB1]; exact hFA.hs hs
    have e1 : B1.2.1 94 1 = nI n := by rw [hB1, wrI_ne (by omega), wrI_ne (by omega), hFA.i (p6_n (by omega))]; exact t3
    have := hr 0 rfl
    rw [if_pos rfl] at this
    unfold f_X12_on
    rw [sr94 hsB, gi94 hsB, Option.bind_some, pi94 hsB, Option.bind_some, e1, hi, Option.bind_some, if_pos rfl]
    exact this
  -- what the reference reads there
  have rv : ∀ A B1, Fr pSt6 q0 M A → B1 = wrI (wrI A 1 1 0) 93 5 (M.2.1 93 5 + 1) → RefS (wrI B1 94 1 0).1 (wrI B1 94 1 0).2.2.2 ∧ ∀ a k, 94 ≤ a → ¬ (a = 94 ∧ k = 1) → (wrI B1 94 1 0).2.1 a k = M.2.1 a k := fun A B1 hFA hB1 => ⟨by rw [hB1]; exact hFA.hs hs, fun a k h1 h2 => by rw [wrI_ne h2, hB1, wrI_ne (by omega), wrI_ne (by omega), hFA.i (p6_n (by omega))]⟩
  have esz : (2 : Int32) + nI G + nI E + (4 : Int32) * nI C = nI (2 + G + E + 4 * C) := by rw [show (4 : Int32) = nI 4 from rfl, pk_mul, show (2 : Int32) = nI 2 from rfl, nI_add, nI_add, nI_add]
  unfold f_X11_on
  rw [sr0 hc, c_isTold k, Option.bind_some]
  by_cases qt : 0 < (uR M 130 2).toInt
  · rw [if_neg (bI_y qt)]
    rw [bI_t qt] at h57
    unfold f_X11_readImage
    rw [sr0 hc, k.cv.p0, Option.bind_some, k.cv.g1, Option.bind_some, k.cv.nG, Option.bind_some, Option.bind_some, k.cv.g4, Option.bind_some, k.cv.nE, Option.bind_some, Option.bind_some, k.cv.g5, Option.bind_some, k.cv.nC, Option.bind_some, gr0_0 hc, Option.bind_some, gi1 hc, Option.bind_some, t2, esz, nI_1]
    by_cases q1 : n = 3 + G + E + 4 * C
    · have tb := tv (2 + G + E + 4 * C) (by omega)
      have b0 := c_byteAt hC (k := 2 + G + E + 4 * C) (by omega)
      have esum : sl (M.2.1 2) (2 + G + E + 4 * C) = sl (M.2.1 95) (2 + G + E + 4 * C) := sl_cong (fun i hi => by rw [(tv i (by omega)).2.2, (tv i (by omega)).2.1])
      rw [if_pos (by rw [q1]; congr 1; omega), Option.bind_some, b0, Option.bind_some, Option.bind_some, gr1_0 hc, Option.bind_some, c_sumI (cs2 hc) (by decide) (by omega), Option.bind_some, esum]
      have rim : ∀ B : sMem, RefS B.1 B.2.2.2 → (∀ a k, 94 ≤ a → ¬ (a = 94 ∧ k = 1) → B.2.1 a k = M.2.1 a k) → nI (t (2 + G + E + 4 * C)) = sl (M.2.1 95) (2 + G + E + 4 * C) → ∃ x, f_X12_isImage 94 (nI n) B = some x ∧ ((x = 1 ∧ gdIm t G P E C) ∨ (x = 0 ∧ ¬ gdIm t G P E C)) := fun B hB hv hsum => r_isImg hB ⟨by rw [hv _ _ (by decide) (by omega)]; exact n1, by rw [hv _ _ (by decide) (by omega)]; exact n2, by rw [hv _ _ (by decide) (by omega)]; exact n3, by rw [hv _ _ (by decide) (by omega)]; exact n4⟩ ⟨hb.1, hb.2.1, hb.2.2.1, hb.2.2.2.1⟩ (by rw [hv _ _ (by decide) (by omega)]; exact h57) (fun i hi => by rw [hv _ _ (by decide) (by omega)]; exact (tv i hi).2.1) (fun i hi => (tv i hi).1) q1 (by rw [hsum]; exact (sl_cong (fun i hi => hv _ _ (by decide) (by omega))).symm)
      by_cases q2 : nI (t (2 + G + E + 4 * C)) = sl (M.2.1 95) (2 + G + E + 4 * C)
      · obtain ⟨A, x, N, a1, a2, a3, a4, a5⟩ := c_readI k hC (fun i hi => (tv i hi).1) q1 (M.2.1 140)
        rw [if_pos q2, gr0_5 hc, Option.bind_some, Option.bind_some, a1, Option.bind_some, a2]
        dsimp only [Option.bind_some]
        rcases a5 with ⟨rfl, g1, g2⟩ | ⟨rfl, g1⟩
        · -- it is good
          rw [if_neg (by decide)]
          have hcN := a3.hc hc
          obtain ⟨N2, hN2⟩ : ∃ N2, N2 = wrI N 1 1 0 := ⟨_, rfl⟩
          have hc2 : ClsS N2.1 N2.2.2.2 := by rw [hN2]; exact hcN
          obtain ⟨B, b1, b2, b3, b4, b5⟩ := c_copy (M := N2) (s := 54) (t := 60) (StS54 hc2) (StS60 hc2) (fun i j hi hj => by omega)
          have hcB := b2.hc hc2
          obtain ⟨B2, hB2⟩ : ∃ B2, B2 = wrI B 0 7 0 := ⟨_, rfl⟩
          have hsB2 : RefS B2.1 B2.2.2.2 := by rw [hB2]; refine b2.hs ?_; rw [hN2]; exact a3.hs hs
          have vB : ∀ a k, ¬ (54 ≤ a ∧ a ≤ 65) → ¬ (a = 1 ∧ k = 1) → ¬ (a = 0 ∧ k = 7) → B2.2.1 a k = M.2.1 a k := fun a k h1 h2 h3 => by rw [hB2, wrI_ne h3, b2.i (pSt_no (by omega)), hN2, wrI_ne h2, a3.i (p6_n (by omega))]
          obtain ⟨y, y1, y2⟩ := rim (wrI B2 94 1 0) hsB2 (fun a k h1 h2 => by rw [wrI_ne h2, vB _ _ (by omega) (by omega) (by omega)]) q2
          have hy : y = 1 := by
            rcases y2 with z | z
            · exact z.1
            · exact absurd g1 z.2
          subst hy
          have hsC : RefS (wrI B2 94 1 0).1 (wrI B2 94 1 0).2.2.2 := hsB2
          have vC : ∀ a k, 94 ≤ a → ¬ (a = 94 ∧ k = 1) → (wrI B2 94 1 0).2.1 a k = M.2.1 a k := fun a k h1 h2 => by rw [wrI_ne h2, vB _ _ (by omega) (by omega) (by omega)]
          have c95 : ∀ i, i < n → (wrI B2 94 1 0).2.1 95 i = nI (t i) := fun i hi => by rw [vC _ _ (by decide) (by omega)]; exact (tv i hi).2.1
          obtain ⟨R, r1, r2, r3, r4⟩ := r_onW (M := wrI B2 94 1 0) (t := t) hsC ⟨by rw [vC _ _ (by decide) (by omega)]; exact n1, by rw [vC _ _ (by decide) (by omega)]; exact n3, by rw [vC _ _ (by decide) (by omega)]; exact n4⟩ ⟨hb.1, hb.2.2.1, hb.2.2.2.1⟩ c95 q1
          have e140 : (wrI B2 94 1 0).2.1 140 = M.2.1 140 := funext fun k => vC _ _ (by decide) (by omega)
          rw [e140] at r3 r4
          have e2 := r_twoAt (t := t) hsC c95 t1 (k := 0) (by omega)
          rw [show 0 + 1 = 1 from rfl] at e2
          replace e2 : f_X12_twoAt 94 0 (wrI B2 94 1 0) = some (nI (256 * t 0 + t 1)) := e2
          obtain ⟨Z, hZ⟩ : ∃ Z, Z = wrI (wrI R 140 27 0) 94 85 0 := ⟨_, rfl⟩
          refine ⟨1, B2, Z, ?_, ?_, ?_⟩
          · unfold f_X11_on_B19
            rw [gr0_0 hcN, Option.bind_some, pi1 hcN, Option.bind_some, ← hN2, if_neg (by decide), gr0_4 hc2, Option.bind_some, gr0_5 hc2, Option.bind_some, b1, Option.bind_some, pi0 hcB, Option.bind_some, ← hB2]
          · unfold f_X12_on
            obtain ⟨m1, m2, m3, m4, m5⟩ := r_many hsC
            rw [sr94 hsB2, gi94 hsB2, Option.bind_some, pi94 hsB2, Option.bind_some, vB _ _ (by omega) (by omega) (by omega), t3, y1, Option.bind_some, if_neg (by decide), m1, Option.bind_some, m3, Option.bind_some, vC _ _ (by decide) (by omega), vC _ _ (by decide) (by omega), n1, n3, gr94_59 hsC, Option.bind_some, e2, Option.bind_some, show ∀ x, stI (wrI B2 94 1 0) 140 0 x = some (wrI (wrI B2 94 1 0) 140 0 x) from fun x => st140 hsC (j := 0) (by decide), Option.bind_some, show (2 : Int32) + nI G = nI (2 + G) from nI_add 2 G, nI_add, r1, ← hZ]
          · have vZ : ∀ a k, a ≠ 140 → ¬ (a = 94 ∧ k = 85) → Z.2.1 a k = (wrI B2 94 1 0).2.1 a k := fun a k h1 h2 => by rw [hZ, wrI_ne h2, wrI_ne (by omega), r2.i (beq_eq_false_iff_ne.mpr h1)]
            have v54 : ∀ a k, 54 ≤ a → a ≤ 59 → Z.2.1 a k = B.2.1 a k := fun a k h1 h2 => by rw [vZ _ _ (by omega) (by omega), wrI_ne (by omega), hB2, wrI_ne (by omega)]
            have FZ : Fr nX q0 M Z := by
              have f1 : Fr nX q0 M N := a3.mono (fun a k z => p6_n (fun y => by
                have : nX a k = true := by (unfold nX; simp only [Bool.or_eq_true, Bool.and_eq_true, beq_iff_eq, decide_eq_true_eq]; omega)
                rw [this] at z; cases z)) (fun _ _ z => z)
              have f2 : Fr nX q0 M N2 := by rw [hN2]; exact f1.wi rfl
              have f3 : Fr nX q0 M B := f2.tr (b2.mono (fun a k z => pSt_no (fun y => by
                have : nX a k = true := by (unfold nX; simp only [Bool.or_eq_true, Bool.and_eq_true, beq_iff_eq, decide_eq_true_eq]; omega)
                rw [this] at z; cases z)) (fun _ _ z => z))
              have f4 : Fr nX q0 M B2 := by rw [hB2]; exact f3.wi rfl
              have f5 : Fr nX q0 M R := (f4.wi (a := 94) (k := 1) rfl).tr (r2.mono (fun a k z => beq_eq_false_iff_ne.mpr (fun y => by
                have : nX a k = true := by (unfold nX; simp only [Bool.or_eq_true, Bool.and_eq_true, beq_iff_eq, decide_eq_true_eq]; omega)
                rw [this] at z; cases z)) (fun _ _ z => z))
              rw [hZ]; exact (f5.wi rfl).wi rfl
            have w27 : ∀ i, i < 27 → Z.2.1 140 i = onW t G E C (M.2.1 140) i := fun i hi => by rw [hZ, wrI_ne (by omega), wrI_ne (by omega)]; exact r3 i hi
            have z27 : Z.2.1 140 27 = 0 := by rw [hZ, wrI_ne (by omega), wrI_eq]
            have hW' := onW_ok ⟨hb.1, hb.2.1, hb.2.2.1, hb.2.2.2.1⟩ g1 hw
            have SVN : SV (onW t G E C (M.2.1 140)) N2 60 G E C := g2.sm (fun _ => rfl) (fun j k hj => by rw [hN2, wrI_ne (by omega)])
            have SVZ : SV (onW t G E C (M.2.1 140)) Z 54 G E C := SVN.cp (M := N2) (s := 54) (t := 60) hb.2.2.1 hb.2.2.2.1 ⟨by rw [v54 _ _ (by omega) (by omega)]; exact b3.1, by rw [v54 _ _ (by omega) (by omega)]; exact b3.2.1⟩ (fun j k h1 h2 h3 => by rw [v54 _ _ (by omega) (by omega)]; exact b4 j k h1 h2 h3)
            refine (h.now (pc' := 0) (pn' := pn) (n' := 0) FZ (SVZ.cw hb.1 hb.2.2.1 hb.2.2.2.1 w27) (hW'.cw hb.2.2.1 hb.2.2.2.1 w27) ⟨0, by decide, by rw [z27]; rfl, ?_⟩ (fun kc' x h1 h2 h3 => ?_) ⟨⟨by omega, v2, ?_, ?_, ?_, ?_⟩, fun i hi => by omega⟩ ⟨by omega, ?_, ?_, fun i hi => by omega⟩ (fun j hj => ?_)).inv
            · rw [v54 _ _ (by omega) (by omega), b3.2.2, hN2, wrI_ne (by omega), a4]; rfl
            · have : (0 : Nat) = kc' := by
                rw [z27] at h2
                exact (nI_eq (a := 0) (by omega) (by omega)).mp h2
              omega
            · rw [vZ _ _ (by omega) (by omega), wrI_ne (by omega), hB2, wrI_eq]; rfl
            · rw [vZ _ _ (by omega) (by omega), wrI_ne (by omega), vB _ _ (by omega) (by omega) (by omega)]; exact v4
            · rw [hZ, wrI_eq]; rfl
            · rw [vZ _ _ (by omega) (by omega), wrI_ne (by omega), vB _ _ (by omega) (by omega) (by omega)]; exact v6
            · rw [vZ _ _ (by omega) (by omega), wrI_ne (by omega), hB2, wrI_ne (by omega), b2.i (pSt_no (by omega)), hN2, wrI_eq]; rfl
            · rw [vZ _ _ (by omega) (by omega), wrI_eq]; rfl
            · rw [vZ _ _ (by omega) (by omega), wrI_ne (by omega), vB _ _ (by omega) (by omega) (by omega), vZ _ _ (by omega) (by omega), wrI_ne (by omega), vB _ _ (by omega) (by omega) (by omega)]
              exact t6 j hj
        · -- it isn't
          rw [if_pos rfl]
          obtain ⟨B1, p1, p2, p3, p4⟩ := bad N a3
          obtain ⟨r1, r2⟩ := rv N B1 a3 p2
          obtain ⟨y, y1, y2⟩ := rim (wrI B1 94 1 0) r1 r2 q2
          have hy : y = 0 := by
            rcases y2 with z | z
            · exact absurd z.2 g1
            · exact z.1
          exact ⟨0, B1, _, p1, rbad N B1 a3 p2 p3 (by rw [y1, hy]), p4⟩
      · rw [if_neg q2]
        dsimp only [Option.bind_some]
        rw [if_pos rfl]
        obtain ⟨B1, p1, p2, p3, p4⟩ := bad M Fr.rf
        obtain ⟨r1, r2⟩ := rv M B1 Fr.rf p2
        refine ⟨0, B1, _, p1, rbad M B1 Fr.rf p2 p3 ?_, p4⟩
        obtain ⟨m1, m2, m3, m4, m5⟩ := r_many r1
        have en : nI n - (1 : Int32) = nI (2 + G + E + 4 * C) := by rw [show nI n - (1 : Int32) = nI (n - 1) from nsub (b := 1) (by omega), show n - 1 = 2 + G + E + 4 * C by omega]
        have es2 : sl ((wrI B1 94 1 0).2.1 95) (2 + G + E + 4 * C) = sl (M.2.1 95) (2 + G + E + 4 * C) := sl_cong (fun i hi => r2 _ _ (by decide) (by omega))
        unfold f_X12_isImage
        rw [sr94 r1, m1, Option.bind_some, m3, Option.bind_some, gi94 r1, Option.bind_some, r2 94 57 (by decide) (by omega), h57, if_neg (by decide), m4, Option.bind_some, r2 131 5 (by decide) (by omega), r2 131 7 (by decide) (by omega), r2 131 8 (by decide) (by omega), n1, n3, n4, esz, nI_1, if_pos (by rw [q1]; congr 1; omega), gr94_0 r1, Option.bind_some, en, ld95 r1 (by omega), Option.bind_some, Option.bind_some, r_sumI (rs95 r1) (by decide) (by omega), Option.bind_some, r2 95 _ (by decide) (by omega), tb.2.1, es2, if_neg q2]
    · rw [if_neg (fun z => q1 (by have := (nI_eq (by omega) (by omega)).mp z; omega))]
      dsimp only [Option.bind_some]
      rw [if_pos rfl]
      obtain ⟨B1, p1, p2, p3, p4⟩ := bad M Fr.rf
      obtain ⟨r1, r2⟩ := rv M B1 Fr.rf p2
      refine ⟨0, B1, _, p1, rbad M B1 Fr.rf p2 p3 ?_, p4⟩
      obtain ⟨m1, m2, m3, m4, m5⟩ := r_many r1
      unfold f_X12_isImage
      rw [sr94 r1, m1, Option.bind_some, m3, Option.bind_some, gi94 r1, Option.bind_some, r2 94 57 (by decide) (by omega), h57, if_neg (by decide), m4, Option.bind_some, r2 131 5 (by decide) (by omega), r2 131 7 (by decide) (by omega), r2 131 8 (by decide) (by omega), n1, n3, n4, esz, nI_1, if_neg (fun z => q1 (by have := (nI_eq (by omega) (by omega)).mp z; omega))]
  · rw [if_pos (bI_0.mpr qt)]
    rw [bI_f qt] at h57
    obtain ⟨B1, p1, p2, p3, p4⟩ := bad M Fr.rf
    obtain ⟨r1, r2⟩ := rv M B1 Fr.rf p2
    refine ⟨0, B1, _, p1, rbad M B1 Fr.rf p2 p3 ?_, p4⟩
    obtain ⟨m1, m2, m3, m4, m5⟩ := r_many r1
    unfold f_X12_isImage
    rw [sr94 r1, m1, Option.bind_some, m3, Option.bind_some, gi94 r1, Option.bind_some, r2 94 57 (by decide) (by omega), h57, if_pos rfl]
end OND
