/-! ACTS: put, hold, send -/
theorem xor64 : ∀ a, a < 64 → ∀ g, g < 6 → (nI a ^^^ ((1 : Int32) <<< (nI g &&& 31))) = nI (a ^^^ 2 ^ g) ∧ (a ^^^ 2 ^ g) < 64 := by decide +kernel
theorem upb_xor : ∀ a, a < 64 → ∀ g, g < 6 → ∀ q, q < 6 → upb (a ^^^ 2 ^ g) q = (if q = g then !upb a q else upb a q) := by decide +kernel
theorem upb_ext : ∀ a, a < 64 → ∀ b, b < 64 → (upb a 0 = upb b 0 ∧ upb a 1 = upb b 1 ∧ upb a 2 = upb b 2 ∧ upb a 3 = upb b 3 ∧ upb a 4 = upb b 4 ∧ upb a 5 = upb b 5) → a = b := by decide +kernel
section ACC
variable {M N N1 N3 : sMem} {D Do G P E C W k e c g m s n pc pn a0 k0 k1 : Nat} {c0 c1 c2 : List Nat} {w w' : Nat → Int32} {u : Nat → Nat → Int32} {x y : Int32}
/-- one cell of the state is changed -/
theorem IX.act1 (h : IX M D Do G P E C W c0 c1 c2 n pc pn) (hR : RmS M N1 s pn) (h78 : N1.2.1 0 7 = nI (min 20 (pc + 1)) ∧ N1.2.1 0 8 = nI ((pn + 1) % 20)) (hc0 : N1.2.1 s 0 = M.2.1 54 0 ∧ N1.2.1 s 1 = M.2.1 54 1 ∧ N1.2.1 s 7 = M.2.1 54 7) (hc1 : ∀ j k, 1 ≤ j → j ≤ 4 → k < 5 → N1.2.1 (s + j) k = M.2.1 (54 + j) k) (hc5 : ∀ k, k < 120 → N1.2.1 (s + 5) k = M.2.1 59 k)
    (ha : 54 ≤ a0 ∧ a0 ≤ 58) (ha7 : ¬ (a0 = 54 ∧ k0 = 7)) (hk1 : k1 < 27)
    (hF : Fr (pKe ((pn + 1) % 20)) q0 (wrI N1 a0 k0 x) N3) (h85 : N3.2.1 94 85 = nI (min 20 (pc + 1))) (h86 : N3.2.1 94 86 = nI ((pn + 1) % 20)) (h155 : ∀ i, i < 148 → N3.2.1 155 (148 * ((pn + 1) % 20) + i) = (wrI N1 a0 k0 x).2.1 140 i)
    (hw' : w' = fun i => if i = k1 then y else M.2.1 140 i) (hW : WG w' G P E C)
    (hV : (if a0 = 54 ∧ k0 = 0 then x else M.2.1 54 0) = w' 0 ∧ (if a0 = 54 ∧ k0 = 1 then x else M.2.1 54 1) = nI (upF w' G) ∧ (∀ e, e < E → (if a0 = 55 ∧ k0 = e then x else M.2.1 55 e) = w' (7 + e)) ∧ ∀ c, c < C → (if a0 = 56 ∧ k0 = c then x else M.2.1 56 c) = w' (12 + 3 * c) ∧ (if a0 = 57 ∧ k0 = c then x else M.2.1 57 c) = w' (13 + 3 * c) ∧ (if a0 = 58 ∧ k0 = c then x else M.2.1 58 c) = w' (14 + 3 * c)) :
    IX (wrI N3 140 k1 y) D Do G P E C W c0 c1 c2 n (min 20 (pc + 1)) ((pn + 1) % 20) := by
  have k := h.1
  have hl : 187 ≤ M.1.length := k.cv.ln
  have hb := k.n.2
  obtain ⟨r1, r2, r3, r4, ⟨r5, r6, r7⟩, r8, r9⟩ := id hR
  have hr20 : (pn + 1) % 20 < 20 := Nat.mod_lt _ (by decide)
  have kk : ∀ a k, a ≠ 155 → ¬ (a = 94 ∧ (k = 85 ∨ k = 86)) → pKe ((pn + 1) % 20) a k = false := fun a k h1 h2 => Bool.eq_false_iff.mpr (fun z => by
    unfold pKe at z
    simp only [Bool.or_eq_true, Bool.and_eq_true, beq_iff_eq, decide_eq_true_eq] at z
    omega)
  have sh : (wrI N3 140 k1 y).1 = N1.1 := hF.1
  have rf : (wrI N3 140 k1 y).2.2.2 = N1.2.2.2 := hF.2.1
  have lj : (wrI N3 140 k1 y).2.2.1 = N1.2.2.1 := funext fun a => funext fun k => hF.j rfl
  have v1 : ∀ a k, a ≠ 140 → a ≠ 155 → ¬ (a = 94 ∧ (k = 85 ∨ k = 86)) → (wrI N3 140 k1 y).2.1 a k = (wrI N1 a0 k0 x).2.1 a k := fun a k h1 h2 h3 => by rw [wrI_ne (fun z => h1 z.1)]; exact hF.i (kk a k h2 h3)
  have v54 : ∀ a k, 54 ≤ a → a ≤ 59 → (wrI N3 140 k1 y).2.1 a k = if a0 = a ∧ k0 = k then x else M.2.1 a k := fun a k h1 h2 => by
    rw [v1 a k (by omega) (by omega) (by omega), wrI_get]
    by_cases q : a = a0 ∧ k = k0
    · rw [if_pos q, if_pos (by omega)]
    · rw [if_neg q, if_neg (by omega)]; exact r2 a k (by omega) (by omega) (by omega)
  have v140 : ∀ i, (wrI N3 140 k1 y).2.1 140 i = w' i := fun i => by
    rw [hw', wrI_get]
    dsimp only
    by_cases q : i = k1
    · rw [if_pos ⟨rfl, q⟩, if_pos q]
    · rw [if_neg (fun z => q z.2), if_neg q, hF.i (kk _ _ (by decide) (by omega)), wrI_ne (by omega)]
      exact r2 _ _ (by omega) (by omega) (by omega)
  have vs : ∀ j k, j ≤ 5 → (wrI N3 140 k1 y).2.1 (s + j) k = N1.2.1 (s + j) k := fun j k hj => by rw [v1 _ _ (by omega) (by omega) (by omega), wrI_ne (by omega)]
  obtain ⟨V0, W0⟩ := k.2.2.2.2.1
  obtain ⟨kc, kc1, kc2, kc3⟩ := k.2.2.2.2.2.2.1
  have eX : ∀ {a k : Nat}, aX a k = false → ¬ (54 ≤ a ∧ a ≤ 59) ∧ a ≠ 140 ∧ a ≠ 155 ∧ ¬ (a = 94 ∧ (k = 85 ∨ k = 86)) ∧ ¬ (a = 0 ∧ (k = 7 ∨ k = 8)) := fun {a k} z => by
    refine ⟨fun y => ?_, fun y => ?_, fun y => ?_, fun y => ?_, fun y => ?_⟩ <;> (have : aX a k = true := by (unfold aX; simp only [Bool.or_eq_true, Bool.and_eq_true, beq_iff_eq, decide_eq_true_eq]; omega)) <;> (rw [this] at z; cases z)
  have cp : SV (M.2.1 140) (wrI N3 140 k1 y) s G E C := by
    have a1 := vs 0 0 (by decide)
    have a2 := vs 0 1 (by decide)
    exact V0.cp (M := M) (t := 54) hb.2.2.1 hb.2.2.2.1 ⟨a1.trans hc0.1, a2.trans hc0.2.1⟩ (fun j k h1 h2 h3 => by rw [vs j k (by omega)]; exact hc1 j k h1 h2 h3)
  refine h.act (s := s) (fun a q z => by rw [sh]; exact r1 a q z) (fun a k h1 h2 h3 => ?_) (fun a k h1 h2 => by rw [lj]; exact r3 a k (by omega)) (fun a k h1 h2 h3 => by rw [rf]; exact r4 a k h1 h3) ⟨r5, r6.sm (fun a q z => by rw [sh]; exact z) (fun k => by rw [rf]), by rw [rf]; exact r7⟩ r8 ?_ ?_ ?_ ?_ ?_ ?_ (fun i hi => ?_) (fun r i h1 h2 h3 => ?_) ⟨cp, (vs 0 7 (by decide)).trans hc0.2.2, fun k hk => by rw [vs 5 k (by decide)]; exact hc5 k hk⟩ ?_ (by rw [show (wrI N3 140 k1 y).2.1 140 = w' from funext v140]; exact hW) ⟨kc, kc1, ?_, ?_⟩ (fun kc' k' h1 h2 h3 => ?_) ?_
  · obtain ⟨x1, x2, x3, x4, x5⟩ := eX h2
    rw [v1 a k x2 x3 x4, wrI_ne (by omega)]
    exact r2 a k h1 h3 x5
  · refine Phi_Pot h.2.2.2.2.2.1.2.1 (fun a q z => by rw [sh]; exact r1 a q z) (fun p hp => ?_) ?_
    · have hpl := (by decide : ∀ p ∈ prgL, 8 ≤ p ∧ p ≤ 52) p hp
      rw [rf]; exact r4 _ _ (by omega) (by omega)
    · have : Phi (wrI N3 140 k1 y) = Phi N1 := by unfold Phi; rw [sh, rf]
      rw [this]; exact r9
  · obtain ⟨z1, z2, z3⟩ := k.2.2.2.1.1
    have r77 : ∀ w, (wrI N3 140 k1 y).2.2.2 77 w = M.2.2.2 77 w := fun w => by rw [rf]; exact r4 _ _ (by omega) (by omega)
    refine ⟨fun w q hw hq => ?_, fun w w' q hw hw' x1 x2 => z2 w w' q hw hw' (by rw [← r77]; exact x1) (by rw [← r77]; exact x2), fun w hw hm => ?_⟩
    · rw [r77] at hq
      exact ⟨(z1 w q hw hq).1, by rw [sh]; exact r1 _ _ (z1 w q hw hq).2⟩
    · rw [v1 _ _ (by decide) (by decide) (by omega), wrI_ne (by omega), r2 _ _ (by omega) (by omega) (by omega)] at hm
      obtain ⟨q, q1, q2⟩ := z3 w hw hm
      refine ⟨q, by rw [r77]; exact q1, fun g m hg hm2 => ?_⟩
      have : (wrI N3 140 k1 y).2.2.1 q = M.2.2.1 q := funext fun k => by rw [lj]; exact r3 q k (lt_of_sh (z1 w q hw q1).2)
      rw [this]; exact q2 g m hg hm2
  · rw [v1 _ _ (by decide) (by decide) (by omega), wrI_ne (by omega)]; exact h78.1
  · rw [v1 _ _ (by decide) (by decide) (by omega), wrI_ne (by omega)]; exact h78.2
  · rw [wrI_ne (by omega)]; exact h85
  · rw [wrI_ne (by omega)]; exact h86
  · rw [wrI_ne (by omega), h155 i hi, wrI_ne (by omega)]; exact r2 _ _ (by omega) (by omega) (by omega)
  · rw [wrI_ne (by omega), hF.i (Bool.eq_false_iff.mpr (fun z => by
      unfold pKe at z
      simp only [Bool.or_eq_true, Bool.and_eq_true, beq_iff_eq, decide_eq_true_eq] at z
      omega)), wrI_ne (by omega)]
    exact r2 _ _ (by omega) (by omega) (by omega)
  · rw [show (wrI N3 140 k1 y).2.1 140 = w' from funext v140]
    exact ⟨by rw [v54 _ _ (by omega) (by omega)]; exact hV.1, by rw [v54 _ _ (by omega) (by omega)]; exact hV.2.1, fun e he => by rw [v54 _ _ (by omega) (by omega)]; exact hV.2.2.1 e he, fun c hc => by rw [v54 _ _ (by omega) (by omega), v54 _ _ (by omega) (by omega), v54 _ _ (by omega) (by omega)]; exact hV.2.2.2 c hc⟩
  · rw [v140, hw']; dsimp only; rw [if_neg (by omega)]; exact kc2
  · rw [v54 _ _ (by omega) (by omega), if_neg ha7]; exact kc3
  · have e1 : (wrI N3 140 k1 y).2.1 140 27 = M.2.1 140 27 := by rw [v140, hw']; dsimp only; rw [if_neg (by omega)]
    rw [e1] at h2
    rw [v54 _ _ (by omega) (by omega), if_neg (by omega), v140, hw']
    dsimp only
    rw [if_neg (by omega)]
    exact h.2.1.2.2 kc' k' h1 h2 h3
  · refine h.2.2.2.2.1.1.fr ?_ ?_
    · rw [v1 _ _ (by decide) (by decide) (by omega), wrI_ne (by omega)]; exact r2 _ _ (by omega) (by omega) (by omega)
    · rw [lj]; exact r3 _ _ (by omega)
/-- an act that is refused -/
theorem bad_act (h : IX M D Do G P E C W c0 c1 c2 n pc pn) : (∃ M1, (f_X11_refuse 0 2 M).bind (fun (x : Int32 × sMem) => some ((0 : Int32), x.2)) = some (0, M1) ∧ M1 = wrI M 93 2 (M.2.1 93 2 + 1)) ∧ f_X12_isRefused 94 (wrI M 93 2 (M.2.1 93 2 + 1)) = some (0, rfM M 2) ∧ Inv (rfM M 2) := by
  obtain ⟨r1, r2, r3⟩ := r_rf (k := 2) (x := M.2.1 93 2 + 1) h.1.1 (by decide)
  refine ⟨⟨_, by rw [show f_X11_refuse 0 2 M = some (-1, wrI M 93 2 (M.2.1 93 2 + 1)) from c_refuse h.1.hc (by decide)]; rfl, rfl⟩, ?_, (h.rf (k := 2) (by decide)).inv⟩
  unfold f_X12_isRefused
  rw [sr94 (M := wrI M 93 2 (M.2.1 93 2 + 1)) h.1.1, r1, Option.bind_some, show ldI 14 (wrI M 93 2 (M.2.1 93 2 + 1)) 96 2 = some (M.2.1 96 2) from r2, Option.bind_some, show ∀ y, stI (wrI M 93 2 (M.2.1 93 2 + 1)) 96 2 y = some (wrI (wrI M 93 2 (M.2.1 93 2 + 1)) 96 2 y) from r3]
  rfl
/-- what both do ahead of a change -/
theorem act_pre (h : IX M D Do G P E C W c0 c1 c2 n pc pn) : ∃ N1 s, f_X11_remember 0 M = some N1 ∧ RmS M N1 s pn ∧ (N1.2.1 0 7 = nI (min 20 (pc + 1)) ∧ N1.2.1 0 8 = nI ((pn + 1) % 20)) ∧ (N1.2.1 s 0 = M.2.1 54 0 ∧ N1.2.1 s 1 = M.2.1 54 1 ∧ N1.2.1 s 7 = M.2.1 54 7) ∧ (∀ j k, 1 ≤ j → j ≤ 4 → k < 5 → N1.2.1 (s + j) k = M.2.1 (54 + j) k) ∧ (∀ k, k < 120 → N1.2.1 (s + 5) k = M.2.1 59 k) ∧ ClsS N1.1 N1.2.2.2 ∧ RefS N1.1 N1.2.2.2 ∧ (∀ a k, 1 ≤ a → a < 187 → N1.2.1 a k = M.2.1 a k) := by
  obtain ⟨k, _, ⟨u1, ⟨⟨v1, v2, v3, v4, v5, v6⟩, v7⟩⟩, _⟩ := id h
  have hl : 187 ≤ M.1.length := k.cv.ln
  obtain ⟨N1, s, a1, a2, a3, a4, a5, a6⟩ := c_rem k.hc hl u1 v2 v1 v3 v4
  exact ⟨N1, s, a1, a2, a3, a4, a5, a6, a2.hc k.hc, a2.hs k.1, fun a k h1 h2 => a2.2.1 a k (by omega) (by have := a2.2.2.2.2.1.1; omega) (by omega)⟩
theorem act_keep (h : IX M D Do G P E C W c0 c1 c2 n pc pn) (hs : RefS N.1 N.2.2.2) (hv : N.2.1 94 85 = M.2.1 94 85 ∧ N.2.1 94 86 = M.2.1 94 86) : ∃ N3, f_X12_keeps 94 N = some N3 ∧ Fr (pKe ((pn + 1) % 20)) q0 N N3 ∧ N3.2.1 94 85 = nI (min 20 (pc + 1)) ∧ N3.2.1 94 86 = nI ((pn + 1) % 20) ∧ ∀ i, i < 148 → N3.2.1 155 (148 * ((pn + 1) % 20) + i) = N.2.1 140 i := by
  obtain ⟨_, _, ⟨_, ⟨⟨v1, v2, v3, v4, v5, v6⟩, _⟩⟩, _⟩ := id h
  exact r_keeps hs v2 v1 (by rw [hv.1]; exact v5) (by rw [hv.2]; exact v6)
theorem ok_hold (h : IX M D Do G P E C W c0 c1 c2 n pc pn) (a b : Int32) : ∃ r M1 M2, f_X11_hold 0 a b M = some (r, M1) ∧ f_X12_hold 94 a b M1 = some (r, M2) ∧ Inv M2 := by
  have k := h.1
  have hc := k.hc
  have hb := k.n.2
  have e0 : (0 : Int32).toInt = 0 := rfl
  have e99 : (99 : Int32).toInt = 99 := rfl
  have f0 : (0 : Int64).toInt = 0 := rfl
  have f99 : (99 : Int64).toInt = 99 := rfl
  obtain ⟨hV, hw⟩ := k.2.2.2.2.1
  have hS := StS54 hc
  obtain ⟨⟨B1, p1, rfl⟩, p2, p3⟩ := bad_act h
  have kb : KI (wrI M 93 2 (M.2.1 93 2 + 1)) D G P E C W c0 c1 c2 := k.rf
  have bad : ¬ ((0 ≤ a.toInt ∧ a.toInt < (E : Int)) ∧ (0 ≤ b.toInt ∧ b.toInt ≤ 99) ∧ ∀ e, e < E → a = nI e → ¬ M.2.1 140 (7 + e) = b) → ∃ r M1 M2, f_X11_hold 0 a b M = some (r, M1) ∧ f_X12_hold 94 a b M1 = some (r, M2) ∧ Inv M2 := fun hn => by
    refine ⟨0, wrI M 93 2 (M.2.1 93 2 + 1), rfM M 2, ?_, ?_, p3⟩
    · unfold f_X11_hold f_X11_hold_B37
      simp only [sr0 hc, k.cv.p0, k.cv.g4, k.tE, Option.bind_some, gr0_4 hc, gS2 hS]
      replace p1 : ((f_X11_refuse 0 2 M).bind fun x => match x with | (_, M2) => some ((0 : Int32), M2)) = some (0, wrI M 93 2 (M.2.1 93 2 + 1)) := p1
      rcases arg_c a E (by omega) with ⟨e, he, rfl⟩ | hna
      · rw [if_neg (bI_y (inR he (by omega)))]
        by_cases q1 : b < 0
        · rw [if_pos q1]; exact p1
        · rw [if_neg q1]
          have q1' := le_i.mp (Int32.not_lt.mp q1)
          by_cases q2 : (99 : Int32) < b
          · rw [if_pos q2]; exact p1
          · rw [if_neg q2, lS1 hS (by omega), Option.bind_some, hV.2.2.1 e he]
            have q2' := le_i.mp (Int32.not_lt.mp q2)
            rw [if_pos ?_]
            · exact p1
            · by_cases w : M.2.1 140 (7 + e) = b
              · exact w
              · exact absurd ⟨inR he (by omega), ⟨by omega, by omega⟩, fun e' he' hee => by
                  have : e = e' := (nI_eq (by omega) (by omega)).mp hee
                  rw [← this]; exact w⟩ hn
      · rw [if_pos (bI_0.mpr hna)]; exact p1
    · unfold f_X12_hold f_X12_hold_B29
      have p4 : ((f_X12_isRefused 94 (wrI M 93 2 (M.2.1 93 2 + 1))).bind fun x => match x with | (x1, M2) => if x1 = 0 ∨ x1 = 1 then some (x1, M2) else none) = some (0, rfM M 2) := by rw [p2]; rfl
      simp only [sr94 kb.1, kb.rE, isIn_of, i64, Option.bind_some]
      rcases arg_c a E (by omega) with ⟨e, he, rfl⟩ | hna
      · rw [if_neg (bI_y (inR he (by omega)))]
        by_cases q1 : 0 ≤ b.toInt ∧ b.toInt ≤ 99
        · rw [if_neg (bI_y (by omega)), r_lateOf kb.1 (by omega), Option.bind_some, wrI_ne (by omega), if_pos ?_]
          · exact p4
          · by_cases w : M.2.1 140 (7 + e) = b
            · exact w
            · exact absurd ⟨inR he (by omega), q1, fun e' he' hee => by
                have : e = e' := (nI_eq (by omega) (by omega)).mp hee
                rw [← this]; exact w⟩ hn
        · rw [if_pos (bI_0.mpr (by omega))]; exact p4
      · rw [if_pos (bI_0.mpr hna)]; exact p4
  rcases arg_c a E (by omega) with ⟨e, he, rfl⟩ | hna
  · rcases arg_c b 100 (by decide) with ⟨l, hl1, rfl⟩ | hnb
    · by_cases q : M.2.1 140 (7 + e) = nI l
      · exact bad (fun z => z.2.2 e he rfl q)
      · have he1 := inR he (show E < 2147483648 by omega)
        have el : (nI l).toInt = l := nI_i (by omega)
        obtain ⟨N1, s, a1, a2, a3, a4, a5, a6, hc1, hs1, vv⟩ := act_pre h
        have hS1 := StS54 hc1
        have hs2 : RefS (wrI N1 55 e (nI l)).1 (wrI N1 55 e (nI l)).2.2.2 := hs1
        have k2 : KI M D G P E C W c0 c1 c2 := k
        obtain ⟨N3, b1, b2, b3, b4, b5⟩ := act_keep (N := wrI N1 55 e (nI l)) h hs2 ⟨by rw [wrI_ne (by omega), vv _ _ (by decide) (by decide)], by rw [wrI_ne (by omega), vv _ _ (by decide) (by decide)]⟩
        have hs3 := b2.hs hs2
        have eE : M.2.1 131 7 = nI E := k.n.1.2.2.1
        have rE : f_X12_isEra 94 (nI e) (wrI N1 55 e (nI l)) = some (bI (0 ≤ (nI e).toInt ∧ (nI e).toInt < (E : Int))) := r_isEra hs2 (by rw [wrI_ne (by omega), vv _ _ (by decide) (by decide)]; exact eE) hb.2.2.1 _
        refine ⟨1, wrI N1 55 e (nI l), wrI N3 140 (7 + e) (nI l), ?_, ?_, ?_⟩
        · unfold f_X11_hold
          simp only [sr0 hc, k.cv.p0, k.cv.g4, k.tE, Option.bind_some, bI_t he1, one0, if_false, gr0_4 hc, gS2 hS, lS1 hS (show e < 5 by omega), hV.2.2.1 e he, a1, gr0_4 hc1, gS2 hS1]
          rw [if_neg (nI_pos (by omega)), if_neg (by rw [show (99 : Int32) = nI 99 from rfl, clt (by decide) (by omega)]; omega), if_neg q, show stI N1 (54 + 1) (nI e) (nI l) = some (wrI N1 55 e (nI l)) from tS1 hS1 (by omega)]
          rfl
        · unfold f_X12_hold
          simp only [sr94 hs2, rE, isIn_of, i64, Option.bind_some, bI_t he1, one0, if_false, r_lateOf hs2 (show e < 5 by omega), b1, gr94_59 hs3]
          rw [if_neg (bI_y (by omega)), if_neg (by rw [wrI_ne (by omega), vv _ _ (by decide) (by decide)]; exact q), show (7 : Int32) + nI e = nI (7 + e) from nI_add 7 e, st140 hs3 (by omega)]
          rfl
        · obtain ⟨w', hww⟩ : ∃ w' : Nat → Int32, w' = fun i => if i = 7 + e then nI l else M.2.1 140 i := ⟨_, rfl⟩
          have wv : w' (7 + e) = nI l := by rw [hww]; exact if_pos rfl
          have wo : ∀ i, i ≠ 7 + e → w' i = M.2.1 140 i := fun i hi => by rw [hww]; exact if_neg hi
          refine (h.act1 (a0 := 55) (k0 := e) (x := nI l) (k1 := 7 + e) (y := nI l) (w' := w') a2 a3 a4 a5 a6 ⟨by decide, by decide⟩ (by omega) (by omega) b2 b3 b4 b5 hww ?_ ⟨?_, ?_, fun e' he' => ?_, fun c hc' => ?_⟩).inv
          · obtain ⟨⟨d, d1, d2⟩, g3, g4, g5⟩ := hw
            refine ⟨⟨d, d1, by rw [wo 0 (by omega)]; exact d2⟩, fun g hg => by rw [wo _ (by omega)]; exact g3 g hg, fun e' he' => ?_, fun c hc' => ?_⟩
            · by_cases z : e' = e
              · subst z
                have : LF w' e' = l := by unfold LF; rw [wv, el]; rfl
                rw [this, wv]
                exact ⟨rfl, hl1⟩
              · have : LF w' e' = LF (M.2.1 140) e' := by unfold LF; rw [wo _ (by omega)]
                rw [this, wo _ (by omega)]
                exact g4 e' he'
            · have t1 : atS w' c = atS (M.2.1 140) c := by unfold atS; rw [wo _ (by omega)]
              have t2 : gaS w' c = gaS (M.2.1 140) c := by unfold gaS; rw [wo _ (by omega)]
              rw [t1, t2, wo _ (by omega), wo _ (by omega), wo _ (by omega)]
              exact g5 c hc'
          · rw [if_neg (by omega), wo _ (by omega)]; exact hV.1
          · rw [if_neg (by omega), upF_cong (w := M.2.1 140) (fun g hg => wo _ (by omega))]; exact hV.2.1
          · by_cases z : e' = e
            · subst z; rw [if_pos ⟨rfl, rfl⟩, wv]
            · rw [if_neg (by omega), wo _ (by omega)]; exact hV.2.2.1 e' he'
          · rw [if_neg (by omega), if_neg (by omega), if_neg (by omega), wo _ (by omega), wo _ (by omega), wo _ (by omega)]
            exact hV.2.2.2 c hc'
    · exact bad (fun z => hnb (by omega))
  · exact bad (fun z => hna z.1)
end ACC
