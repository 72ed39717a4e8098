/-! STATES are copied; days ahead -/
def pSt (s : Nat) : Nat → Nat → Bool := fun a _ => decide (s ≤ a) && decide (a ≤ s + 5)
theorem pSt_no {s a k : Nat} (h : ¬ (s ≤ a ∧ a ≤ s + 5)) : pSt s a k = false := by
  unfold pSt
  cases q : decide (s ≤ a) with
  | false => rfl
  | true =>
    rw [Bool.true_and]
    exact decide_eq_false (fun z => h ⟨of_decide_eq_true q, z⟩)
theorem pSt_y {s j k : Nat} (h : j ≤ 5) : pSt s (s + j) k = true := by
  unfold pSt; rw [decide_eq_true (by omega), decide_eq_true (by omega)]; rfl
section CPY
variable {M N : sMem} {s t : Nat}
theorem c_copy (hS : StS M s) (hT : StS M t) (hd : ∀ i j, i ≤ 5 → j ≤ 5 → s + i ≠ t + j) : ∃ N, f_X8_copy s t M = some N ∧ Fr (pSt s) q0 M N ∧ (N.2.1 s 0 = M.2.1 t 0 ∧ N.2.1 s 1 = M.2.1 t 1 ∧ N.2.1 s 7 = M.2.1 t 7) ∧ (∀ j k, 1 ≤ j → j ≤ 4 → k < 5 → N.2.1 (s + j) k = M.2.1 (t + j) k) ∧ ∀ k, k < 120 → N.2.1 (s + 5) k = M.2.1 (t + 5) k := by
  have d0 : ∀ j, j ≤ 5 → t + j ≠ s := fun j hj z => hd 0 j (by decide) hj z.symm
  have no : ∀ j, j ≤ 5 → ¬ (s ≤ t + j ∧ t + j ≤ s + 5) := fun j hj z => hd (t + j - s) j (by omega) hj (by omega)
  obtain ⟨M2, m2⟩ : ∃ M2, M2 = wrI (wrI M s 0 (M.2.1 t 0)) s 1 (M.2.1 t 1) := ⟨_, rfl⟩
  have F2 : Fr (pSt s) q0 M M2 := by rw [m2]; exact (Fr.rf.wi (pSt_y (j := 0) (by decide))).wi (pSt_y (j := 0) (by decide))
  have S2 := hS.f F2
  have T2 := hT.f F2
  obtain ⟨N1, a1, f1, v1⟩ := cp_of (M := M2) (a := t + 1) (b := s + 1) (sp := 0) (dp := 0) (n := 5) T2.1.2.1 S2.1.2.1 (by decide) (by decide) (by decide) (by decide)
  have S3 := S2.f f1
  have T3 := T2.f f1
  obtain ⟨N2, a2, f2, v2⟩ := cp_of (M := N1) (a := t + 2) (b := s + 2) (sp := 0) (dp := 0) (n := 5) T3.1.2.2.1 S3.1.2.2.1 (by decide) (by decide) (by decide) (by decide)
  have S4 := S3.f f2
  have T4 := T3.f f2
  obtain ⟨N3, a3, f3, v3⟩ := cp_of (M := N2) (a := t + 3) (b := s + 3) (sp := 0) (dp := 0) (n := 5) T4.1.2.2.2.1 S4.1.2.2.2.1 (by decide) (by decide) (by decide) (by decide)
  have S5 := S4.f f3
  have T5 := T4.f f3
  obtain ⟨N4, a4, f4, v4⟩ := cp_of (M := N3) (a := t + 4) (b := s + 4) (sp := 0) (dp := 0) (n := 5) T5.1.2.2.2.2.1 S5.1.2.2.2.2.1 (by decide) (by decide) (by decide) (by decide)
  have S6 := S5.f f4
  have T6 := T5.f f4
  obtain ⟨N5, a5, f5, v5⟩ := cp_of (M := N4) (a := t + 5) (b := s + 5) (sp := 0) (dp := 0) (n := 120) T6.1.2.2.2.2.2 S6.1.2.2.2.2.2 (by decide) (by decide) (by decide) (by decide)
  have S7 := S6.f f5
  have T7 := T6.f f5
  have up : ∀ {j : Nat} {A B : sMem}, j ≤ 5 → Fr (fun x _ => x == s + j) q0 A B → Fr (pSt s) q0 A B := fun hj hF => hF.mono (fun a k z => beq_eq_false_iff_ne.mpr (fun w => by rw [w, pSt_y hj] at z; cases z)) (fun _ _ z => z)
  have g2 : Fr (pSt s) q0 M N1 := F2.tr (up (j := 1) (by decide) f1)
  have g3 : Fr (pSt s) q0 M N2 := g2.tr (up (j := 2) (by decide) f2)
  have g4 : Fr (pSt s) q0 M N3 := g3.tr (up (j := 3) (by decide) f3)
  have g5 : Fr (pSt s) q0 M N4 := g4.tr (up (j := 4) (by decide) f4)
  have g6 : Fr (pSt s) q0 M N5 := g5.tr (up (j := 5) (by decide) f5)
  have b1 : ∀ a k, a ≠ s + 1 → N1.2.1 a k = M2.2.1 a k := fun a k h => f1.i (beq_eq_false_iff_ne.mpr h)
  have b2 : ∀ a k, a ≠ s + 2 → N2.2.1 a k = N1.2.1 a k := fun a k h => f2.i (beq_eq_false_iff_ne.mpr h)
  have b3 : ∀ a k, a ≠ s + 3 → N3.2.1 a k = N2.2.1 a k := fun a k h => f3.i (beq_eq_false_iff_ne.mpr h)
  have b4 : ∀ a k, a ≠ s + 4 → N4.2.1 a k = N3.2.1 a k := fun a k h => f4.i (beq_eq_false_iff_ne.mpr h)
  have b5 : ∀ a k, a ≠ s + 5 → N5.2.1 a k = N4.2.1 a k := fun a k h => f5.i (beq_eq_false_iff_ne.mpr h)
  unfold f_X8_copy f_X8_copy_B87
  rw [sRc_of hS.1.1, iS hT, Option.bind_some, pS hS, Option.bind_some, iS (M := wrI M s 0 (M.2.1 t 0)) hT, Option.bind_some, wrI_ne (show ¬ (t = s ∧ 1 = 0) by omega), pS (M := wrI M s 0 (M.2.1 t 0)) hS, Option.bind_some, ← m2, gS2 T2, Option.bind_some, gS2 S2, Option.bind_some, show cpI M2 (t + 1) 0 (s + 1) 0 5 = some N1 from a1, Option.bind_some, gS3 T3, Option.bind_some, gS3 S3, Option.bind_some, show cpI N1 (t + 2) 0 (s + 2) 0 5 = some N2 from a2, Option.bind_some, gS4 T4, Option.bind_some, gS4 S4, Option.bind_some, show cpI N2 (t + 3) 0 (s + 3) 0 5 = some N3 from a3, Option.bind_some, gS5 T5, Option.bind_some, gS5 S5, Option.bind_some, show cpI N3 (t + 4) 0 (s + 4) 0 5 = some N4 from a4, Option.bind_some, gS6 T6, Option.bind_some, gS6 S6, Option.bind_some, show cpI N4 (t + 5) 0 (s + 5) 0 120 = some N5 from a5, Option.bind_some, iS T7, Option.bind_some, pS S7, Option.bind_some]
  refine ⟨_, rfl, g6.wi (pSt_y (j := 0) (by decide)), ⟨?_, ?_, ?_⟩, fun j k h1 h2 h3 => ?_, fun k hk => ?_⟩
  · rw [wrI_ne (by omega), b5 _ _ (by omega), b4 _ _ (by omega), b3 _ _ (by omega), b2 _ _ (by omega), b1 _ _ (by omega), m2, wrI_ne (by omega), wrI_eq]
  · rw [wrI_ne (by omega), b5 _ _ (by omega), b4 _ _ (by omega), b3 _ _ (by omega), b2 _ _ (by omega), b1 _ _ (by omega), m2, wrI_eq]
  · rw [wrI_eq, g6.i (a := t) (pSt_no (show ¬ (s ≤ t ∧ t ≤ s + 5) from no 0 (by decide)))]
  · rw [wrI_ne (by omega)]
    match j, h1, h2 with
    | 1, _, _ => rw [b5 _ _ (by omega), b4 _ _ (by omega), b3 _ _ (by omega), b2 _ _ (by omega), v1, if_pos (by omega), F2.i (pSt_no (no 1 (by decide))), show 0 + (k - 0) = k by omega]
    | 2, _, _ => rw [b5 _ _ (by omega), b4 _ _ (by omega), b3 _ _ (by omega), v2, if_pos (by omega), g2.i (pSt_no (no 2 (by decide))), show 0 + (k - 0) = k by omega]
    | 3, _, _ => rw [b5 _ _ (by omega), b4 _ _ (by omega), v3, if_pos (by omega), g3.i (pSt_no (no 3 (by decide))), show 0 + (k - 0) = k by omega]
    | 4, _, _ => rw [b5 _ _ (by omega), v4, if_pos (by omega), g4.i (pSt_no (no 4 (by decide))), show 0 + (k - 0) = k by omega]
  · rw [wrI_ne (by omega), v5, if_pos (by omega), g5.i (pSt_no (no 5 (by decide))), show 0 + (k - 0) = k by omega]
theorem SV.cp {w : Nat → Int32} {G E C : Nat} (h : SV w M t G E C) (hE : E ≤ 5) (hC : C ≤ 5) (h1 : N.2.1 s 0 = M.2.1 t 0 ∧ N.2.1 s 1 = M.2.1 t 1) (h2 : ∀ j k, 1 ≤ j → j ≤ 4 → k < 5 → N.2.1 (s + j) k = M.2.1 (t + j) k) : SV w N s G E C := by
  obtain ⟨a1, a2, a3, a4⟩ := h
  refine ⟨by rw [h1.1]; exact a1, by rw [h1.2]; exact a2, fun e he => by rw [h2 1 e (by decide) (by decide) (by omega)]; exact a3 e he, fun c hc => ?_⟩
  rw [h2 2 c (by decide) (by decide) (by omega), h2 3 c (by decide) (by decide) (by omega), h2 4 c (by decide) (by decide) (by omega)]
  exact a4 c hc
end CPY
noncomputable def dyI (u : Nat → Nat → Int32) (c0 c1 c2 : List Nat) (G P E C W : Nat) (w : Nat → Int32) : Nat → Nat → Int32
  | 0 => w
  | i + 1 => dayS u c0 c1 c2 G P E C W (dyI u c0 c1 c2 G P E C W w i)
section AHD
variable {M N : sMem} {D Do G P E C W k e c g m s n pc pn d : Nat} {c0 c1 c2 : List Nat} {w : Nat → Int32} {u : Nat → Nat → Int32}
theorem dyI_ok (hu : DU u G P E C W c0 c1 c2) (hw : WG w G P E C) (hd : w 0 = nI d) : ∀ i, d + i ≤ 999 → WG (dyI u c0 c1 c2 G P E C W w i) G P E C ∧ dyI u c0 c1 c2 G P E C W w i 0 = nI (d + i)
  | 0, _ => ⟨hw, hd⟩
  | i + 1, hi => by
    obtain ⟨h1, h2⟩ := dyI_ok hu hw hd i (by omega)
    refine ⟨WG_day hu h1 h2 (by omega), ?_⟩
    show dayS u c0 c1 c2 G P E C W (dyI u c0 c1 c2 G P E C W w i) 0 = _
    rw [day_0, h2]
    exact nI_1 (d + i)
theorem ps_sc {a k : Nat} (h : scC a k = false) : pPs 60 a k = false := imF (fun z => by unfold pPs pRow at z; unfold scC; simp only [Bool.or_eq_true, Bool.and_eq_true, beq_iff_eq, decide_eq_true_eq] at z ⊢; omega) h
theorem st_sc {a k : Nat} (h : scC a k = false) : pSt 60 a k = false := imF (fun z => by unfold pSt at z; unfold scC; simp only [Bool.or_eq_true, Bool.and_eq_true, beq_iff_eq, decide_eq_true_eq] at z ⊢; omega) h
theorem kpN_le {kc : Nat} (h : kc ≤ 40) : kpN kc ≤ 40 := by unfold kpN; split <;> omega
/-- the class goes ahead -/
theorem c_ahead (h : KI M D G P E C W c0 c1 c2) (hd : M.2.1 140 0 = nI d) {j : Nat} (hj : j ≤ 60) (hdj : d + j ≤ 999) : ∃ N, f_X11_goesAhead 0 (nI j) M = some (1, N) ∧ FrB scC scQ rRow M N ∧ RowsI (uR M) N G c0 ∧ SV (dyI (uR M) c0 c1 c2 G P E C W (M.2.1 140) j) N 60 G E C := by
  have hc := h.hc
  have hb := h.n.2
  have hu := h.2.1
  obtain ⟨hV, hw⟩ := h.2.2.2.2.1
  obtain ⟨kc, kc1, kc2, kc3⟩ := h.2.2.2.2.2.2.1
  obtain ⟨M1, a1, a2, a3, a4, a5⟩ := c_copy (M := M) (s := 60) (t := 54) (StS60 hc) (StS54 hc) (fun i j hi hj => by omega)
  have f1 : FrB scC scQ rRow M M1 := a2.fb.mono (fun _ _ z => st_sc z) (fun _ _ _ => rfl) (fun _ _ z => z)
  have r1 : RowsI (uR M) M1 G c0 := h.2.2.2.1.1.fr hc (a2.fb (R := fun _ _ => false)) (fun _ => rfl) (fun _ _ _ => rfl) (fun _ => rfl)
  unfold f_X11_goesAhead f_X11_goesAhead_L40
  rw [sr0 hc, if_neg (nI_pos (by omega)), if_neg (by rw [show (60 : Int32) = nI 60 from rfl, clt (by decide) (by omega)]; omega), gr0_4 hc, Option.bind_some, gi54 hc, Option.bind_some, hV.1, hd, nI_add, if_pos (by rw [show (999 : Int32) = nI 999 from rfl, cle (by omega) (by decide)]; omega), gr0_5 hc, Option.bind_some, Option.bind_some, a1, Option.bind_some]
  obtain ⟨b, b1, b2⟩ := itr_up (f := fun a : (Int32 × sMem) => f_X11_goesAhead_K40 0 (nI j) a.1 a.2) (fun i N => FrB scC scQ rRow M N ∧ RowsI (uR M) N G c0 ∧ SV (dyI (uR M) c0 c1 c2 G P E C W (M.2.1 140) i) N 60 G E C ∧ ∃ kc, kc ≤ 40 ∧ N.2.1 60 7 = nI kc) (fun b => b.1 = 1 ∧ FrB scC scQ rRow M b.2 ∧ RowsI (uR M) b.2 G c0 ∧ SV (dyI (uR M) c0 c1 c2 G P E C W (M.2.1 140) j) b.2 60 G E C) j (by omega) (by
    rintro i N hi ⟨i1, i2, i3, kc', i4, i5⟩
    dsimp only
    unfold f_X11_goesAhead_K40
    by_cases q : i = j
    · right
      subst q
      rw [if_pos (nI_le (Nat.le_refl _) (by omega))]
      exact ⟨_, rfl, rfl, i1, i2, i3⟩
    · left
      obtain ⟨kN, eu⟩ := h.cls i1 i2
      obtain ⟨w1, w2⟩ := dyI_ok hu hw hd i (by omega)
      obtain ⟨N', p1, p2, p3, p4, p5, _⟩ := c_pass (s := 60) (w := dyI (uR M) c0 c1 c2 G P E C W (M.2.1 140) i) kN.cv kN.2.1 kN.2.2.2.1.1 kN.2.2.2.1.2 (StS60 kN.hc) (Or.inr rfl) i3 w1 i4 i5 w2 (by omega)
      rw [eu] at p3 p4
      rw [if_neg (nI_ge (by omega) (by omega)), gr0_9 kN.hc, Option.bind_some, gr0_5 kN.hc, Option.bind_some, p1]
      refine ⟨by omega, N', ?_, i1.tr (p2.mono (fun _ _ z => ps_sc z) (fun _ _ z => cl3_sc z) (fun _ _ z => z)), p3, p4, _, kpN_le i4, p5⟩
      dsimp only [Option.bind_some]
      rw [nI_1]) (i := 0) (s := M1) (by omega) ⟨f1, r1, hV.cp hb.2.2.1 hb.2.2.2.1 ⟨a3.1, a3.2.1⟩ a4, kc, kc1, by rw [a3.2.2]; exact kc3⟩
  replace b1 : sItr (fun a : (Int32 × sMem) => f_X11_goesAhead_K40 0 (nI j) a.1 a.2) sFuel (0, M1) = some b := b1
  rw [b1, Option.bind_some]
  obtain ⟨x, N⟩ := b
  obtain ⟨b2, b3, b4, b5⟩ := b2
  dsimp only at b2 b3 b4 b5
  subst b2
  exact ⟨N, rfl, b3, b4, b5⟩
theorem c_ahead_no (h : KI M D G P E C W c0 c1 c2) (hd : M.2.1 140 0 = nI d) (hd9 : d ≤ 999) {a : Int32} (hn : ¬ ((0 ≤ a.toInt ∧ a.toInt ≤ 60) ∧ d + a.toInt ≤ 999)) : f_X11_goesAhead 0 a M = some (0, M) := by
  have hc := h.hc
  obtain ⟨hV, hw⟩ := h.2.2.2.2.1
  have e0 : (0 : Int32).toInt = 0 := rfl
  have e60 : (60 : Int32).toInt = 60 := rfl
  have e999 : (999 : Int32).toInt = 999 := rfl
  have ed : (nI d).toInt = d := nI_i (by omega)
  unfold f_X11_goesAhead
  rw [sr0 hc]
  by_cases q1 : a < 0
  · rw [if_pos q1]
  · rw [if_neg q1]
    have q1' := le_i.mp (Int32.not_lt.mp q1)
    by_cases q2 : (60 : Int32) < a
    · rw [if_pos q2]
    · rw [if_neg q2]
      have q2' := le_i.mp (Int32.not_lt.mp q2)
      rw [gr0_4 hc, Option.bind_some, gi54 hc, Option.bind_some, hV.1, hd, if_neg (fun z => ?_)]
      have z' := le_i.mp z
      rw [add_i (by omega) (by omega), ed] at z'
      exact hn ⟨⟨by omega, by omega⟩, by omega⟩
/-- the reference's test -/
theorem r_isAhead (h : KI M D G P E C W c0 c1 c2) (hd : M.2.1 140 0 = nI d) (hd9 : d ≤ 999) (a : Int32) {lo hi : Nat} (hlo : lo ≤ 1000) (hhi : hi ≤ 1000) : f_X12_isAhead 94 a (nI lo) (nI hi) M = some (bI (0 < (uR M 130 2).toInt ∧ ((lo : Int) ≤ a.toInt ∧ a.toInt ≤ hi) ∧ d + a.toInt ≤ 999)) := by
  have hs := h.1
  have ed : (nI d).toInt = d := nI_i (by omega)
  have e999 : (999 : Int32).toInt = 999 := rfl
  unfold f_X12_isAhead
  rw [sr94 hs, gi94 hs, Option.bind_some, h.2.2.2.2.2.2.2]
  by_cases q0 : 0 < (uR M 130 2).toInt
  · rw [if_neg (bI_y q0), isIn_of, Option.bind_some, i64, i64, i64, nI_i (by omega), nI_i (by omega)]
    by_cases q1 : (lo : Int) ≤ a.toInt ∧ a.toInt ≤ hi
    · rw [if_neg (bI_y q1), gr94_59 hs, Option.bind_some, show ldI 14 M 140 0 = some (M.2.1 140 0) from ld140 hs (j := 0) (by decide), Option.bind_some, hd]
      have es : (nI d + a).toInt = d + a.toInt := by rw [add_i (by omega) (by omega), ed]
      by_cases q2 : (999 : Int32) < nI d + a
      · have q2' := lt_i.mp q2
        rw [if_pos q2, bI_f (fun z => by omega)]
      · have q2' : ¬ (999 : Int32).toInt < (nI d + a).toInt := fun z => q2 (lt_i.mpr z)
        rw [if_neg q2, bI_t ⟨q0, q1, by omega⟩]
    · rw [if_pos (bI_0.mpr q1), bI_f (fun z => q1 z.2.1)]
  · rw [if_pos (bI_0.mpr q0), bI_f (fun z => q0 z.1)]
/-- some of now are put aside -/
theorem r_aside (hs : RefS M.1 M.2.2.2) : ∃ N, f_X12_putsAside 94 M = some N ∧ Fr (fun a k => a == 141 || (a == 94 && k == 70)) q0 M N ∧ N.2.1 94 70 = 1 ∧ ∀ i, i < 27 → N.2.1 141 i = M.2.1 140 i := by
  unfold f_X12_putsAside f_X12_putsAside_L7
  rw [sr94 hs, pZ_of (rs94 hs) (Or.inr rfl), Option.bind_some]
  obtain ⟨N, b1, b2, b3, b4⟩ := itr_up (f := fun a : (Int32 × sMem) => f_X12_putsAside_K7 94 a.1 a.2) (fun i N => Fr (fun a k => a == 141 || (a == 94 && k == 70)) q0 M N ∧ N.2.1 94 70 = 1 ∧ ∀ j, j < i → N.2.1 141 j = M.2.1 140 j) (fun N => Fr (fun a k => a == 141 || (a == 94 && k == 70)) q0 M N ∧ N.2.1 94 70 = 1 ∧ ∀ j, j < 27 → N.2.1 141 j = M.2.1 140 j) 27 (by decide) (by
    rintro i N hi ⟨i1, i2, i3⟩
    dsimp only
    unfold f_X12_putsAside_K7
    by_cases q : i = 27
    · right
      subst q
      rw [if_pos (by decide)]
      exact ⟨N, rfl, i1, i2, i3⟩
    · left
      have hsN := i1.hs hs
      rw [if_neg (by rw [show (27 : Int32) = nI 27 from rfl, cle (by decide) (by omega)]; omega), gr94_60 hsN, Option.bind_some, gr94_59 hsN, Option.bind_some, ld140 hsN (by omega), Option.bind_some, st141 hsN (by omega), Option.bind_some, nI_1]
      refine ⟨by omega, _, rfl, i1.wi rfl, by rw [wrI_ne (by omega)]; exact i2, fun j hj => ?_⟩
      by_cases w : j = i
      · subst w; rw [wrI_eq]; exact i1.i rfl
      · rw [wrI_ne (by omega)]; exact i3 j (by omega)) (i := 0) (s := wrI M 94 70 1) (by decide) ⟨Fr.rf.wi rfl, wrI_eq, fun j hj => by omega⟩
  replace b1 : sItr (fun a : (Int32 × sMem) => f_X12_putsAside_K7 94 a.1 a.2) sFuel (0, wrI M 94 70 1) = some N := b1
  rw [b1]
  exact ⟨N, rfl, b2, b3, b4⟩
theorem r_back (hs : RefS M.1 M.2.2.2) : ∃ N, f_X12_takesBack 94 M = some N ∧ Fr (fun a k => (a == 140 && decide (k < 27)) || (a == 94 && k == 70)) q0 M N ∧ N.2.1 94 70 = 0 ∧ ∀ i, i < 27 → N.2.1 140 i = M.2.1 141 i := by
  unfold f_X12_takesBack f_X12_takesBack_L2
  rw [sr94 hs]
  obtain ⟨N, b1, b2, b4⟩ := itr_up (f := fun a : (Int32 × sMem) => f_X12_takesBack_K2 94 a.1 a.2) (fun i N => Fr (fun a k => (a == 140 && decide (k < 27)) || (a == 94 && k == 70)) q0 M N ∧ ∀ j, j < i → N.2.1 140 j = M.2.1 141 j) (fun N => Fr (fun a k => (a == 140 && decide (k < 27)) || (a == 94 && k == 70)) q0 M N ∧ ∀ j, j < 27 → N.2.1 140 j = M.2.1 141 j) 27 (by decide) (by
    rintro i N hi ⟨i1, i3⟩
    dsimp only
    unfold f_X12_takesBack_K2
    by_cases q : i = 27
    · right
      subst q
      rw [if_pos (by decide)]
      exact ⟨N, rfl, i1, i3⟩
    · left
      have hsN := i1.hs hs
      rw [if_neg (by rw [show (27 : Int32) = nI 27 from rfl, cle (by decide) (by omega)]; omega), gr94_59 hsN, Option.bind_some, gr94_60 hsN, Option.bind_some, ld141 hsN (by omega), Option.bind_some, st140 hsN (by omega), Option.bind_some, nI_1]
      refine ⟨by omega, _, rfl, i1.wi (by rw [decide_eq_true (show i < 27 by omega)]; rfl), fun j hj => ?_⟩
      by_cases w : j = i
      · subst w; rw [wrI_eq]; exact i1.i rfl
      · rw [wrI_ne (by omega)]; exact i3 j (by omega)) (i := 0) (s := M) (by decide) ⟨Fr.rf, fun j hj => by omega⟩
  replace b1 : sItr (fun a : (Int32 × sMem) => f_X12_takesBack_K2 94 a.1 a.2) sFuel (0, M) = some N := b1
  rw [b1, Option.bind_some]
  unfold f_X12_takesBack_B26
  rw [pZ_of (rs94 (b2.hs hs)) (Or.inl rfl), Option.bind_some]
  exact ⟨_, rfl, b2.wi rfl, wrI_eq, fun i hi => by rw [wrI_ne (by omega)]; exact b4 i hi⟩
/-- the reference goes ahead, thinking -/
theorem r_ahead (h : KI M D G P E C W c0 c1 c2) (hd : M.2.1 140 0 = nI d) {j : Nat} (hj : j ≤ 60) (hdj : d + j ≤ 999) : ∃ N1 N2 N3, f_X12_putsAside 94 M = some N1 ∧ f_X12_daysGo 94 (nI j) N1 = some N2 ∧ RefS N2.1 N2.2.2.2 ∧ (∀ i, i < 27 → N2.2.1 140 i = dyI (uR M) c0 c1 c2 G P E C W (M.2.1 140) j i) ∧ f_X12_takesBack 94 N2 = some N3 ∧ Fr scR scS M N3 := by
  have hs := h.1
  have hu := h.2.1
  obtain ⟨hV, hw⟩ := h.2.2.2.2.1
  obtain ⟨kc, kc1, kc2, kc3⟩ := h.2.2.2.2.2.2.1
  obtain ⟨N1, a1, a2, a3, a4⟩ := r_aside hs
  have hs1 := a2.hs hs
  have hR1 : RV (uR M) N1 := (RV_uR hs).fr a2 (fun a k h1 h2 => by
    rw [beq_eq_false_iff_ne.mpr (show a ≠ 141 by omega), beq_eq_false_iff_ne.mpr (show a ≠ 94 by omega)]; rfl)
  obtain ⟨N2, b1, b2, b3, b4, b5⟩ : ∃ N2, f_X12_daysGo 94 (nI j) N1 = some N2 ∧ Fr pDy qDy N1 N2 ∧ (∀ i, i < 27 → N2.2.1 140 i = dyI (uR M) c0 c1 c2 G P E C W (M.2.1 140) j i) ∧ (∀ i, 27 ≤ i → N2.2.1 140 i = N1.2.1 140 i) ∧ N2.2.1 94 70 = 1 := by
    unfold f_X12_daysGo f_X12_daysGo_L2
    rw [sr94 hs1]
    obtain ⟨N2, b1, b2⟩ := itr_up (f := fun a : (Int32 × sMem) => f_X12_daysGo_K2 94 (nI j) a.1 a.2) (fun i N => Fr pDy qDy N1 N ∧ (∀ x, x < 27 → N.2.1 140 x = dyI (uR M) c0 c1 c2 G P E C W (M.2.1 140) i x) ∧ (∀ x, 27 ≤ x → N.2.1 140 x = N1.2.1 140 x) ∧ N.2.1 94 70 = 1) (fun N => Fr pDy qDy N1 N ∧ (∀ x, x < 27 → N.2.1 140 x = dyI (uR M) c0 c1 c2 G P E C W (M.2.1 140) j x) ∧ (∀ x, 27 ≤ x → N.2.1 140 x = N1.2.1 140 x) ∧ N.2.1 94 70 = 1) j (by omega) (by
      rintro i N hi ⟨i1, i2, i3, i4⟩
      dsimp only
      unfold f_X12_daysGo_K2
      by_cases q : i = j
      · right
        subst q
        rw [if_pos (nI_le (Nat.le_refl _) (by omega))]
        exact ⟨_, rfl, i1, i2, i3, i4⟩
      · left
        obtain ⟨w1, w2⟩ := dyI_ok hu hw hd i (by omega)
        obtain ⟨N', p1, p2, p3, p4, p5, p6⟩ := r_day (w := dyI (uR M) c0 c1 c2 G P E C W (M.2.1 140) i) (hR1.fr i1 (fun a k h1 h2 => dy_130 h1 h2)) hu w1 i2 kc1 (by rw [i3 27 (by decide), a2.i rfl]; exact kc2) (Or.inr i4)
        rw [if_neg (nI_ge (by omega) (by omega)), p1, Option.bind_some, nI_1]
        exact ⟨by omega, N', rfl, i1.tr p2, p3, fun x hx => by rw [p5 i4 x hx]; exact i3 x hx, by rw [p2.i rfl]; exact i4⟩) (i := 0) (s := N1) (by omega) ⟨Fr.rf, fun x hx => a2.i rfl, fun x hx => rfl, a3⟩
    replace b1 : sItr (fun a : (Int32 × sMem) => f_X12_daysGo_K2 94 (nI j) a.1 a.2) sFuel (0, N1) = some N2 := b1
    rw [b1]
    exact ⟨N2, rfl, b2⟩
  have hs2 := b2.hs hs1
  obtain ⟨N3, d1, d2, d3, d4⟩ := r_back hs2
  refine ⟨N1, N2, N3, a1, b1, hs2, b3, d1, d2.1.trans (b2.1.trans a2.1), d2.2.1.trans (b2.2.1.trans a2.2.1), fun a k z => ?_, fun a k z => ?_⟩
  · by_cases q1 : a = 140
    · subst q1
      by_cases q2 : k < 27
      · rw [d4 k q2, b2.i rfl, a4 k q2]
      · rw [d2.i (by rw [decide_eq_false q2]; rfl), b4 k (by omega), a2.i rfl]
    · by_cases q2 : a = 94 ∧ k = 70
      · rw [q2.1, q2.2, d3, h.2.2.2.2.2.1]
      · have z1 : (a == 141) = false := beq_eq_false_iff_ne.mpr (fun w => by
          subst w
          have e : scR 141 k = true := rfl
          rw [e] at z; cases z)
        have z2 : (a == 94 && k == 70) = false := by
          by_cases w : a = 94
          · rw [beq_eq_false_iff_ne.mpr (show k ≠ 70 from fun y => q2 ⟨w, y⟩), Bool.and_false]
          · rw [beq_eq_false_iff_ne.mpr w, Bool.false_and]
        rw [d2.i (by rw [z2, beq_eq_false_iff_ne.mpr q1]; rfl), b2.i (imF (fun y => by
          unfold pDy at y
          simp only [Bool.or_eq_true, Bool.and_eq_true, beq_iff_eq] at y
          unfold scR
          simp only [Bool.or_eq_true, Bool.and_eq_true, beq_iff_eq, decide_eq_true_eq]
          omega) z), a2.i (by rw [z1, z2]; rfl)]
  · rw [d2.j rfl, b2.j (imF (fun y => by
      unfold qDy at y
      simp only [Bool.or_eq_true, Bool.and_eq_true, beq_iff_eq] at y
      unfold scS
      simp only [Bool.or_eq_true, Bool.and_eq_true, beq_iff_eq]
      omega) z), a2.j rfl]
theorem KI.day (h : KI M D G P E C W c0 c1 c2) : ∃ d, d ≤ 999 ∧ M.2.1 140 0 = nI d := h.2.2.2.2.1.2.1
theorem ok_late (h : IX M D Do G P E C W c0 c1 c2 n pc pn) (a b : Int32) : ∃ r M1 M2, f_X11_late 0 a b M = some (r, M1) ∧ f_X12_late 94 a b M1 = some (r, M2) ∧ Inv M2 := by
  have k := h.1
  have hc := k.hc
  have hb := k.n.2
  obtain ⟨d, hd9, hd⟩ := k.day
  have ra := fun a => r_isAhead k hd hd9 a (lo := 0) (hi := 60) (by decide) (by decide)
  replace ra : ∀ a, f_X12_isAhead 94 a 0 60 M = _ := ra
  have bad : ¬ ((0 ≤ a.toInt ∧ a.toInt < (E : Int)) ∧ (0 ≤ b.toInt ∧ b.toInt ≤ 60) ∧ d + b.toInt ≤ 999) → ∃ r M1 M2, f_X11_late 0 a b M = some (r, M1) ∧ f_X12_late 94 a b M1 = some (r, M2) ∧ Inv M2 := fun hn => by
    refine ⟨-1, M, M, ?_, ?_, h.inv⟩
    · unfold f_X11_late
      simp only [sr0 hc, k.cv.p0, k.cv.g4, k.tE, Option.bind_some]
      by_cases q : 0 ≤ a.toInt ∧ a.toInt < (E : Int)
      · rw [if_neg (bI_y q), c_ahead_no k hd hd9 (fun z => hn ⟨q, z⟩)]
        rfl
      · rw [if_pos (bI_0.mpr q)]
    · unfold f_X12_late
      simp only [sr94 k.1, k.rE, ra, Option.bind_some]
      by_cases q : 0 ≤ a.toInt ∧ a.toInt < (E : Int)
      · rw [if_neg (bI_y q), if_pos (bI_0.mpr (fun z => hn ⟨q, by have := z.2; omega⟩))]
      · rw [if_pos (bI_0.mpr q)]
  rcases arg_c a E (by omega) with ⟨e, he, rfl⟩ | hn
  · rcases arg_c b 61 (by decide) with ⟨j, hj, rfl⟩ | hn
    · have ej : (nI j).toInt = j := nI_i (by omega)
      by_cases q : d + j ≤ 999
      · have he1 := inR he (show E < 2147483648 by omega)
        have ht := k.2.1.told (Or.inr (Or.inr (Or.inl (by omega))))
        obtain ⟨N1, a1, a2, a3, a4⟩ := c_ahead k hd (show j ≤ 60 by omega) q
        obtain ⟨k1, eu⟩ := k.cls a2 a3
        have hl : 187 ≤ M.1.length := k.cv.ln
        have e140 : N1.2.1 140 = M.2.1 140 := funext fun k => a2.i (by omega) rfl
        obtain ⟨d', hd9', hd'⟩ := k1.day
        have hdd : d' = d := by rw [e140, hd] at hd'; exact ((nI_eq (by omega) (by omega)).mp hd').symm
        subst hdd
        obtain ⟨O1, O2, O3, b1, b2, b3, b4, b5, b6⟩ := r_ahead k1 hd' (show j ≤ 60 by omega) q
        rw [eu, e140] at b4
        have ra1 := r_isAhead k1 hd' hd9' (nI j) (lo := 0) (hi := 60) (by decide) (by decide)
        replace ra1 : f_X12_isAhead 94 (nI j) 0 60 N1 = _ := ra1
        refine ⟨dyI (uR M) c0 c1 c2 G P E C W (M.2.1 140) j (7 + e), N1, O3, ?_, ?_, (h.q a2 a3 b6).inv⟩
        · unfold f_X11_late
          simp only [sr0 hc, k.cv.p0, k.cv.g4, k.tE, Option.bind_some, bI_t he1, one0, if_false, a1, gr0_5 k1.hc, gS2 (StS60 k1.hc), lS1 (StS60 k1.hc) (show e < 5 by omega), a4.2.2.1 e he]
        · unfold f_X12_late
          simp only [sr94 k1.1, k1.rE, ra1, Option.bind_some, bI_t he1, one0, if_false, b1, b2, r_lateOf b3 (show e < 5 by omega), b4 (7 + e) (by omega), b5]
          rw [if_neg (bI_y ⟨by rw [eu]; exact ht, by omega, by omega⟩)]
      · exact bad (fun z => by rw [ej] at z; omega)
    · exact bad (fun z => hn (by omega))
  · exact bad (fun z => hn z.1)
theorem ok_later (h : IX M D Do G P E C W c0 c1 c2 n pc pn) (a b x : Int32) : ∃ r M1 M2, f_X11_later 0 a b x M = some (r, M1) ∧ f_X12_later 94 a b x M1 = some (r, M2) ∧ Inv M2 := by
  have k := h.1
  have hc := k.hc
  have hb := k.n.2
  obtain ⟨d, hd9, hd⟩ := k.day
  have e0 : (0 : Int32).toInt = 0 := rfl
  have e1 : (1 : Int32).toInt = 1 := rfl
  have f0 : (0 : Int64).toInt = 0 := rfl
  have f1 : (1 : Int64).toInt = 1 := rfl
  have ra := fun a => r_isAhead k hd hd9 a (lo := 0) (hi := 60) (by decide) (by decide)
  replace ra : ∀ a, f_X12_isAhead 94 a 0 60 M = _ := ra
  have bad : ¬ ((0 ≤ a.toInt ∧ a.toInt < (C : Int)) ∧ ((0 ≤ b.toInt ∧ b.toInt ≤ 60) ∧ d + b.toInt ≤ 999) ∧ 0 ≤ x.toInt ∧ x.toInt ≤ 1) → ∃ r M1 M2, f_X11_later 0 a b x M = some (r, M1) ∧ f_X12_later 94 a b x M1 = some (r, M2) ∧ Inv M2 := fun hn => by
    refine ⟨-1, M, M, ?_, ?_, h.inv⟩
    · unfold f_X11_later
      simp only [sr0 hc, k.cv.p0, k.cv.g5, k.tC, Option.bind_some]
      by_cases q : 0 ≤ a.toInt ∧ a.toInt < (C : Int)
      · rw [if_neg (bI_y q)]
        by_cases q1 : x < 0
        · rw [if_pos q1]
        · rw [if_neg q1]
          have q1' := le_i.mp (Int32.not_lt.mp q1)
          by_cases q2 : (1 : Int32) < x
          · rw [if_pos q2]
          · rw [if_neg q2]
            have q2' := le_i.mp (Int32.not_lt.mp q2)
            rw [c_ahead_no k hd hd9 (fun z => hn ⟨q, z, by omega⟩)]
            rfl
      · rw [if_pos (bI_0.mpr q)]
    · unfold f_X12_later
      simp only [sr94 k.1, k.rC, ra, isIn_of, i64, Option.bind_some]
      by_cases q : 0 ≤ a.toInt ∧ a.toInt < (C : Int)
      · rw [if_neg (bI_y q)]
        by_cases q1 : (0 ≤ b.toInt ∧ b.toInt ≤ 60) ∧ d + b.toInt ≤ 999
        · have ht := k.2.1.told (Or.inr (Or.inr (Or.inr (Or.inl (by omega)))))
          rw [if_neg (bI_y ⟨ht, by omega, by omega⟩), if_pos (bI_0.mpr (fun z => hn ⟨q, q1, by omega⟩))]
        · rw [if_pos (bI_0.mpr (fun z => q1 (by have := z.2; omega)))]
      · rw [if_pos (bI_0.mpr q)]
  rcases arg_c a C (by omega) with ⟨c, hcC, rfl⟩ | hn
  · rcases arg_c b 61 (by decide) with ⟨j, hj, rfl⟩ | hn
    · have ej : (nI j).toInt = j := nI_i (by omega)
      by_cases q : d + j ≤ 999
      · by_cases qx : 0 ≤ x.toInt ∧ x.toInt ≤ 1
        · have he1 := inR hcC (show C < 2147483648 by omega)
          have ht := k.2.1.told (Or.inr (Or.inr (Or.inr (Or.inl (by omega)))))
          obtain ⟨N1, a1, a2, a3, a4⟩ := c_ahead k hd (show j ≤ 60 by omega) q
          obtain ⟨k1, eu⟩ := k.cls a2 a3
          have hl : 187 ≤ M.1.length := k.cv.ln
          have e140 : N1.2.1 140 = M.2.1 140 := funext fun k => a2.i (by omega) rfl
          obtain ⟨d', hd9', hd'⟩ := k1.day
          have hdd : d' = d := by rw [e140, hd] at hd'; exact ((nI_eq (by omega) (by omega)).mp hd').symm
          subst hdd
          obtain ⟨O1, O2, O3, b1, b2, b3, b4, b5, b6⟩ := r_ahead k1 hd' (show j ≤ 60 by omega) q
          rw [eu, e140] at b4
          have ra1 := r_isAhead k1 hd' hd9' (nI j) (lo := 0) (hi := 60) (by decide) (by decide)
          replace ra1 : f_X12_isAhead 94 (nI j) 0 60 N1 = _ := ra1
          have hS := StS60 k1.hc
          obtain ⟨v1, v2, v3⟩ := a4.2.2.2 c hcC
          have x1 : ¬ x < 0 := fun z => by have := lt_i.mp z; omega
          have x2 : ¬ (1 : Int32) < x := fun z => by have := lt_i.mp z; omega
          refine ⟨if x = 0 then dyI (uR M) c0 c1 c2 G P E C W (M.2.1 140) j (12 + 3 * c) else dyI (uR M) c0 c1 c2 G P E C W (M.2.1 140) j (14 + 3 * c), N1, O3, ?_, ?_, (h.q a2 a3 b6).inv⟩
          · unfold f_X11_later
            simp only [sr0 hc, k.cv.p0, k.cv.g5, k.tC, Option.bind_some, bI_t he1, one0, if_false, if_neg x1, if_neg x2, a1, gr0_5 k1.hc, gS3 hS, gS5 hS, lS2 hS (show c < 5 by omega), lS4 hS (show c < 5 by omega), v1, v3]
            by_cases qq : x = 0
            · rw [if_pos qq, if_pos qq]
            · rw [if_neg qq, if_neg qq]
          · unfold f_X12_later f_X12_later_B57
            simp only [sr94 k1.1, k1.rC, ra1, isIn_of, i64, Option.bind_some, bI_t he1, one0, if_false, b1, b2, r_placeOf b3 (show c < 5 by omega), r_knowsOf b3 (show c < 5 by omega), b4 (12 + 3 * c) (by omega), b4 (14 + 3 * c) (by omega), b5]
            rw [if_neg (bI_y ⟨by rw [eu]; exact ht, by omega, by omega⟩), if_neg (bI_y (by omega))]
            by_cases qq : x = 0
            · rw [if_pos qq, if_pos qq]
            · rw [if_neg qq, if_neg qq]
        · exact bad (fun z => qx z.2.2)
      · exact bad (fun z => by rw [ej] at z; omega)
    · exact bad (fun z => hn (by omega))
  · exact bad (fun z => hn z.1)
end AHD
