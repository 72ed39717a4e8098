/-! ACTS: days -/
section ACE
variable {M N N1 N2 N3 N4 : sMem} {D Do G P E C W k e c g m s n pc pn kc d : Nat} {c0 c1 c2 : List Nat} {w w' K K' : Nat → Int32} {u : Nat → Nat → Int32}
theorem KI.rm (h : IX M D Do G P E C W c0 c1 c2 n pc pn) (hR : RmS M N1 s pn) : KI N1 D G P E C W c0 c1 c2 ∧ uR N1 = uR M := by
  obtain ⟨k, _, _, _, _, ⟨⟨_, t10, _⟩, _⟩⟩ := h
  have hc := hR.hc k.hc
  have hs := hR.hs k.1
  have hl : 187 ≤ M.1.length := k.cv.ln
  have hlen := hR.len
  obtain ⟨r1, r2, r3, r4, ⟨r5, r6, r7⟩, r8, r9⟩ := hR
  have is : ∀ a k, 1 ≤ a → a < 187 → N1.2.1 a k = M.2.1 a k := fun a k h1 h2 => r2 a k (by omega) (by omega) (by omega)
  have eu : uR N1 = uR M := uR_cong (fun a k q1 q2 => is _ _ (by omega) (by omega))
  have e140 : N1.2.1 140 = M.2.1 140 := funext fun k => is _ _ (by decide) (by decide)
  obtain ⟨h1, h2, h3, ⟨h4, h5⟩, ⟨h6, h7⟩, h8, ⟨kc, h9, h10, h11⟩, h12⟩ := k
  have pq : ∀ p q k, p ∈ prgL → M.2.2.2 p 0 = some q → N1.2.1 q k = M.2.1 q k := fun p q k hp hq => by
    obtain ⟨_, q', m, s', a2, a3, a4, a5, a6, a7⟩ := t10.2.1 p hp
    obtain rfl := Option.some.inj (a2.symm.trans hq)
    have hpl := (by decide : ∀ p ∈ prgL, 8 ≤ p ∧ p ≤ 52) p hp
    refine r2 _ _ (lt_of_sh a3) (fun z => ?_) (by omega)
    obtain ⟨x, x1, x2⟩ := r6.shp (j := q' - s) (by omega)
    rw [show s + (q' - s) = q' by omega, r1 _ _ a3] at x1
    exact t10.nS hp a2 a3 (by rw [Option.some.inj x1]; exact x2)
  have rp : ∀ p ∈ prgL, N1.2.2.2 p 0 = M.2.2.2 p 0 := fun p hp => by
    have hpl := (by decide : ∀ p ∈ prgL, 8 ≤ p ∧ p ≤ 52) p hp
    exact r4 _ _ (by omega) (by omega)
  have r77 : ∀ w, N1.2.2.2 77 w = M.2.2.2 77 w := fun w => r4 _ _ (by omega) (by omega)
  have rows : RowsI (uR M) N1 G c0 := by
    obtain ⟨z1, z2, z3⟩ := h4
    refine ⟨fun w q hw hq => ?_, fun w w' q hw hw' x1 x2 => z2 w w' q hw hw' (by rw [← r77]; exact x1) (by rw [← r77]; exact x2), fun w hw hm => ?_⟩
    · rw [r77] at hq
      exact ⟨(z1 w q hw hq).1, r1 _ _ (z1 w q hw hq).2⟩
    · rw [is _ _ (by decide) (by decide)] at hm
      obtain ⟨q, q1, q2⟩ := z3 w hw hm
      refine ⟨q, by rw [r77]; exact q1, fun g m hg hm2 => ?_⟩
      have : N1.2.2.1 q = M.2.2.1 q := funext fun k => r3 q k (lt_of_sh (z1 w q hw q1).2)
      rw [this]; exact q2 g m hg hm2
  refine ⟨⟨hs, by rw [eu]; exact h2, ?_, ⟨by rw [eu]; exact rows, fun k hk => by rw [r3 _ _ (by omega)]; exact h5 k hk⟩, ⟨by rw [e140]; exact h6.sm (fun _ => rfl) (fun j k hj => is _ _ (by omega) (by omega)), by rw [e140]; exact h7⟩, by rw [is _ _ (by decide) (by decide)]; exact h8, ⟨kc, h9, by rw [e140]; exact h10, by rw [is _ _ (by decide) (by decide)]; exact h11⟩, by rw [eu, is _ _ (by decide) (by decide)]; exact h12⟩, eu⟩
  rw [eu]
  exact h3.gen hc r1 (by omega) (fun a k h1 h2 => is _ _ (by omega) (by omega)) pq ⟨r4 _ _ (by omega) (by omega), r4 _ _ (by omega) (by omega), r4 _ _ (by omega) (by omega), r4 _ _ (by omega) (by omega)⟩ rp
/-- the class's state, the reference's -/
def CR (N : sMem) (G P E C : Nat) (w : Nat → Int32) (kc : Nat) (K : Nat → Int32) : Prop := SV w N 54 G E C ∧ kc ≤ 40 ∧ N.2.1 54 7 = nI kc ∧ ∀ k, k < 3 * kc → N.2.1 59 k = K k
def RR (N : sMem) (w : Nat → Int32) (kc : Nat) (K : Nat → Int32) : Prop := (∀ i, i < 27 → N.2.1 140 i = w i) ∧ kc ≤ 40 ∧ N.2.1 140 27 = nI kc ∧ ∀ k, k < 3 * kc → N.2.1 140 (28 + k) = K k
theorem kpF_cong {a b x : Int32} (hk : kc ≤ 40) (h : ∀ k, k < 3 * kc → K k = K' k) {k : Nat} (hk2 : k < 3 * kpN kc) : kpF kc K a b x k = kpF kc K' a b x k := by
  unfold kpF
  by_cases q1 : k = 3 * kpN kc - 3
  · rw [if_pos q1, if_pos q1]
  · rw [if_neg q1, if_neg q1]
    by_cases q2 : k = 3 * kpN kc - 2
    · rw [if_pos q2, if_pos q2]
    · rw [if_neg q2, if_neg q2]
      by_cases q3 : k = 3 * kpN kc - 1
      · rw [if_pos q3, if_pos q3]
      · rw [if_neg q3, if_neg q3]
        unfold kpN at *
        by_cases q4 : kc = 40
        · rw [if_pos q4] at *
          rw [if_pos q4]
          exact h _ (by omega)
        · rw [if_neg q4] at *
          rw [if_neg q4]
          exact h _ (by omega)
/-- what a day keeps -/
noncomputable def kpD (u : Nat → Nat → Int32) (c0 : List Nat) (G P E C W : Nat) (w : Nat → Int32) (kc : Nat) (K : Nat → Int32) : Nat → Int32 := kpF kc K (w 0) (nI (smN (wtS u c0 G E W P w) C)) (nI (twN (wtS u c0 G E W P w) C))
theorem c_day1 (hV : CV u N D G P E C W c0 c1 c2) (hu : DU u G P E C W c0 c1 c2) (hI : RowsI u N G c0) (hA : AU N) (hC : CR N G P E C w kc K) (hw : WG w G P E C) (hd : w 0 = nI d) (hd9 : d < 999) : ∃ N', f_X0_pass 67 54 N = some (nI (smN (wtS u c0 G E W P w) C), N') ∧ FrB (pPs 54) (qCl 73) rRow N N' ∧ RowsI u N' G c0 ∧ CR N' G P E C (dayS u c0 c1 c2 G P E C W w) (kpN kc) (kpD u c0 G P E C W w kc K) := by
  obtain ⟨r1, r2, r3, r4⟩ := hC
  obtain ⟨N', a1, a2, a3, a4, a5, a6⟩ := c_pass (s := 54) hV hu hI hA (StS54 hV.hc) (Or.inl rfl) r1 hw r2 r3 hd hd9
  refine ⟨N', a1, a2, a3, a4, kpN_le r2, a5, fun k hk => ?_⟩
  rw [show N'.2.1 59 k = _ from a6 k hk]
  exact kpF_cong r2 r4 hk
theorem r_day1 (hR : RV u N) (hu : DU u G P E C W c0 c1 c2) (hC : RR N w kc K) (hw : WG w G P E C) (h70 : N.2.1 94 70 = 0) : ∃ N', f_X12_dayGoes 94 N = some N' ∧ Fr pDy qDy N N' ∧ N'.2.1 94 71 = N.2.1 94 71 + nI (smN (wtS u c0 G E W P w) C) ∧ RR N' (dayS u c0 c1 c2 G P E C W w) (kpN kc) (kpD u c0 G P E C W w kc K) := by
  obtain ⟨r1, r2, r3, r4⟩ := hC
  obtain ⟨N', a1, a2, a3, a4, _, a6⟩ := r_day hR hu hw r1 r2 r3 (Or.inl h70)
  obtain ⟨b1, b2⟩ := a6 h70
  refine ⟨N', a1, a2, a4, a3, kpN_le r2, b1, fun k hk => ?_⟩
  rw [b2 k hk]
  exact kpF_cong r2 r4 hk
def pCd : Nat → Nat → Bool := fun a k => pPs 54 a k || (a == 0 && k == 19)
def qRd : Nat → Nat → Bool := fun a k => qDy a k || (a == 94 && k == 87)
theorem pCd_x {a k : Nat} (h : aX a k = false) : pCd a k = false := imF (fun z => by unfold pCd pPs pRow at z; unfold aX; simp only [Bool.or_eq_true, Bool.and_eq_true, beq_iff_eq, decide_eq_true_eq] at z ⊢; omega) h
theorem pCd_o {a k : Nat} (h : 82 ≤ a) : pCd a k = false := Bool.eq_false_iff.mpr (fun z => by unfold pCd pPs pRow at z; simp only [Bool.or_eq_true, Bool.and_eq_true, beq_iff_eq, decide_eq_true_eq] at z; omega)
theorem pDy_x {a k : Nat} (h : aX a k = false) : pDy a k = false := imF (fun z => by unfold pDy at z; unfold aX; simp only [Bool.or_eq_true, Bool.and_eq_true, beq_iff_eq, decide_eq_true_eq] at z ⊢; omega) h
theorem pDy_o {a k : Nat} (h : a < 94 ∨ 146 ≤ a) : pDy a k = false := Bool.eq_false_iff.mpr (fun z => by unfold pDy at z; simp only [Bool.or_eq_true, Bool.and_eq_true, beq_iff_eq, decide_eq_true_eq] at z; omega)
theorem qRd_x {a k : Nat} (h : aQ a k = false) : qRd a k = false := imF (fun z => by unfold qRd qDy at z; unfold aQ; simp only [Bool.or_eq_true, Bool.and_eq_true, beq_iff_eq, decide_eq_true_eq] at z ⊢; omega) h
theorem pKe_n {r a k : Nat} (h1 : a ≠ 155) (h2 : ¬ (a = 94 ∧ (k = 85 ∨ k = 86))) : pKe r a k = false := Bool.eq_false_iff.mpr (fun z => by
  unfold pKe at z
  simp only [Bool.or_eq_true, Bool.and_eq_true, beq_iff_eq, decide_eq_true_eq] at z
  omega)
theorem aX_f {a k : Nat} (z : aX a k = false) : a ≠ 155 ∧ ¬ (a = 94 ∧ (k = 85 ∨ k = 86)) ∧ ¬ (a = 0 ∧ (k = 7 ∨ k = 8)) := by
  refine ⟨fun y => ?_, fun y => ?_, fun y => ?_⟩ <;> (have : aX a k = true := by (unfold aX; simp only [Bool.or_eq_true, Bool.and_eq_true, beq_iff_eq, decide_eq_true_eq]; omega)) <;> (rw [this] at z; cases z)
/-- days have passed in both -/
theorem IX.actD (h : IX M D Do G P E C W c0 c1 c2 n pc pn) (hR : RmS M N1 s pn) (h78 : N1.2.1 0 7 = nI (min 20 (pc + 1)) ∧ N1.2.1 0 8 = nI ((pn + 1) % 20)) (hc0 : N1.2.1 s 0 = M.2.1 54 0 ∧ N1.2.1 s 1 = M.2.1 54 1 ∧ N1.2.1 s 7 = M.2.1 54 7) (hc1 : ∀ j k, 1 ≤ j → j ≤ 4 → k < 5 → N1.2.1 (s + j) k = M.2.1 (54 + j) k) (hc5 : ∀ k, k < 120 → N1.2.1 (s + 5) k = M.2.1 59 k)
    (hF2 : FrB pCd (qCl 73) rRow N1 N2) (hI2 : RowsI (uR M) N2 G c0) (hF3 : Fr (pKe ((pn + 1) % 20)) q0 N2 N3) (h85 : N3.2.1 94 85 = nI (min 20 (pc + 1))) (h86 : N3.2.1 94 86 = nI ((pn + 1) % 20)) (h155 : ∀ i, i < 148 → N3.2.1 155 (148 * ((pn + 1) % 20) + i) = N2.2.1 140 i)
    (hF4 : Fr pDy qRd N3 N4) (hC : CR N2 G P E C w kc K) (hRR : RR N4 w kc K) (hw : WG w G P E C) (hsd : I_sd N4) : IX N4 D Do G P E C W c0 c1 c2 n (min 20 (pc + 1)) ((pn + 1) % 20) := by
  have k := h.1
  have hl : 187 ≤ M.1.length := k.cv.ln
  have hb := k.n.2
  have hlen := hR.len
  obtain ⟨r1, r2, r3, r4, ⟨r5, r6, r7⟩, r8, r9⟩ := id hR
  have hr20 : (pn + 1) % 20 < 20 := Nat.mod_lt _ (by decide)
  have ls : s + 5 < N1.1.length := lt_of_sh r6.1.2.2.2.2.2
  have sh : N4.1 = N2.1 := hF4.1.trans hF3.1
  have rf : N4.2.2.2 = N2.2.2.2 := hF4.2.1.trans hF3.2.1
  have v54 : ∀ a k, a < 94 → N4.2.1 a k = N2.2.1 a k := fun a k h1 => by rw [hF4.i (pDy_o (by omega)), hF3.i (pKe_n (by omega) (by omega))]
  have vs : ∀ j k, j ≤ 5 → N4.2.1 (s + j) k = N1.2.1 (s + j) k := fun j k hj => by rw [hF4.i (pDy_o (by omega)), hF3.i (pKe_n (by omega) (by omega)), hF2.i (by omega) (pCd_o (by omega))]
  obtain ⟨V0, W0⟩ := k.2.2.2.2.1
  have cp : SV (M.2.1 140) N4 s G E C := by
    have a1 := vs 0 0 (by decide)
    have a2 := vs 0 1 (by decide)
    exact V0.cp (M := M) (t := 54) hb.2.2.1 hb.2.2.2.1 ⟨a1.trans hc0.1, a2.trans hc0.2.1⟩ (fun j k h1 h2 h3 => by rw [vs j k (by omega)]; exact hc1 j k h1 h2 h3)
  obtain ⟨C1, C2, C3, C4⟩ := hC
  obtain ⟨R1, R2, R3, R4⟩ := hRR
  refine h.act (s := s) (fun a q z => by rw [sh]; exact hF2.sh (r1 a q z)) (fun a k h1 h2 h3 => ?_) (fun a k h1 h2 => ?_) (fun a k h1 h2 h3 => ?_) ⟨r5, r6.sm (fun a q z => by rw [sh]; exact hF2.sh z) (fun k => ?_), ?_⟩ r8 ?_ ?_ ?_ ?_ ?_ ?_ (fun i hi => ?_) (fun r i h1 h2 h3 => ?_) ⟨cp, (vs 0 7 (by decide)).trans hc0.2.2, fun k hk => by rw [vs 5 k (by decide)]; exact hc5 k hk⟩ ?_ (hw.cw hb.2.2.1 hb.2.2.2.1 R1) ⟨kc, C2, R3, by rw [v54 _ _ (by decide)]; exact C3⟩ (fun kc' k' h1 h2 h3 => ?_) hsd
  · obtain ⟨x1, x2, x3⟩ := aX_f h2
    rw [hF4.i (pDy_x h2), hF3.i (pKe_n x1 x2), hF2.i (by omega) (pCd_x h2)]
    exact r2 a k h1 h3 x3
  · rw [hF4.j (qRd_x h2), hF3.j rfl, hF2.j (by omega) (imF (fun z => by unfold qCl qRow at z; unfold aQ; simp only [Bool.or_eq_true, Bool.and_eq_true, beq_iff_eq, decide_eq_true_eq] at z ⊢; omega) h2)]
    exact r3 a k (by omega)
  · rw [rf, hF2.r (by omega) (beq_eq_false_iff_ne.mpr h2)]; exact r4 a k h1 h3
  · rw [rf, hF2.r (by omega) (beq_eq_false_iff_ne.mpr (by omega))]
  · rw [rf, hF2.r (by omega) (beq_eq_false_iff_ne.mpr (by decide))]; exact r7
  · refine Phi_Pot h.2.2.2.2.2.1.2.1 (fun a q z => by rw [sh]; exact hF2.sh (r1 a q z)) (fun p hp => ?_) ?_
    · have hpl := (by decide : ∀ p ∈ prgL, 8 ≤ p ∧ p ≤ 52) p hp
      rw [rf, hF2.r (by omega) (beq_eq_false_iff_ne.mpr (by omega))]; exact r4 _ _ (by omega) (by omega)
    · have : Phi N4 = Phi N2 := by unfold Phi; rw [sh, rf]
      rw [this]; exact Nat.le_trans hF2.2 r9
  · have hc2 : ClsS N2.1 N2.2.2.2 := hF2.hc (by decide) (hR.hc k.hc)
    have x3 := hI2.fr hc2 (hF3.fb (R := fun _ _ => false)) (fun k => pKe_n (by omega) (by omega)) (fun _ _ _ => rfl) (fun _ => rfl)
    exact x3.fr (hF3.hc hc2) (hF4.fb (R := fun _ _ => false)) (fun k => pDy_o (by omega)) (fun a k z => Bool.eq_false_iff.mpr (fun y => by unfold qRd qDy at y; simp only [Bool.or_eq_true, Bool.and_eq_true, beq_iff_eq] at y; omega)) (fun _ => rfl)
  · rw [v54 _ _ (by decide), hF2.i (by omega) rfl]; exact h78.1
  · rw [v54 _ _ (by decide), hF2.i (by omega) rfl]; exact h78.2
  · rw [hF4.i rfl]; exact h85
  · rw [hF4.i rfl]; exact h86
  · rw [hF4.i (pDy_o (by omega)), h155 i hi, hF2.i (by omega) (pCd_o (by omega))]; exact r2 _ _ (by omega) (by omega) (by omega)
  · rw [hF4.i (pDy_o (by omega)), hF3.i (Bool.eq_false_iff.mpr (fun z => by
      unfold pKe at z
      simp only [Bool.or_eq_true, Bool.and_eq_true, beq_iff_eq, decide_eq_true_eq] at z
      omega)), hF2.i (by omega) (pCd_o (by omega))]
    exact r2 _ _ (by omega) (by omega) (by omega)
  · exact (C1.sm (fun _ => rfl) (fun j k hj => v54 _ _ (by omega))).cw hb.1 hb.2.2.1 hb.2.2.2.1 R1
  · have : kc = kc' := (nI_eq (by omega) (by omega)).mp (R3.symm.trans h2)
    subst this
    rw [v54 _ _ (by decide), C4 k' h3, R4 k' h3]
theorem c_isTold (h : KI M D G P E C W c0 c1 c2) : f_X11_isTold 0 M = some (bI (0 < (uR M 130 2).toInt)) := by
  have hc := h.hc
  have e0 : (0 : Int32).toInt = 0 := rfl
  unfold f_X11_isTold
  rw [sr0 hc, h.cv.p0, Option.bind_some, h.cv.mi, Option.bind_some]
  by_cases q : 0 < (uR M 130 2).toInt
  · rw [if_neg (fun z => by have := le_i.mp z; omega), bI_t q]
  · rw [if_pos (le_i.mpr (by omega)), bI_f q]
theorem c_canPass (h : KI M D G P E C W c0 c1 c2) (hd : M.2.1 140 0 = nI d) (hd9 : d ≤ 999) (a : Int32) : f_X11_canPass 0 a M = some (bI (0 < (uR M 130 2).toInt ∧ ((1 : Int) ≤ a.toInt ∧ a.toInt ≤ 40) ∧ d + a.toInt ≤ 999)) := by
  have hc := h.hc
  obtain ⟨hV, hw⟩ := h.2.2.2.2.1
  have e1 : (1 : Int32).toInt = 1 := rfl
  have e40 : (40 : Int32).toInt = 40 := rfl
  have e999 : (999 : Int32).toInt = 999 := rfl
  have ed : (nI d).toInt = d := nI_i (by omega)
  unfold f_X11_canPass
  rw [sr0 hc, c_isTold h, Option.bind_some]
  by_cases q0 : 0 < (uR M 130 2).toInt
  · rw [if_neg (bI_y q0)]
    by_cases q1 : a < 1
    · have := lt_i.mp q1
      rw [if_pos q1, bI_f (fun z => by omega)]
    · rw [if_neg q1]
      have q1' := le_i.mp (Int32.not_lt.mp q1)
      by_cases q2 : (40 : Int32) < a
      · have := lt_i.mp q2
        rw [if_pos q2, bI_f (fun z => by omega)]
      · rw [if_neg q2, gr0_4 hc, Option.bind_some, gi54 hc, Option.bind_some, hV.1, hd]
        have q2' := le_i.mp (Int32.not_lt.mp q2)
        have es : (nI d + a).toInt = d + a.toInt := by rw [add_i (by omega) (by omega), ed]
        by_cases q3 : (999 : Int32) < nI d + a
        · have := lt_i.mp q3
          rw [if_pos q3, bI_f (fun z => by omega)]
        · have q3' := le_i.mp (Int32.not_lt.mp q3)
          rw [if_neg q3, bI_t ⟨q0, ⟨by omega, by omega⟩, by omega⟩]
  · rw [if_pos (bI_0.mpr q0), bI_f (fun z => q0 z.1)]
theorem bad_days (h : IX M D Do G P E C W c0 c1 c2 n pc pn) : ((f_X11_refuse 0 3 M).bind fun x => match x with | (x6, M7) => some (x6, M7)) = some (-1, wrI M 93 3 (M.2.1 93 3 + 1)) ∧ ((f_X12_refuses 94 3 (wrI M 93 3 (M.2.1 93 3 + 1))).bind fun x => match x with | (x2, M3) => some (x2, M3)) = some (-1, rfM M 3) ∧ Inv (rfM M 3) := by
  have e2 : f_X12_refuses 94 3 (wrI M 93 3 (M.2.1 93 3 + 1)) = some (-1, wrI (wrI M 93 3 (M.2.1 93 3 + 1)) 96 3 ((wrI M 93 3 (M.2.1 93 3 + 1)).2.1 96 3 + 1)) := r_refuse (k := 3) (M := wrI M 93 3 (M.2.1 93 3 + 1)) h.1.1 (by decide)
  rw [wrI_ne (by omega)] at e2
  refine ⟨by rw [show f_X11_refuse 0 3 M = some (-1, wrI M 93 3 (M.2.1 93 3 + 1)) from c_refuse h.1.hc (by decide)]; rfl, by rw [e2]; rfl, (h.rf (k := 3) (by decide)).inv⟩
/-- states day by day -/
noncomputable def kcI : Nat → Nat → Nat
  | kc, 0 => kc
  | kc, i + 1 => kpN (kcI kc i)
noncomputable def kkI (u : Nat → Nat → Int32) (c0 c1 c2 : List Nat) (G P E C W : Nat) (w : Nat → Int32) (kc : Nat) (K : Nat → Int32) : Nat → Nat → Int32
  | 0 => K
  | i + 1 => kpD u c0 G P E C W (dyI u c0 c1 c2 G P E C W w i) (kcI kc i) (kkI u c0 c1 c2 G P E C W w kc K i)
noncomputable def smI (u : Nat → Nat → Int32) (c0 c1 c2 : List Nat) (G P E C W : Nat) (w : Nat → Int32) : Nat → Int32
  | 0 => 0
  | i + 1 => smI u c0 c1 c2 G P E C W w i + nI (smN (wtS u c0 G E W P (dyI u c0 c1 c2 G P E C W w i)) C)
theorem ok_days (h : IX M D Do G P E C W c0 c1 c2 n pc pn) (a : Int32) : ∃ r M1 M2, f_X11_days 0 a M = some (r, M1) ∧ f_X12_days 94 a M1 = some (r, M2) ∧ Inv M2 := by
  have k := h.1
  have hc := k.hc
  have hb := k.n.2
  have hu := k.2.1
  obtain ⟨d, hd9, hd⟩ := k.day
  obtain ⟨hV, hw⟩ := k.2.2.2.2.1
  have e1 : (1 : Int32).toInt = 1 := rfl
  by_cases q : 0 < (uR M 130 2).toInt ∧ ((1 : Int) ≤ a.toInt ∧ a.toInt ≤ 40) ∧ d + a.toInt ≤ 999
  · obtain ⟨j, hj, rfl⟩ : ∃ j, j < 41 ∧ a = nI j := by
      rcases arg_c a 41 (by decide) with z | z
      · exact z
      · exact absurd (by omega) z
    have ej : (nI j).toInt = j := nI_i (by omega)
    have hdj : d + j ≤ 999 := by omega
    obtain ⟨N1, s, a1, a2, a3, a4, a5, a6, hc1, hs1, vv⟩ := act_pre h
    obtain ⟨k1, eu1⟩ := KI.rm h a2
    obtain ⟨kc, kc1, kc2, kc3⟩ := k.2.2.2.2.2.2.1
    have e140 : N1.2.1 140 = M.2.1 140 := funext fun k => vv _ _ (by decide) (by decide)
    have hV1 := k1.2.2.2.2.1.1
    rw [e140] at hV1
    have hCR0 : CR N1 G P E C (M.2.1 140) kc (fun x => M.2.1 140 (28 + x)) := ⟨hV1, kc1, by rw [vv _ _ (by decide) (by decide)]; exact kc3, fun x hx => by rw [vv _ _ (by decide) (by decide)]; exact h.2.1.2.2 kc x kc1 kc2 hx⟩
    -- the class
    obtain ⟨N2, o1, o2, o3, o4⟩ : ∃ N2, f_X11_days_L22 0 (nI j) 0 0 N1 = some (smI (uR M) c0 c1 c2 G P E C W (M.2.1 140) j, N2) ∧ FrB (pPs 54) (qCl 73) rRow N1 N2 ∧ RowsI (uR M) N2 G c0 ∧ CR N2 G P E C (dyI (uR M) c0 c1 c2 G P E C W (M.2.1 140) j) (kcI kc j) (kkI (uR M) c0 c1 c2 G P E C W (M.2.1 140) kc (fun x => M.2.1 140 (28 + x)) j) := by
      unfold f_X11_days_L22
      obtain ⟨b, b1, b2⟩ := itr_g (f := fun a : (Int32 × Int32 × sMem) => f_X11_days_K22 0 (nI j) a.1 a.2.1 a.2.2) (fun i (N : sMem) => (smI (uR M) c0 c1 c2 G P E C W (M.2.1 140) i, nI i, N)) (fun i N => FrB (pPs 54) (qCl 73) rRow N1 N ∧ RowsI (uR M) N G c0 ∧ CR N G P E C (dyI (uR M) c0 c1 c2 G P E C W (M.2.1 140) i) (kcI kc i) (kkI (uR M) c0 c1 c2 G P E C W (M.2.1 140) kc (fun x => M.2.1 140 (28 + x)) i)) (fun b => b.1 = smI (uR M) c0 c1 c2 G P E C W (M.2.1 140) j ∧ FrB (pPs 54) (qCl 73) rRow N1 b.2 ∧ RowsI (uR M) b.2 G c0 ∧ CR b.2 G P E C (dyI (uR M) c0 c1 c2 G P E C W (M.2.1 140) j) (kcI kc j) (kkI (uR M) c0 c1 c2 G P E C W (M.2.1 140) kc (fun x => M.2.1 140 (28 + x)) j)) j (by omega) (by
        rintro i N hi ⟨i1, i2, i3⟩
        dsimp only
        unfold f_X11_days_K22
        by_cases q : i = j
        · right
          subst q
          rw [if_pos (nI_le (Nat.le_refl _) (by omega))]
          exact ⟨_, rfl, rfl, i1, i2, i3⟩
        · left
          have hcN := i1.hc (by decide) hc1
          have hVN : CV (uR M) N D G P E C W c0 c1 c2 := by
            rw [← eu1]
            exact k1.cv.fb i1 (fun a k z => by unfold pPs pRow at z; simp only [Bool.or_eq_true, Bool.and_eq_true, beq_iff_eq, decide_eq_true_eq] at z; omega) offR_row
          have hl1 : 187 ≤ N1.1.length := k1.cv.ln
          obtain ⟨w1, w2⟩ := dyI_ok hu hw hd i (by omega)
          obtain ⟨N', p1, p2, p3, p4⟩ := c_day1 (w := dyI (uR M) c0 c1 c2 G P E C W (M.2.1 140) i) hVN hu i2 (fun x hx => by rw [i1.j (by omega) rfl]; exact k1.2.2.2.1.2 x hx) i3 w1 w2 (by omega)
          rw [if_neg (nI_ge (by omega) (by omega)), gr0_9 hcN, Option.bind_some, gr0_4 hcN, Option.bind_some, p1]
          dsimp only [Option.bind_some]
          rw [nI_1]
          exact ⟨by omega, N', rfl, i1.tr p2, p3, p4⟩) (i := 0) (s := N1) (by omega) ⟨FrB.rf, by rw [← eu1]; exact k1.2.2.2.1.1, hCR0⟩
      replace b1 : sItr (fun a : (Int32 × Int32 × sMem) => f_X11_days_K22 0 (nI j) a.1 a.2.1 a.2.2) sFuel (0, 0, N1) = some b := b1
      rw [b1, Option.bind_some]
      obtain ⟨x, N⟩ := b
      obtain ⟨b2, b3⟩ := b2
      dsimp only at b2 b3
      subst b2
      exact ⟨N, rfl, b3⟩
    have hs2 : RefS N2.1 N2.2.2.2 := o2.hs (by decide) hs1
    have o2p := o2
    replace o2 : FrB pCd (qCl 73) rRow N1 N2 := o2p.mono (fun a k z => by unfold pCd at z; revert z; cases pPs 54 a k <;> simp) (fun _ _ z => z) (fun _ _ z => z)
    have hl1 : 187 ≤ N1.1.length := k1.cv.ln
    obtain ⟨N3, b1, b2, b3, b4, b5⟩ := act_keep (N := N2) h hs2 ⟨by rw [o2.i (by omega) (pCd_o (by decide)), vv _ _ (by decide) (by decide)], by rw [o2.i (by omega) (pCd_o (by decide)), vv _ _ (by decide) (by decide)]⟩
    have hs3 := b2.hs hs2
    have v3 : ∀ a k, 94 ≤ a → a < 187 → a ≠ 155 → ¬ (a = 94 ∧ (k = 85 ∨ k = 86)) → N3.2.1 a k = M.2.1 a k := fun a k h1 h2 h3 h4 => by rw [b2.i (pKe_n h3 h4), o2.i (by omega) (pCd_o (by omega)), vv _ _ (by omega) h2]
    have hR3 : RV (uR M) (wrI N3 94 71 0) := ⟨hs3, fun a k h1 h2 => by rw [wrI_ne (by omega), v3 _ _ (by omega) (by omega) (by omega) (by omega)]; exact uR_eq h1 h2⟩
    have hRR0 : RR (wrI N3 94 71 0) (M.2.1 140) kc (fun x => M.2.1 140 (28 + x)) := ⟨fun i _ => by rw [wrI_ne (by omega), v3 _ _ (by decide) (by decide) (by decide) (by omega)], kc1, by rw [wrI_ne (by omega), v3 _ _ (by decide) (by decide) (by decide) (by omega)]; exact kc2, fun x hx => by rw [wrI_ne (by omega), v3 _ _ (by decide) (by decide) (by decide) (by omega)]⟩
    -- the reference
    obtain ⟨N4, g1, g2, g3, g4⟩ : ∃ N4, f_X12_daysGo 94 (nI j) (wrI N3 94 71 0) = some N4 ∧ Fr pDy qDy (wrI N3 94 71 0) N4 ∧ N4.2.1 94 71 = smI (uR M) c0 c1 c2 G P E C W (M.2.1 140) j ∧ RR N4 (dyI (uR M) c0 c1 c2 G P E C W (M.2.1 140) j) (kcI kc j) (kkI (uR M) c0 c1 c2 G P E C W (M.2.1 140) kc (fun x => M.2.1 140 (28 + x)) j) := by
      unfold f_X12_daysGo f_X12_daysGo_L2
      rw [sr94 hR3.1]
      obtain ⟨b, b1, b2⟩ := itr_up (f := fun a : (Int32 × sMem) => f_X12_daysGo_K2 94 (nI j) a.1 a.2) (fun i N => Fr pDy qDy (wrI N3 94 71 0) N ∧ N.2.1 94 71 = smI (uR M) c0 c1 c2 G P E C W (M.2.1 140) i ∧ RR N (dyI (uR M) c0 c1 c2 G P E C W (M.2.1 140) i) (kcI kc i) (kkI (uR M) c0 c1 c2 G P E C W (M.2.1 140) kc (fun x => M.2.1 140 (28 + x)) i)) (fun N => Fr pDy qDy (wrI N3 94 71 0) N ∧ N.2.1 94 71 = smI (uR M) c0 c1 c2 G P E C W (M.2.1 140) j ∧ RR N (dyI (uR M) c0 c1 c2 G P E C W (M.2.1 140) j) (kcI kc j) (kkI (uR M) c0 c1 c2 G P E C W (M.2.1 140) kc (fun x => M.2.1 140 (28 + x)) j)) j (by omega) (by
        rintro i N hi ⟨i1, i2, i3⟩
        dsimp only
        unfold f_X12_daysGo_K2
        by_cases q : i = j
        · right
          subst q
          rw [if_pos (nI_le (Nat.le_refl _) (by omega))]
          exact ⟨_, rfl, i1, i2, i3⟩
        · left
          obtain ⟨w1, w2⟩ := dyI_ok hu hw hd i (by omega)
          obtain ⟨N', p1, p2, p3, p4⟩ := r_day1 (w := dyI (uR M) c0 c1 c2 G P E C W (M.2.1 140) i) (hR3.fr i1 (fun a k h1 h2 => dy_130 h1 h2)) hu i3 w1 (by rw [i1.i rfl, wrI_ne (by omega), v3 _ _ (by decide) (by decide) (by decide) (by omega)]; exact k.2.2.2.2.2.1)
          rw [if_neg (nI_ge (by omega) (by omega)), p1, Option.bind_some, nI_1]
          exact ⟨by omega, N', rfl, i1.tr p2, by rw [p3, i2]; rfl, p4⟩) (i := 0) (s := wrI N3 94 71 0) (by omega) ⟨Fr.rf, wrI_eq, hRR0⟩
      replace b1 : sItr (fun a : (Int32 × sMem) => f_X12_daysGo_K2 94 (nI j) a.1 a.2) sFuel (0, wrI N3 94 71 0) = some b := b1
      rw [b1]
      exact ⟨b, rfl, b2⟩
    have hF4 : Fr pDy qRd N3 N4 := (Fr.rf.wi rfl).tr (g2.mono (fun _ _ z => z) (fun a k z => by unfold qRd at z; revert z; cases qDy a k <;> simp))
    obtain ⟨wl, wl2⟩ := dyI_ok hu hw hd j hdj
    have hl : 187 ≤ M.1.length := k.cv.ln
    have x2 : RefS N2.1 N2.2.2.2 := hs2
    refine ⟨smI (uR M) c0 c1 c2 G P E C W (M.2.1 140) j, N2, N4, ?_, ?_, (h.actD a2 a3 a4 a5 a6 o2 o3 b2 b3 b4 b5 hF4 o4 g4 wl ?_).inv⟩
    · unfold f_X11_days
      rw [sr0 hc, c_canPass k hd hd9, Option.bind_some, if_neg (bI_y q), a1, Option.bind_some, o1]
    · unfold f_X12_days
      have hkN2 : f_X12_isAhead 94 (nI j) 1 40 N2 = some (bI (0 < (uR M 130 2).toInt ∧ (((1 : Nat) : Int) ≤ (nI j).toInt ∧ (nI j).toInt ≤ ((40 : Nat) : Int)) ∧ d + (nI j).toInt ≤ 999)) := by
        have i2 : ∀ a k, 94 ≤ a → a < 187 → N2.2.1 a k = M.2.1 a k := fun a k h1 h2 => by rw [o2.i (by omega) (pCd_o (by omega)), vv _ _ (by omega) h2]
        have := r_isAhead (M := M) k hd hd9 (nI j) (lo := 1) (hi := 40) (by decide) (by decide)
        unfold f_X12_isAhead at this ⊢
        rw [sr94 k.1, gi94 k.1, gr94_59 k.1] at this
        rw [sr94 hs2, gi94 hs2, gr94_59 hs2, i2 94 57 (by decide) (by decide)]
        rw [show ∀ c, (some 140).bind (fun x3 => (ldI 14 N2 x3 0).bind c) = (some 140).bind (fun x3 => (ldI 14 M x3 0).bind c) from fun c => by
          rw [Option.bind_some, Option.bind_some, show ldI 14 N2 140 0 = some (N2.2.1 140 0) from ld140 hs2 (j := 0) (by decide), show ldI 14 M 140 0 = some (M.2.1 140 0) from ld140 k.1 (j := 0) (by decide), i2 _ _ (by decide) (by decide)]]
        exact this
      rw [sr94 hs2, hkN2, Option.bind_some, if_neg (bI_y ⟨q.1, by omega, by omega⟩), b1, Option.bind_some, pi94 hs3, Option.bind_some, g1, Option.bind_some, gi94 (g2.hs hR3.1), Option.bind_some, g3]
    · refine h.2.2.2.2.1.1.fr ?_ ?_
      · rw [hF4.i (pDy_o (by omega)), b2.i (pKe_n (by decide) (by omega)), o2p.i (by omega) rfl]
        exact a2.2.1 _ _ (by omega) (by have := a2.2.2.2.2.1.1; omega) (by omega)
      · rw [g2.j rfl, show (wrI N3 94 71 0).2.2.1 94 87 = N3.2.2.1 94 87 from rfl, b2.j rfl, o2.j (by omega) rfl]
        exact a2.2.2.1 _ _ (by omega)
  · obtain ⟨p1, p2, p3⟩ := bad_days h
    have kb : KI (wrI M 93 3 (M.2.1 93 3 + 1)) D G P E C W c0 c1 c2 := k.rf
    have ra := r_isAhead kb (by rw [wrI_ne (by omega)]; exact hd) hd9 a (lo := 1) (hi := 40) (by decide) (by decide)
    replace ra : f_X12_isAhead 94 a 1 40 (wrI M 93 3 (M.2.1 93 3 + 1)) = _ := ra
    have eub : uR (wrI M 93 3 (M.2.1 93 3 + 1)) = uR M := uR_cong (fun a k h1 h2 => wrI_ne (by omega))
    refine ⟨-1, wrI M 93 3 (M.2.1 93 3 + 1), rfM M 3, ?_, ?_, p3⟩
    · unfold f_X11_days
      rw [sr0 hc, c_canPass k hd hd9, Option.bind_some, if_pos (bI_0.mpr q)]
      exact p1
    · unfold f_X12_days
      rw [sr94 kb.1, ra, Option.bind_some, eub, if_pos (bI_0.mpr (fun z => q ⟨z.1, by omega, by omega⟩))]
      exact p2
end ACE
