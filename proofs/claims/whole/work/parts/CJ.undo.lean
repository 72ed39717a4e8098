/-! ACTS: undo -/
def nX : Nat → Nat → Bool := fun a k => (decide (54 ≤ a) && decide (a ≤ 65)) || a == 140 || (a == 0 && (k == 7 || k == 8)) || ((a == 1 || a == 94) && k == 1) || (a == 94 && (k == 85 || k == 86)) || a == 93 || a == 96
section UND
variable {M N : sMem} {D Do G P E C W k e c g m s n n' pc pn pc' pn' : Nat} {c0 c1 c2 : List Nat} {w : Nat → Int32}
theorem nX_n {a k : Nat} (h : ¬ ((54 ≤ a ∧ a ≤ 65) ∨ a = 140 ∨ (a = 0 ∧ (k = 7 ∨ k = 8)) ∨ ((a = 1 ∨ a = 94) ∧ k = 1) ∨ (a = 94 ∧ (k = 85 ∨ k = 86)) ∨ a = 93 ∨ a = 96)) : nX a k = false := Bool.eq_false_iff.mpr (fun z => by
  unfold nX at z
  simp only [Bool.or_eq_true, Bool.and_eq_true, beq_iff_eq, decide_eq_true_eq] at z
  omega)
theorem IX.now (h : IX M D Do G P E C W c0 c1 c2 n pc pn) (hF : Fr nX q0 M N) (hV : SV (N.2.1 140) N 54 G E C) (hW : WG (N.2.1 140) G P E C) (hkc : ∃ kc, kc ≤ 40 ∧ N.2.1 140 27 = nI kc ∧ N.2.1 54 7 = nI kc) (hkp : I_kp N) (hun : I_un N G P E C pc' pn') (htp : I_tp N n') (hrf : I_rf N) : IX N D Do G P E C W c0 c1 c2 n' pc' pn' := by
  obtain ⟨k, ⟨t1, t2, t3⟩, ⟨u1, u2⟩, t4, ⟨t5, t6, t7, t8⟩, t9⟩ := h
  obtain ⟨h1, h2, h3, ⟨h4, h5⟩, _, h8, _, h12⟩ := k
  have hD := h3.hD
  have eu : uR N = uR M := uR_cong (fun a k q1 q2 => hF.i (nX_n (by omega)))
  have fb : FrB nX q0 (fun _ _ => false) M N := hF.fb
  have offX : offD nX := by
    intro a k z
    unfold nX at z
    simp only [Bool.or_eq_true, Bool.and_eq_true, beq_iff_eq, decide_eq_true_eq] at z
    omega
  have kN : KI N D G P E C W c0 c1 c2 := ⟨hF.hs h1, by rw [eu]; exact h2, by rw [eu]; exact h3.fb fb offX offR_0, ⟨by rw [eu]; exact h4.fr h3.hc fb (fun k => nX_n (by omega)) (fun _ _ _ => rfl) (fun _ => rfl), fun k hk => by rw [hF.j rfl]; exact h5 k hk⟩, ⟨hV, hW⟩, by rw [hF.i (nX_n (by omega))]; exact h8, hkc, by rw [eu, hF.i (nX_n (by omega))]; exact h12⟩
  exact ⟨kN, ⟨htp, t2.fr (fun a k _ _ => hF.i (nX_n (by omega))) (fun k => hF.j rfl), hkp⟩, ⟨u1.fr (fun a q z => by rw [hF.1]; exact z) (fun j => by rw [hF.2.1]) (fun a k _ _ => by rw [hF.2.1]), hun⟩, t4.fr (hF.i (nX_n (by omega))) (hF.i (nX_n (by omega))) (fun i => hF.i (nX_n (by omega))) (fun i => hF.i (nX_n (by omega))), ⟨t5.fr (hF.i (nX_n (by omega))) (hF.j rfl), hrf, t7.fr (hF.i (nX_n (by omega))) (hF.i (nX_n (by omega))) (hF.i (nX_n (by omega))) (hF.i (nX_n (by omega))), t8.fr (hF.i (nX_n (by omega))) (hF.i (nX_n (by omega))) (fun i => hF.i (nX_n (by omega))) (fun i => hF.i (nX_n (by omega)))⟩, t9.fb fb (fun a k z => nX_n (by unfold isWc at z; omega)) (fun _ _ => rfl) rfl⟩
theorem PastJ.fr {j r : Nat} (h : PastJ M G P E C j r) (hp : I_ps M) (hj : j < 20) (hF : Fr nX q0 M N) : PastJ N G P E C j r := h.sm (by rw [hF.2.1]) (fun k => hF.i (nX_n (by omega))) (fun s i k hs hi => hF.i (nX_n (by have := (hp.1 j s hj hs).1; omega)))
theorem r_undoL (hs : RefS M.1 M.2.2.2) (hpn : pn < 20) (h86 : M.2.1 94 86 = nI pn) : ∃ N, sItr (fun a : (Int32 × sMem) => f_X12_undo_K21 94 a.1 a.2) sFuel (0, M) = some N ∧ Fr (fun a _ => a == 140) q0 M N ∧ ∀ i, i < 148 → N.2.1 140 i = M.2.1 155 (148 * pn + i) := by
  obtain ⟨N, b1, b2⟩ := itr_up (f := fun a : (Int32 × sMem) => f_X12_undo_K21 94 a.1 a.2) (fun j N => Fr (fun a _ => a == 140) q0 M N ∧ ∀ i, i < j → N.2.1 140 i = M.2.1 155 (148 * pn + i)) (fun N => Fr (fun a _ => a == 140) q0 M N ∧ ∀ i, i < 148 → N.2.1 140 i = M.2.1 155 (148 * pn + i)) 148 (by decide) (by
    rintro j N hj ⟨i1, i2⟩
    dsimp only
    have hsN := i1.hs hs
    unfold f_X12_undo_K21
    by_cases q : j = 148
    · right
      subst q
      rw [if_pos (by decide)]
      exact ⟨N, rfl, i1, i2⟩
    · left
      rw [if_neg (by rw [show (148 : Int32) = nI 148 from rfl, cle (by decide) (by omega)]; omega), gr94_59 hsN, Option.bind_some, gr94_84 hsN, Option.bind_some, gi94 hsN, Option.bind_some, i1.i rfl, h86, show (148 : Int32) * nI pn + nI j = nI (148 * pn + j) from (by rw [show (148 : Int32) = nI 148 from rfl, pk_mul, nI_add]), ld155 hsN (by omega), Option.bind_some, st140 hsN (by omega), Option.bind_some, nI_1]
      refine ⟨by omega, _, rfl, i1.wi rfl, fun i hi => ?_⟩
      by_cases z : i = j
      · subst z; rw [wrI_eq]; exact i1.i rfl
      · rw [wrI_ne (by omega)]; exact i2 i (by omega)) (i := 0) (s := M) (by decide) ⟨Fr.rf, fun i hi => by omega⟩
  exact ⟨N, b1, b2⟩
theorem ok_undo (h : IX M D Do G P E C W c0 c1 c2 n pc pn) : ∃ r M1 M2, f_X11_undo 0 M = some (r, M1) ∧ f_X12_undo 94 M1 = some (r, M2) ∧ Inv M2 := by
  obtain ⟨k, ⟨tp, _, _⟩, ⟨ups, ⟨⟨v1, v2, v3, v4, v5, v6⟩, v7⟩⟩, _, ⟨_, t6, _, _⟩, _⟩ := id h
  have hc := k.hc
  have hs := k.1
  have hb := k.n.2
  have e19 : (nI pn + (20 : Int32)) - (1 : Int32) - ((nI pn + (20 : Int32)) - (1 : Int32)) / (20 : Int32) * (20 : Int32) = nI ((pn + 19) % 20) := by
    have e1 : (nI pn + (20 : Int32)) - (1 : Int32) = nI (pn + 19) := by
      rw [show nI pn + (20 : Int32) = nI (pn + 20) from nI_add pn 20]
      exact nsub (a := pn + 20) (b := 1) (by omega)
    rw [e1]
    exact pk_rem (d := 20) (by omega) (by decide) (by decide)
  by_cases q : pc = 0
  · obtain ⟨r1, r2, r3⟩ := r_rf (k := 4) (x := M.2.1 93 4 + 1) hs (by decide)
    refine ⟨0, wrI M 93 4 (M.2.1 93 4 + 1), rfM M 4, ?_, ?_, (h.rf (k := 4) (by decide)).inv⟩
    · unfold f_X11_undo f_X11_undo_B29
      rw [sr0 hc, gi0 hc, Option.bind_some, gi0 hc, Option.bind_some, v3, q, if_pos (show nI 0 = (0 : Int32) from rfl), show f_X11_refuse 0 4 M = some (-1, wrI M 93 4 (M.2.1 93 4 + 1)) from c_refuse hc (by decide)]
      rfl
    · unfold f_X12_undo
      rw [sr94 (M := wrI M 93 4 (M.2.1 93 4 + 1)) hs, gi94 (M := wrI M 93 4 (M.2.1 93 4 + 1)) hs, Option.bind_some, wrI_ne (by omega), v5, q, if_pos (show nI 0 = (0 : Int32) from rfl), r1, Option.bind_some, show ldI 14 (wrI M 93 4 (M.2.1 93 4 + 1)) 96 4 = some (M.2.1 96 4) from r2, Option.bind_some, show ∀ y, stI (wrI M 93 4 (M.2.1 93 4 + 1)) 96 4 y = some (wrI (wrI M 93 4 (M.2.1 93 4 + 1)) 96 4 y) from r3]
      rfl
  · have hp0 := v7 0 (by omega)
    rw [show pn + 19 - 0 = pn + 19 from rfl, show (pn + 20 - 0) % 20 = pn by omega] at hp0
    obtain ⟨s, a1, ⟨kc, k1, k2, k3, k4⟩, a3, a4⟩ := id hp0
    obtain ⟨s1, s2⟩ := ups.1 _ s (Nat.mod_lt _ (by decide)) a1
    obtain ⟨A, hA⟩ : ∃ A, A = wrI (wrI M 0 7 (nI (pc - 1))) 0 8 (nI ((pn + 19) % 20)) := ⟨_, rfl⟩
    have hcA : ClsS A.1 A.2.2.2 := by rw [hA]; exact hc
    have vA : ∀ a k, a ≠ 0 → A.2.1 a k = M.2.1 a k := fun a k h1 => by rw [hA, wrI_ne (by omega), wrI_ne (by omega)]
    have sA : StS A s := by rw [hA]; exact s2
    have rA : A.2.2.2 = M.2.2.2 := by rw [hA]; rfl
    obtain ⟨B, b1, b2, b3, b4, b5⟩ := c_copy (M := A) (s := 54) (t := s) (StS54 hcA) sA (fun i j hi hj => by omega)
    have FB : Fr nX q0 M B := by
      have f1 : Fr nX q0 M A := by rw [hA]; exact (Fr.rf.wi rfl).wi rfl
      exact f1.tr (b2.mono (fun a k z => pSt_no (fun y => by
        have : nX a k = true := by (unfold nX; simp only [Bool.or_eq_true, Bool.and_eq_true, beq_iff_eq, decide_eq_true_eq]; omega)
        rw [this] at z; cases z)) (fun _ _ z => z))
    have hsB := FB.hs hs
    have vB : ∀ a k, 94 ≤ a → B.2.1 a k = M.2.1 a k := fun a k h1 => by rw [b2.i (pSt_no (by omega)), vA _ _ (by omega)]
    obtain ⟨R, r1, r2, r3⟩ := r_undoL (M := B) (pn := pn) hsB v2 (by rw [vB _ _ (by decide)]; exact v6)
    have hsR := r2.hs hsB
    obtain ⟨R2, hR2⟩ : ∃ R2, R2 = wrI (wrI R 94 86 (nI ((pn + 19) % 20))) 94 85 (nI (pc - 1)) := ⟨_, rfl⟩
    have vR : ∀ a k, a ≠ 140 → ¬ (a = 94 ∧ (k = 85 ∨ k = 86)) → R2.2.1 a k = B.2.1 a k := fun a k h1 h2 => by rw [hR2, wrI_ne (by omega), wrI_ne (by omega), r2.i (beq_eq_false_iff_ne.mpr h1)]
    have v140 : ∀ i, i < 148 → R2.2.1 140 i = M.2.1 155 (148 * pn + i) := fun i hi => by rw [hR2, wrI_ne (by omega), wrI_ne (by omega), r3 i hi, vB _ _ (by decide)]
    have FR : Fr nX q0 M R2 := by
      rw [hR2]
      exact ((FB.tr (r2.mono (fun a k z => beq_eq_false_iff_ne.mpr (fun y => by
        have : nX a k = true := by (unfold nX; simp only [Bool.or_eq_true, Bool.and_eq_true, beq_iff_eq, decide_eq_true_eq]; omega)
        rw [this] at z; cases z)) (fun _ _ z => z))).wi rfl).wi rfl
    refine ⟨1, B, R2, ?_, ?_, ?_⟩
    · unfold f_X11_undo
      rw [sr0 hc, gi0 hc, Option.bind_some, gi0 hc, Option.bind_some, v3, v4, e19, if_neg (show ¬ nI pc = (0 : Int32) from fun z => q ((nI_eq (by omega) (by decide)).mp z)), gr0_6 hc, Option.bind_some, ldR_n (cs66 hc) (Nat.mod_lt _ (by decide)) (by decide), Option.bind_some, a1]
      dsimp only
      rw [Option.bind_some, show nI pc - (1 : Int32) = nI (pc - 1) from nsub (b := 1) (by omega), pi0 hc, Option.bind_some, pi0 (M := wrI M 0 7 (nI (pc - 1))) hc, Option.bind_some, ← hA, gr0_4 hcA, Option.bind_some, gr0_6 hcA, Option.bind_some, ldN_n (cs66 hcA) (Nat.mod_lt _ (by decide)) (by decide) (by rw [rA]; exact a1), Option.bind_some, b1]
      rfl
    · unfold f_X12_undo f_X12_undo_L21
      have hs1 : RefS (wrI R 94 86 (nI ((pn + 19) % 20))).1 (wrI R 94 86 (nI ((pn + 19) % 20))).2.2.2 := hsR
      rw [sr94 hsB, gi94 hsB, Option.bind_some, vB _ _ (by decide), v5, if_neg (show ¬ nI pc = (0 : Int32) from fun z => q ((nI_eq (by omega) (by decide)).mp z)), r1, Option.bind_some]
      unfold f_X12_undo_B55
      rw [gi94 hsR, Option.bind_some, r2.i rfl, vB _ _ (by decide), v6, e19, pi94 hsR, Option.bind_some, gi94 hs1, Option.bind_some, wrI_ne (by omega), r2.i rfl, vB _ _ (by decide), v5, show nI pc - (1 : Int32) = nI (pc - 1) from nsub (b := 1) (by omega), pi94 hs1, Option.bind_some, ← hR2]
    · have w27 : ∀ i, i < 27 → R2.2.1 140 i = M.2.1 155 (148 * pn + i) := fun i hi => v140 i (by omega)
      have b3' : R2.2.1 54 0 = A.2.1 s 0 ∧ R2.2.1 54 1 = A.2.1 s 1 ∧ R2.2.1 54 7 = A.2.1 s 7 := ⟨by rw [vR _ _ (by omega) (by omega)]; exact b3.1, by rw [vR _ _ (by omega) (by omega)]; exact b3.2.1, by rw [vR _ _ (by omega) (by omega)]; exact b3.2.2⟩
      have SVs : SV (fun i => M.2.1 155 (148 * pn + i)) A s G E C := a3.sm (fun _ => rfl) (fun j k hj => vA _ _ (by omega))
      have SVn : SV (fun i => M.2.1 155 (148 * pn + i)) R2 54 G E C := SVs.cp (M := A) (s := 54) (t := s) hb.2.2.1 hb.2.2.2.1 ⟨b3'.1, b3'.2.1⟩ (fun j k h1 h2 h3 => by rw [vR _ _ (by omega) (by omega)]; exact b4 j k h1 h2 h3)
      refine (h.now (pc' := pc - 1) (pn' := (pn + 19) % 20) (n' := n) FR (SVn.cw hb.1 hb.2.2.1 hb.2.2.2.1 w27) (a4.cw hb.2.2.1 hb.2.2.2.1 w27) ⟨kc, k1, by rw [v140 27 (by decide)]; exact k2, by rw [b3'.2.2, vA _ _ (by omega)]; exact k3⟩ (fun kc' x h1 h2 h3 => ?_) ⟨⟨by omega, Nat.mod_lt _ (by decide), ?_, ?_, ?_, ?_⟩, fun i hi => ?_⟩ (tp.fr (vR _ _ (by omega) (by omega) |>.trans (by rw [b2.i (pSt_no (by omega)), vA _ _ (by omega)])) ((vR _ _ (by omega) (by omega)).trans (vB _ _ (by omega))) (fun i => (vR _ _ (by omega) (by omega)).trans (by rw [b2.i (pSt_no (by omega)), vA _ _ (by omega)])) (fun i => (vR _ _ (by omega) (by omega)).trans (vB _ _ (by omega)))) (t6.fr (fun i => (vR _ _ (by omega) (by omega)).trans (by rw [b2.i (pSt_no (by omega)), vA _ _ (by omega)])) (fun i => (vR _ _ (by omega) (by omega)).trans (vB _ _ (by omega))))).inv
      · have : kc = kc' := by
          rw [v140 27 (by decide), k2] at h2
          exact (nI_eq (by omega) (by omega)).mp h2
        subst this
        rw [vR _ _ (by omega) (by omega), show B.2.1 59 x = A.2.1 (s + 5) x from b5 x (by omega), vA _ _ (by omega), k4 x h3, v140 _ (by omega)]
      · rw [vR _ _ (by omega) (by omega), b2.i (pSt_no (by omega)), hA, wrI_ne (by omega), wrI_eq]
      · rw [vR _ _ (by omega) (by omega), b2.i (pSt_no (by omega)), hA, wrI_eq]
      · rw [hR2, wrI_eq]
      · rw [hR2, wrI_ne (by omega), wrI_eq]
      · have := v7 (i + 1) (by omega)
        rw [show (pn + 19 - (i + 1)) % 20 = ((pn + 19) % 20 + 19 - i) % 20 by omega, show (pn + 20 - (i + 1)) % 20 = ((pn + 19) % 20 + 20 - i) % 20 by omega] at this
        exact this.fr ups (Nat.mod_lt _ (by decide)) FR
end UND
