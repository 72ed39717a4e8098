/-! A QUESTION, answered by both -/
section ASG
variable {M N : sMem} {D Do G P E C W n pc pn : Nat} {c0 c1 c2 cs : List Nat} {w : Nat → Int32} {u : Nat → Nat → Int32}
theorem sc_ix {a k : Nat} (h : iX a k = true) : scR a k = false := Bool.eq_false_iff.mpr (fun y => by
  unfold iX at h
  unfold scR at y
  simp only [Bool.or_eq_true, Bool.and_eq_true, beq_iff_eq, decide_eq_true_eq] at h y
  omega)
theorem scS_no {a k : Nat} (h : a = 74 ∨ a = 132 ∨ 187 ≤ a) : scS a k = false := Bool.eq_false_iff.mpr (fun y => by
  unfold scS at y
  simp only [Bool.or_eq_true, Bool.and_eq_true, beq_iff_eq] at y
  omega)
theorem qw_sc {a k : Nat} (h : scR a k = false) : pQw a k = false := pQw_n (dr_sc h) (fun z => by subst z; cases h) (fun z => by subst z; cases h)
theorem pj_sc {a k : Nat} (h : scR a k = false) : pQj a k = false := imF (fun y => by
  unfold pQj at y
  unfold scR
  simp only [Bool.or_eq_true, Bool.and_eq_true, beq_iff_eq, decide_eq_true_eq] at y ⊢
  omega) h
theorem qj_sc {a k : Nat} (h : scS a k = false) : qQj a k = false := imF (fun y => by
  unfold qQj at y
  unfold scS
  simp only [Bool.or_eq_true, Bool.and_eq_true, beq_iff_eq, decide_eq_true_eq] at y ⊢
  omega) h
/-- the reference, from what it has read on -/
theorem r_askG {kd : Nat} {a0 : Int64} (k : KI M D G P E C W c0 c1 c2) (hend : M.2.1 94 116 = nI cs.length) (hen : cs.length ≤ 1600) (hcode : ∀ (i : Nat) (h : i < cs.length), M.2.1 183 i = nI cs[i]) (hty : tyA cs [] = some [decide (kd ≤ 2)]) (hok : ∀ x ∈ cs, okCode 3 x = true) (hk : kd ≤ 5) : ∃ N, f_X12_ask_B173 94 (nI kd) 94 a0 M = some (fq kd a0 (vQ (uR M) c0 G E W P (M.2.1 140) cs) C, N) ∧ Fr scR scS M N := by
  have hs := k.1
  have hb := k.n.2
  obtain ⟨X2, hX2⟩ : ∃ X, X = wrI (wrJ M 94 123 a0) 94 124 1 := ⟨_, rfl⟩
  have F2 : Fr scR scS M X2 := by rw [hX2]; exact (Fr.rf.wj rfl).wi rfl
  obtain ⟨k2, eu2⟩ := k.ref F2
  have e140 : X2.2.1 140 = M.2.1 140 := funext fun i => F2.i (scR_out (by omega))
  obtain ⟨X3, b1, b2, b3⟩ := r_now k2
  rw [eu2, e140] at b3
  have F3 : Fr scR scS M X3 := F2.tr (lay_q b2)
  have hs3 := F3.hs hs
  have R3 : RV (uR M) X3 := (RV_uR hs).fr F3 (fun a i h1 h2 => scR_out (by omega))
  have hw := k.2.2.2.2.1.2
  have f140 : ∀ X, Fr scR scS M X → X.2.1 140 = M.2.1 140 := fun X hX => funext fun i => hX.i (scR_out (by omega))
  have eqw : ∀ X Y, Fr pQw q0 X Y → Fr scR scS X Y := fun X Y h => h.mono (fun _ _ z => qw_sc z) (fun _ _ _ => rfl)
  obtain ⟨X4, d1, d2, d3⟩ := r_fillC (M := X3) (u := uR M) (w := M.2.1 140) R3 k.2.1 b3 hw (fun i _ => by rw [f140 X3 F3]) (fun N hN => by
    have FN := F3.tr (eqw _ _ hN)
    rw [r_upSet (FN.hs hs) (by rw [FN.i (scR_out (by omega))]; exact k.n.1.1) hb.1, f140 N FN]) (upF_lt64 hb.1) (nI kd)
  obtain ⟨X5, hX5⟩ : ∃ X, X = wrI X4 94 58 3 := ⟨_, rfl⟩
  have F4 : Fr scR scS M X4 := F3.tr (eqw _ _ d2)
  have F5 : Fr scR scS M X5 := by rw [hX5]; exact F4.wi rfl
  have hs4 := F4.hs hs
  have hs5 := F5.hs hs
  have v5 : ∀ a i, a ≠ 94 → X5.2.1 a i = X4.2.1 a i := fun a i z => by rw [hX5, wrI_ne (fun y => z y.1)]
  have j5 : X5.2.2.1 94 123 = a0 := by
    rw [hX5]
    show X4.2.2.1 94 123 = a0
    rw [d2.j rfl, b2.j rfl, hX2]
    show (wrJ M 94 123 a0).2.2.1 94 123 = a0
    rw [wrJ_eq]
  obtain ⟨X6, m1, m2, m3⟩ := r_askL (M := X5) (u := uR M) (w := M.2.1 140) (cs := cs) (kd := kd) ((RV_uR hs).fr F5 (fun a i h1 h2 => scR_out (by omega))) k.2.1 (fun g m hg hm => by rw [v5 144 _ (by decide), d2.i rfl]; exact b3 g m hg hm) hw (f140 X5 F5) (by rw [hX5, wrI_eq]) (by rw [F5.i rfl]; exact hend) hen (fun i hi => by rw [F5.i (scR_out (by omega))]; exact hcode i hi) hty hok (fun c hc => by
    obtain ⟨g1, g2⟩ := d3 c hc
    exact ⟨by rw [v5 142 _ (by decide)]; exact g1, fun p hp => by rw [v5 143 _ (by decide)]; exact g2 p hp⟩) (by rw [hX5, wrI_ne (by omega), d2.i rfl, b2.i rfl, hX2, wrI_eq]) hk
  have F6 : Fr scR scS M X6 := F5.tr (m2.mono (fun _ _ z => pj_sc z) (fun _ _ z => qj_sc z))
  rw [j5] at m3
  refine ⟨X6, ?_, F6⟩
  unfold f_X12_ask_B173 f_X12_ask_L187 f_X12_ask_B258 f_X12_ask_L265 f_X12_ask_B290
  have hsA : RefS (wrJ M 94 123 a0).1 (wrJ M 94 123 a0).2.2.2 := hs
  rw [pj94 hs, Option.bind_some, pZ_of (rs94 hsA) (Or.inr rfl), Option.bind_some, ← hX2, b1, Option.bind_some, d1, Option.bind_some, pi94 hs4, Option.bind_some, ← hX5, m1, Option.bind_some, gj94 (F6.hs hs), Option.bind_some, m3]
theorem ask_good {v : Int32} {e kd : Nat} (h : IX M D Do G P E C W c0 c1 c2 n pc pn) (cor : Cor N D Do G P E C W c0 c1 c2 pc pn) (hv : ∀ a k, a < 187 → ¬ (3 ≤ a ∧ a ≤ 6) → a ≠ 8 → a ≠ 9 → (a ≠ 1 ∨ k < 6) → N.2.1 a k = M.2.1 a k) (hj : N.2.2.1 94 87 = M.2.2.1 94 87) (hq : QZ e N v (.inr (kd, cs))) (hO : ∀ O : sMem, (∀ a k, 94 ≤ a → a < 187 → O.2.1 a k = N.2.1 a k) → RefS O.1 O.2.2.2 → ∃ kv O', f_X12_ask 94 O = f_X12_ask_B133 94 kv O' ∧ Fr raX q0 O O' ∧ O'.2.1 94 1 = 0 ∧ kv = nI kd ∧ (O'.2.1 94 5 = 0 ∧ O'.2.1 94 6 = mI) ∧ O'.2.1 94 116 = nI cs.length ∧ ∀ (i : Nat) (h : i < cs.length), O'.2.1 183 i = nI cs[i]) : ∃ r M1 M2, f_X11_ask_B18 0 v N = some (r, M1) ∧ f_X12_ask 94 M1 = some (r, M2) ∧ Inv M2 := by
  have hc := cor.1.hc
  obtain ⟨q1, hk, ⟨_, _, q3, q4⟩, ⟨q, nn, p1, p2, p3, p4, p5⟩, hty, hok, hen⟩ := hq
  subst q1
  -- the class
  have hA : PA N := cor.2.2.2.1.2.1
  obtain ⟨g1, q', n', s', g2, g3, ⟨jj, g4, g4'⟩, _, _, g7⟩ := hA.2.1 8 (by decide)
  obtain rfl : q = q' := by rw [p1] at g2; exact Option.some.inj g2
  obtain rfl : nn = n' := by rw [p2] at g3; exact (Prod.mk.inj (Option.some.inj g3)).2
  have hn1 : nn < 100000 := by
    have : 2 ^ jj ≤ 2 ^ 5 := Nat.pow_le_pow_right (by decide) g4
    omega
  have hp : Prg N 8 q nn cs := ⟨g1, p1, p2, p3, p4, hn1, p5⟩
  obtain ⟨O0, hO0⟩ : ∃ X, X = wrI N 1 1 0 := ⟨_, rfl⟩
  have FO : Fr e11 q0 N O0 := by rw [hO0]; exact Fr.rf.wi rfl
  have v0 : ∀ a k, ¬ (a = 1 ∧ k = 1) → O0.2.1 a k = N.2.1 a k := fun a k z => by rw [hO0, wrI_ne z]
  have cor0 := cor.st FO (fun a k z => ix_no z (fun y => by unfold e11 at y; simp only [Bool.or_eq_true, Bool.and_eq_true, beq_iff_eq] at y; omega)) (fun _ _ _ => rfl)
  have k0 := cor0.1
  have hl0 : 187 ≤ O0.1.length := k0.cv.ln
  obtain ⟨N1, a1, a2, a3, k1, eu, e140, a4, a5⟩ := both_now k0
  have hp0 : Prg O0 8 q nn cs := hp.fr (FO.fa (R := fun _ _ => false)) rfl (fun i => Bool.eq_false_iff.mpr (fun y => by unfold e11 at y; simp only [Bool.or_eq_true, Bool.and_eq_true, beq_iff_eq] at y; omega)) rfl
  have hp1 : Prg N1 8 q nn cs := hp0.fr a2.1 (sc_out (by omega)) (fun i => sc_out (by omega)) rfl
  obtain ⟨M1, l1, l2⟩ := c_askL (M := N1) (u := uR N1) (w := N1.2.1 140) (a := if kd < 2 then -1 else 0) k1.cv k1.2.1 k1.2.2.2.2.1.1 k1.2.2.2.2.1.2 k1.2.2.2.1.2 (fun g t hg ht => by rw [eu, e140]; exact a4 g t hg ht) hp1 (by omega) hty hok hk
  have fM : FrB scC scQ rRow O0 M1 := a2.tr (l2.fb.mono (fun _ _ z => an_sc z) (fun _ _ _ => rfl) (fun _ _ z => z))
  have hRM : RowsI (uR O0) M1 G c0 := a3.fr k1.hc (l2.fb (R := fun _ _ => false)) (fun _ => rfl) (fun _ _ _ => rfl) (fun _ => rfl)
  have corM := cor0.q fM hRM Fr.rf
  have kM := corM.1
  -- the reference
  obtain ⟨kv, O', o1, o2, o3, o4, ⟨o5, o6⟩, o7, o8⟩ := hO M1 (fun a k z1 z2 => by rw [fM.i (by omega) (sc_out (by omega)), v0 a k (by omega)]) kM.1
  subst o4
  have hs' := o2.hs kM.1
  have cor' := corM.st o2 (fun a k z => ra_ix z) (fun _ _ _ => rfl)
  obtain ⟨N', hN'⟩ : ∃ N', N' = wrI (wrI O' 94 7 0) 94 8 mI := ⟨_, rfl⟩
  have F5 : Fr e78 q0 O' N' := by rw [hN']; exact (Fr.rf.wi rfl).wi rfl
  have cor5 := cor'.st F5 (fun a k z => ix_no z (fun y => by unfold e78 at y; simp only [Bool.or_eq_true, Bool.and_eq_true, beq_iff_eq] at y; omega)) (fun _ _ _ => rfl)
  have v5 : ∀ a k, ¬ (a = 94 ∧ (k = 7 ∨ k = 8)) → N'.2.1 a k = O'.2.1 a k := fun a k z => by rw [hN', wrI_ne (by omega), wrI_ne (by omega)]
  have ra_n : ∀ a k, a ≠ 94 ∨ (k = 80 ∨ k = 126) → a ≠ 183 → a ≠ 184 → raX a k = false := fun a k z1 z2 z3 => Bool.eq_false_iff.mpr (fun y => by
    unfold raX rqX rlX qX at y
    simp only [Bool.or_eq_true, Bool.and_eq_true, beq_iff_eq] at y
    omega)
  obtain ⟨M2, r1, r2⟩ := r_askG (M := N') (cs := cs) (kd := kd) (a0 := if kd < 2 then -1 else 0) cor5.1 (by rw [v5 94 116 (by omega)]; exact o7) hen (fun i hi => by rw [v5 183 i (by omega)]; exact o8 i hi) hty hok hk
  have cor6 := cor5.st r2 (fun a k z => sc_ix z) (fun a k z => scS_no z)
  have w1 : ∀ a k, (130 ≤ a ∧ a ≤ 140) → N'.2.1 a k = N1.2.1 a k := fun a k z => by rw [v5 a k (by omega), o2.i (ra_n a k (by omega) (by omega) (by omega)), l2.i (pAn_n (by omega))]
  have eU : uR N' = uR N1 := uR_cong (fun a k z1 z2 => w1 a k (by omega))
  have eW : N'.2.1 140 = N1.2.1 140 := funext fun k => w1 140 k (by omega)
  rw [eU, eW] at r1
  have wv : ∀ a k, scR a k = false → raX a k = false → ¬ (a = 94 ∧ (k = 7 ∨ k = 8)) → scC a k = false → a < 187 → M2.2.1 a k = O0.2.1 a k := fun a k z1 z2 z3 z4 z5 => by
    rw [r2.i z1, v5 a k z3, o2.i z2, fM.i (by omega) z4]
  refine ⟨fq kd (if kd < 2 then -1 else 0) (vQ (uR N1) c0 G E W P (N1.2.1 140) cs) C, M1, M2, ?_, ?_, ?_⟩
  · unfold f_X11_ask_B18 f_X11_ask_B52 f_X11_ask_B59 f_X11_ask_L63
    have ne : ∀ i, i ≤ 5 → (nI (33 + kd) = nI (33 + i) ↔ kd = i) := fun i hi => by rw [nI_eq (by omega) (by omega)]; omega
    rw [gr0_0 hc, Option.bind_some, pi1 hc, Option.bind_some, ← hO0, if_neg (show ¬ nI (33 + kd) = (-1 : Int32) from fun z => by have z' : nI (33 + kd) = mI := z; rw [cneg (by omega)] at z'; exact z'), a1, Option.bind_some]
    have e0 : (33 : Int32) = nI (33 + 0) := rfl
    have e1 : (34 : Int32) = nI (33 + 1) := rfl
    by_cases z0 : kd = 0
    · rw [if_pos (by rw [e0]; exact (ne 0 (by decide)).mpr z0)]
      rw [if_pos (show kd < 2 by omega)] at l1 ⊢
      rw [l1]; rfl
    · rw [if_neg (by rw [e0]; exact fun y => z0 ((ne 0 (by decide)).mp y))]
      by_cases z1 : kd = 1
      · rw [if_pos (by rw [e1]; exact (ne 1 (by decide)).mpr z1)]
        rw [if_pos (show kd < 2 by omega)] at l1 ⊢
        rw [l1]; rfl
      · rw [if_neg (by rw [e1]; exact fun y => z1 ((ne 1 (by decide)).mp y))]
        rw [if_neg (show ¬ kd < 2 by omega)] at l1 ⊢
        rw [l1]; rfl
  · rw [o1]
    unfold f_X12_ask_B133
    have hsA : RefS (wrI O' 94 7 0).1 (wrI O' 94 7 0).2.2.2 := hs'
    have hsB : RefS (wrI (wrI O' 94 7 0) 94 8 mI).1 (wrI (wrI O' 94 7 0) 94 8 mI).2.2.2 := hs'
    rw [gi94 hs', Option.bind_some, o5, pi94 hs', Option.bind_some, gi94 hsA, Option.bind_some, wrI_ne (by omega), o6, pi94 hsA, Option.bind_some, gi94 hsB, Option.bind_some, wrI_ne (by omega), wrI_ne (by omega), o5, if_pos rfl, ← hN']
    by_cases z : kd < 2
    · rw [if_neg (by rw [show (2 : Int32) = nI 2 from rfl, cle (by decide) (by omega)]; omega)]
      rw [if_pos z] at r1 ⊢
      exact r1
    · rw [if_pos (by rw [show (2 : Int32) = nI 2 from rfl, cle (by decide) (by omega)]; omega)]
      rw [if_neg z] at r1 ⊢
      exact r1
  · refine ask_end (x7 := 0) (x8 := mI) h cor6 ?_ ?_ ?_ ?_ ?_ ?_ ?_ (fun a k z => ?_)
    · rw [wv 1 1 rfl (ra_n _ _ (by omega) (by omega) (by omega)) (by omega) rfl (by omega), hO0, wrI_eq]
    · rw [r2.i rfl, v5 94 1 (by omega), o3]
    · rw [wv 1 8 rfl (ra_n _ _ (by omega) (by omega) (by omega)) (by omega) rfl (by omega), v0 1 8 (by omega)]; exact q3
    · rw [wv 1 9 rfl (ra_n _ _ (by omega) (by omega) (by omega)) (by omega) rfl (by omega), v0 1 9 (by omega)]; exact q4
    · rw [r2.i rfl, hN', wrI_ne (by omega), wrI_eq]
    · rw [r2.i rfl, hN', wrI_eq]
    · rw [r2.j rfl, F5.j rfl, o2.j rfl, fM.j (by omega) rfl, FO.j rfl]; exact hj
    · have y1 : scR a k = false := Bool.eq_false_iff.mpr (fun y => by
        unfold scR at y
        simp only [Bool.or_eq_true, Bool.and_eq_true, beq_iff_eq, decide_eq_true_eq] at y
        omega)
      have y2 : scC a k = false := Bool.eq_false_iff.mpr (fun y => by
        unfold scC at y
        simp only [Bool.or_eq_true, Bool.and_eq_true, beq_iff_eq, decide_eq_true_eq] at y
        omega)
      rw [wv a k y1 (ra_n a k (by omega) (by omega) (by omega)) (by omega) y2 (by omega), v0 a k (by omega)]
      exact hv a k (by omega) (by omega) (by omega) (by omega) (by omega)
theorem ok_ask (h : IX M D Do G P E C W c0 c1 c2 n pc pn) : ∃ r M1 M2, f_X11_ask 0 M = some (r, M1) ∧ f_X12_ask 94 M1 = some (r, M2) ∧ Inv M2 := by
  by_cases ht : 0 < (uR M 130 2).toInt
  · obtain ⟨v, N, e, R, a1, cor, hv, hj, hq, hO⟩ := ask_read h ht
    rw [a1]
    match R, hq, hO with
    | .inl q, hq, hO => exact ask_bad h cor hv hj hq hO
    | .inr (k, cs), hq, hO => exact ask_good h cor hv hj hq hO
  · exact ask_untold h ht
end ASG
