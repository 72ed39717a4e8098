section RSU
variable {b : Nat → Int32} {n e t c wh : Nat} {T : Tk} {sa sz : Nat → Nat} {M N : sMem} {s : Cs} {S0 S R : List Nat} {o o0 v : Nat}
theorem brk24 : ∀ A : List Nat, brk A ≤ 24
  | [] => Nat.zero_le _
  | a :: A => by
    show (if isB a = true then a else brk A) ≤ 24
    by_cases z : isB a = true
    · rw [if_pos z]; exact (of_decide_eq_true z).2
    · rw [if_neg z]; exact brk24 A
theorem MI.opr {k : Nat} {p : Nat → Bool} (hp : ∀ v, p v = true → 1 ≤ v → v < 60 → (v ≤ 4 ∨ (20 ≤ v ∧ v ≤ 24) ∨ (60 ≤ v ∧ v < 62)) → v ≤ 4) (hI : MI S0 o0 (1, t, S, R, o)) (hW : WF (1, t, S, R, o)) (hk : 1 ≤ k ∧ k ≤ 4) : MI S0 o0 (0, t + 1, k :: (dropW p S R).1, (dropW p S R).2, o) := by
  obtain ⟨i1, i2, i3, i4⟩ := hI
  dsimp only at i1 i2 i3 i4
  obtain ⟨d1, d2, d3, d4, d5⟩ := wf_drop hp S R hW.1 (hW.2 rfl)
  refine ⟨by dsimp only; rw [List.length_cons]; omega, fun s hs => ?_, ?_, i4⟩
  · rcases List.mem_cons.mp hs with z | z
    · rw [z]; omega
    · exact i2 s (d5 s z)
  · show o = o0 + ((if 20 ≤ k then 1 else 0) + opn (dropW p S R).1)
    rw [if_neg (by omega), d3]; omega
/-- behind what is closed -/
theorem g_rest (hL : Lex b n T e sa sz) (hB : RB b n M) (hS : RS T e sa sz M (.inr t)) (hQ : RQ M S0 S R o) (hI : MI S0 o0 (1, t, S, R, o)) (hW : WF (1, t, S, R, o)) (hS0 : ∀ s ∈ S0, 5 ≤ s ∧ s < 1000) (hc : ¬ (isS T t 41 = true ∧ (brk S = 20 ∨ brk S = 23 ∨ brk S = 24))) :
    ∃ x N, f_X12_qGoesOn_B122 94 M = some (x, N) ∧ Fr rqX q0 M N ∧ ((∃ σ', stp wh T (1, t, S, R, o) = .inl σ' ∧ σ'.1 = 0 ∧ x = 1 ∧ RM T e sa sz N S0 σ' ∧ MI S0 o0 σ') ∨ (∃ q, stp wh T (1, t, S, R, o) = .inr (.inl q) ∧ x = 0 ∧ RS T e sa sz N (.inl q) ∧ BS N) ∨ (stp wh T (1, t, S, R, o) = .inr (.inr (R ++ S, t)) ∧ x = 0 ∧ RS T e sa sz N (.inr t) ∧ RQ N S0 S R o ∧ brk S = 0)) := by
  have hv := hI.th hS0
  have i1 := hI.1
  have i2 := hI.2.1
  have i4 := hI.2.2.2
  dsimp only at i1 i2 i4
  have hte := hS.2.1
  have he := hL.1.2
  have hn := hL.2.1
  have estp : stp wh T (1, t, S, R, o) = (if sepM T t ≠ 0 then .inl (0, t + 1, sepM T t :: (dropW isMul S R).1, (dropW isMul S R).2, o) else if sepA T t ≠ 0 then .inl (0, t + 1, sepA T t :: (dropW isOp S R).1, (dropW isOp S R).2, o) else if brk S = 21 ∨ brk S = 22 then (if isS T t 44 = true then .inl (0, t + 1, (brk S + 2) :: (dropW nB S R).1.tail, (dropW nB S R).2, o) else flt 1 (T 4 t)) else if brk S ≠ 0 then flt 1 (T 4 t) else .inr (.inr (R ++ S, t))) := by
    unfold stp; dsimp only
    rw [if_neg (by decide), if_neg hc]
  -- times, by
  have B140 : ∀ N : sMem, Fr rlX q0 M N → RS T e sa sz N (.inr (t + 1)) → N.2.1 94 2 = nI (sa t + 1) → sepM T t ≠ 0 → ∃ x N', f_X12_qGoesOn_B140 94 N = some (x, N') ∧ Fr rqX q0 M N' ∧ (∃ σ', stp wh T (1, t, S, R, o) = .inl σ' ∧ σ'.1 = 0 ∧ x = 1 ∧ RM T e sa sz N' S0 σ' ∧ MI S0 o0 σ') := by
    intro N g s1 h2 hm
    have hBN := hB.rl g
    have hlt : t < e := by rcases sepM_v hm with ⟨q, _⟩ | ⟨q, _⟩ <;> exact hL.ne hte (by rw [(isS_v q).1]; decide)
    have hsn := (hL.2.2.2.2.1 t hlt).1
    have hb : ldI 14 N 95 (nI (sa t + 1) - (1 : Int32)) = some (b (sa t)) := by
      rw [show (1 : Int32) = nI 1 from rfl, nsub (by omega), show sa t + 1 - 1 = sa t by omega, ld95 hBN.1 (by omega), hBN.2.2.2 _ hsn]
    have fin : ∀ z : Int32, z = nI (sepM T t) → ∃ x N', f_X12_qGoesOn_B161 94 z N = some (x, N') ∧ Fr rqX q0 M N' ∧ (∃ σ', stp wh T (1, t, S, R, o) = .inl σ' ∧ σ'.1 = 0 ∧ x = 1 ∧ RM T e sa sz N' S0 σ' ∧ MI S0 o0 σ') := by
      intro z hz
      obtain ⟨N1, a1, a2, a3⟩ := dr_mul z (fun s hs => (hS0 s hs).1) hBN s1.1 (hQ.l g) hv (by omega)
      have hlen := (wf_drop mul4 S R hW.1 (hW.2 rfl)).2.2.2.1
      obtain ⟨N2, b1, b2, b3⟩ := g_push (hBN.q a2) (s1.q a2) a3 (by omega) hz
      unfold f_X12_qGoesOn_B161 f_X12_qGoesOn_L162 f_X12_qGoesOn_B185
      rw [a1, Option.bind_some, b1]
      refine ⟨1, N2, rfl, ((up_l g).tr (up_q a2)).tr (up_q b2), _, by rw [estp, if_pos hm], rfl, rfl, b3, hI.opr mul4 hW ?_⟩
      rcases sepM_v hm with ⟨_, q⟩ | ⟨_, q⟩ <;> omega
    unfold f_X12_qGoesOn_B140
    rw [gr94_0 hBN.1, Option.bind_some, gi94 hBN.1, Option.bind_some, h2, hb, Option.bind_some]
    rcases sepM_v hm with ⟨q, q2⟩ | ⟨q, q2⟩
    · have : b (sa t) = 42 := by have w := hL.k3 hlt (isS_v q).1; rw [← w.2.2.2.1]; exact (isS_v q).2
      rw [if_pos this]; exact fin 3 (by rw [q2]; rfl)
    · have : b (sa t) = 47 := by have w := hL.k3 hlt (isS_v q).1; rw [← w.2.2.2.1]; exact (isS_v q).2
      rw [if_neg (by rw [this]; decide)]; exact fin 4 (by rw [q2]; rfl)
  have B225 : ∀ N : sMem, Fr rlX q0 M N → RS T e sa sz N (.inr (t + 1)) → N.2.1 94 2 = nI (sa t + 1) → sepM T t = 0 → sepA T t ≠ 0 → ∃ x N', f_X12_qGoesOn_B225 94 N = some (x, N') ∧ Fr rqX q0 M N' ∧ (∃ σ', stp wh T (1, t, S, R, o) = .inl σ' ∧ σ'.1 = 0 ∧ x = 1 ∧ RM T e sa sz N' S0 σ' ∧ MI S0 o0 σ') := by
    intro N g s1 h2 hm0 hm
    have hBN := hB.rl g
    have hlt : t < e := by rcases sepA_v hm with ⟨q, _⟩ | ⟨q, _⟩ <;> exact hL.ne hte (by rw [(isS_v q).1]; decide)
    have hsn := (hL.2.2.2.2.1 t hlt).1
    have hb : ldI 14 N 95 (nI (sa t + 1) - (1 : Int32)) = some (b (sa t)) := by
      rw [show (1 : Int32) = nI 1 from rfl, nsub (by omega), show sa t + 1 - 1 = sa t by omega, ld95 hBN.1 (by omega), hBN.2.2.2 _ hsn]
    have fin : ∀ z : Int32, z = nI (sepA T t) → ∃ x N', f_X12_qGoesOn_B246 94 z N = some (x, N') ∧ Fr rqX q0 M N' ∧ (∃ σ', stp wh T (1, t, S, R, o) = .inl σ' ∧ σ'.1 = 0 ∧ x = 1 ∧ RM T e sa sz N' S0 σ' ∧ MI S0 o0 σ') := by
      intro z hz
      obtain ⟨N1, a1, a2, a3⟩ := dr_op z (fun s hs => (hS0 s hs).1) hBN s1.1 (hQ.l g) hv (by omega)
      have hlen := (wf_drop op4 S R hW.1 (hW.2 rfl)).2.2.2.1
      obtain ⟨N2, b1, b2, b3⟩ := g_push (hBN.q a2) (s1.q a2) a3 (by omega) hz
      unfold f_X12_qGoesOn_B246 f_X12_qGoesOn_L247 f_X12_qGoesOn_B286
      rw [a1, Option.bind_some, b1]
      refine ⟨1, N2, rfl, ((up_l g).tr (up_q a2)).tr (up_q b2), _, by rw [estp, if_neg (fun w => w hm0), if_pos hm], rfl, rfl, b3, hI.opr op4 hW ?_⟩
      rcases sepA_v hm with ⟨_, q⟩ | ⟨_, q⟩ <;> omega
    unfold f_X12_qGoesOn_B225
    rw [gr94_0 hBN.1, Option.bind_some, gi94 hBN.1, Option.bind_some, h2, hb, Option.bind_some]
    rcases sepA_v hm with ⟨q, q2⟩ | ⟨q, q2⟩
    · have : b (sa t) = 43 := by have w := hL.k3 hlt (isS_v q).1; rw [← w.2.2.2.1]; exact (isS_v q).2
      rw [if_pos this]; exact fin 1 (by rw [q2]; rfl)
    · have : b (sa t) = 45 := by have w := hL.k3 hlt (isS_v q).1; rw [← w.2.2.2.1]; exact (isS_v q).2
      rw [if_neg (by rw [this]; decide)]; exact fin 2 (by rw [q2]; rfl)
  unfold f_X12_qGoesOn_B122
  by_cases h42 : isS T t 42 = true
  · obtain ⟨N, a1, a2, a3, a4⟩ := r_sgn_y (z := 42) hL hB sg40.2.2.1 hS h42 rfl
    rw [a1]
    dsimp only [Option.bind_some]
    rw [if_neg (by decide)]
    obtain ⟨x, N', c1, c2, c3⟩ := B140 N a2 a3 a4 (by unfold sepM; rw [if_pos h42]; decide)
    exact ⟨x, N', c1, c2, Or.inl c3⟩
  · obtain ⟨N1, a1, g1, s1⟩ := r_sgn_n (z := 42) hL hB sg40.2.2.1 hS h42 rfl
    rw [a1]
    dsimp only [Option.bind_some]
    rw [if_pos rfl]
    have hB1 := hB.rl g1
    by_cases h47 : isS T t 47 = true
    · obtain ⟨N, a1, a2, a3, a4⟩ := r_sgn_y (z := 47) hL hB1 sg40.2.2.2.2.2.2.1 s1.1 h47 rfl
      rw [a1]
      dsimp only [Option.bind_some]
      rw [if_neg (by decide)]
      obtain ⟨x, N', c1, c2, c3⟩ := B140 N (g1.tr a2) a3 a4 (by unfold sepM; rw [if_neg h42, if_pos h47]; decide)
      exact ⟨x, N', c1, c2, Or.inl c3⟩
    · obtain ⟨N2, a2, g2', s2⟩ := r_sgn_n (z := 47) hL hB1 sg40.2.2.2.2.2.2.1 s1.1 h47 rfl
      rw [a2]
      dsimp only [Option.bind_some]
      rw [if_pos rfl]
      have g2 := g1.tr g2'
      have hB2 := hB.rl g2
      have hm0 : sepM T t = 0 := by unfold sepM; rw [if_neg h42, if_neg h47]
      by_cases h43 : isS T t 43 = true
      · obtain ⟨N, a1, a2, a3, a4⟩ := r_sgn_y (z := 43) hL hB2 sg40.2.2.2.1 s2.1 h43 rfl
        rw [a1]
        dsimp only [Option.bind_some]
        rw [if_neg (by decide)]
        obtain ⟨x, N', c1, c2, c3⟩ := B225 N (g2.tr a2) a3 a4 hm0 (by unfold sepA; rw [if_pos h43]; decide)
        exact ⟨x, N', c1, c2, Or.inl c3⟩
      · obtain ⟨N3, a3, g3', s3⟩ := r_sgn_n (z := 43) hL hB2 sg40.2.2.2.1 s2.1 h43 rfl
        rw [a3]
        dsimp only [Option.bind_some]
        rw [if_pos rfl]
        have g3 := g2.tr g3'
        have hB3 := hB.rl g3
        by_cases h45 : isS T t 45 = true
        · obtain ⟨N, a1, a2, a3, a4⟩ := r_sgn_y (z := 45) hL hB3 sg40.2.2.2.2.2.1 s3.1 h45 rfl
          rw [a1]
          dsimp only [Option.bind_some]
          rw [if_neg (by decide)]
          obtain ⟨x, N', c1, c2, c3⟩ := B225 N (g3.tr a2) a3 a4 hm0 (by unfold sepA; rw [if_neg h43, if_pos h45]; decide)
          exact ⟨x, N', c1, c2, Or.inl c3⟩
        · obtain ⟨N4, a4, g4', s4⟩ := r_sgn_n (z := 45) hL hB3 sg40.2.2.2.2.2.1 s3.1 h45 rfl
          rw [a4]
          dsimp only [Option.bind_some]
          rw [if_pos rfl]
          have g4 := g3.tr g4'
          have hB4 := hB.rl g4
          have hQ4 := hQ.l g4
          have ha0 : sepA T t = 0 := by unfold sepA; rw [if_neg h43, if_neg h45]
          have hb24 := brk24 S
          rw [if_neg (fun w => w hm0), if_neg (fun w => w ha0)] at estp
          rw [r_bracket hB4 hQ4 (fun s hs => by have := i2 s hs; omega) (by omega), Option.bind_some]
          have B326 : brk S = 21 ∨ brk S = 22 → ∃ x N', f_X12_qGoesOn_B326 94 N4 = some (x, N') ∧ Fr rqX q0 M N' ∧ ((∃ σ', stp wh T (1, t, S, R, o) = .inl σ' ∧ σ'.1 = 0 ∧ x = 1 ∧ RM T e sa sz N' S0 σ' ∧ MI S0 o0 σ') ∨ (∃ q, stp wh T (1, t, S, R, o) = .inr (.inl q) ∧ x = 0 ∧ RS T e sa sz N' (.inl q) ∧ BS N')) := by
            intro hbk
            rw [if_pos hbk] at estp
            obtain ⟨N5, c1, c2, c3⟩ := r_asksS (z := 44) hL hB4 sg40.2.2.2.2.1 s4.1 rfl
            have hB5 := hB4.rl c2
            have hQ5 := hQ4.l c2
            unfold f_X12_qGoesOn_B326
            rw [c1, Option.bind_some, gi94 hB5.1, Option.bind_some]
            have e3 : ndS T 44 (.inr t) = if isS T t 44 = true then .inr (t + 1) else .inl (1, T 4 t) := rfl
            rw [e3] at c3
            by_cases h44 : isS T t 44 = true
            · rw [if_pos h44] at c3 estp
              have hlt := hL.ne hte (by rw [(isS_v h44).1]; decide)
              obtain ⟨N6, d1, d2, d3⟩ := dr_brk hB5 c3.1 hQ5 hv (by omega)
              obtain ⟨w1, w2, w3, w4, w5⟩ := wf_drop nB4 S R hW.1 (hW.2 rfl)
              obtain ⟨S', hS'⟩ := brk_drop S R (by omega)
              generalize hX : (dropW nB S R).2 = R' at *
              rw [hS'] at d3 w1 w3 w4 w5 estp
              rw [List.length_cons] at w4
              have hB6 := hB5.q d2
              have htop := q_top hB6 d3 (by omega)
              have e1 : nI ((brk S :: S').length + S0.length) - (1 : Int32) = nI (S'.length + S0.length) := by
                rw [show (1 : Int32) = nI 1 from rfl, nsub (by show 1 ≤ S'.length + 1 + S0.length; omega), show (brk S :: S').length + S0.length - 1 = S'.length + S0.length by show S'.length + 1 + S0.length - 1 = _; omega]
              rw [c3.1, if_pos rfl, d1, Option.bind_some, gr94_117 hB6.1, Option.bind_some, gi94 hB6.1, Option.bind_some, d3.1, htop, Option.bind_some, e1, st184 hB6.1 (by omega), Option.bind_some, show nI (brk S) + (2 : Int32) = nI (brk S + 2) from nI_add _ 2]
              have hF6 : Fr qX q0 N6 (wrI N6 184 (S'.length + S0.length) (nI (brk S + 2))) := Fr.rf.wi rfl
              have hop : opn (brk S :: S') = 1 + opn S' := by
                show (if 20 ≤ brk S then 1 else 0) + opn S' = _
                rw [if_pos (by omega)]
              have hop2 : opn ((brk S + 2) :: S') = 1 + opn S' := by
                show (if 20 ≤ brk S + 2 then 1 else 0) + opn S' = _
                rw [if_pos (by omega)]
              refine ⟨1, _, rfl, (((up_l g4).tr (up_l c2)).tr (up_q d2)).tr (up_q hF6), Or.inl ⟨_, estp, rfl, rfl, ⟨(c3.q d2).q hF6, ?_⟩, ?_, fun s hs => ?_, ?_, i4⟩⟩
              · obtain ⟨q1, q2, q3, q4, q5, q6⟩ := d3
                refine ⟨by rw [wrI_ne (by omega)]; exact q1, ⟨?_, q2.2.cg (fun i hi => ?_)⟩, by rw [wrI_ne (by omega)]; exact q3, fun i hi => by rw [wrI_ne (by omega)]; exact q4 i hi, by rw [wrI_ne (by omega)]; exact q5, by rw [wrI_ne (by omega)]; exact q6⟩
                · show (wrI N6 184 (S'.length + S0.length) (nI (brk S + 2))).2.1 184 (S' ++ S0).length = _
                  rw [List.length_append, wrI_eq]
                · change i < (S' ++ S0).length at hi
                  rw [List.length_append] at hi
                  rw [wrI_ne (by omega)]
              · dsimp only
                rw [List.tail_cons, List.length_cons]; omega
              · rw [List.tail_cons] at hs
                rcases List.mem_cons.mp hs with z | z
                · rw [z]; omega
                · exact i2 s (w5 s (List.mem_cons_of_mem _ z))
              · show o = o0 + opn ((brk S + 2) :: S')
                have := hI.2.2.1
                dsimp only at this
                rw [hop2]; omega
            · rw [if_neg h44] at c3 estp
              rw [c3.1, if_neg c3.2.2]
              exact ⟨0, N5, rfl, up_l (g4.tr c2), Or.inr ⟨_, estp, rfl, c3, BS.q hQ5 (by omega)⟩⟩
          by_cases h21 : brk S = 21
          · rw [if_neg (show ¬ brk S = 0 by omega), if_pos (by rw [h21]; rfl)]
            obtain ⟨x, N', c1, c2, c3⟩ := B326 (Or.inl h21)
            refine ⟨x, N', c1, c2, ?_⟩
            rcases c3 with c3 | c3
            · exact Or.inl c3
            · exact Or.inr (Or.inl c3)
          · have ne21 : ¬ (if brk S = 0 then (-1 : Int32) else nI (brk S)) = 21 := by
              by_cases z : brk S = 0
              · rw [if_pos z]; decide
              · rw [if_neg z, show (21 : Int32) = nI 21 from rfl, nI_eq (by omega) (by omega)]; exact h21
            rw [if_neg ne21, Option.bind_some]
            by_cases h22 : brk S = 22
            · rw [if_neg (show ¬ brk S = 0 by omega), if_pos (by rw [h22]; rfl)]
              obtain ⟨x, N', c1, c2, c3⟩ := B326 (Or.inr h22)
              refine ⟨x, N', c1, c2, ?_⟩
              rcases c3 with c3 | c3
              · exact Or.inl c3
              · exact Or.inr (Or.inl c3)
            · have ne22 : ¬ (if brk S = 0 then (-1 : Int32) else nI (brk S)) = 22 := by
                by_cases z : brk S = 0
                · rw [if_pos z]; decide
                · rw [if_neg z, show (22 : Int32) = nI 22 from rfl, nI_eq (by omega) (by omega)]; exact h22
              rw [if_neg (show ¬ (brk S = 21 ∨ brk S = 22) by omega)] at estp
              rw [if_neg ne22, Option.bind_some]
              by_cases hb0 : brk S = 0
              · rw [if_neg (fun w => w hb0)] at estp
                rw [if_pos hb0, if_pos rfl]
                exact ⟨0, N4, rfl, up_l g4, Or.inr (Or.inr ⟨estp, rfl, s4.1, hQ4, hb0⟩)⟩
              · rw [if_pos hb0] at estp
                obtain ⟨N5, f1, f2, f3⟩ := r_fail hB4 s4.1 1 (nI (sa t)) (by decide)
                rw [if_neg hb0, if_neg (by show ¬ nI (brk S) = mI; rw [cneg (by omega)]; exact id), gi94 hB4.1, Option.bind_some, s4.1.1, if_pos rfl, gi94 hB4.1, Option.bind_some, s4.2, f1]
                exact ⟨0, N5, rfl, up_l (g4.tr f2), Or.inr (Or.inl ⟨(1, T 4 t), estp, rfl, by rw [hL.t4 hte]; exact f3, (BS.q hQ4 (by omega)).eq (f2.i rfl)⟩)⟩
end RSU
