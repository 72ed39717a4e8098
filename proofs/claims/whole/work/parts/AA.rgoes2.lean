section RGP
variable {b : Nat → Int32} {n e t c wh : Nat} {T : Tk} {sa sz : Nat → Nat} {M N : sMem} {s : Cs} {S0 S R : List Nat} {o o0 v : Nat}
theorem RQ.pop (hQ : RQ M S0 (v :: S) R o) (hl : S.length + S0.length < 1700) (ho : 1 ≤ o) : RQ (wrI (wrI M 94 118 (nI (S.length + S0.length))) 94 119 (nI (o - 1))) S0 S R (o - 1) ∧ Fr qX q0 M (wrI (wrI M 94 118 (nI (S.length + S0.length))) 94 119 (nI (o - 1))) ∧ M.2.1 184 (S.length + S0.length) = nI v ∧ M.2.1 94 118 - (1 : Int32) = nI (S.length + S0.length) := by
  obtain ⟨h1, h2, h3, h4, h5, h6⟩ := hQ
  refine ⟨⟨by rw [wrI_ne (by omega), wrI_eq], h2.2.cg (fun i _ => by rw [wrI_ne (by omega), wrI_ne (by omega)]), by rw [wrI_ne (by omega), wrI_ne (by omega)]; exact h3, fun i hi => by rw [wrI_ne (by omega), wrI_ne (by omega)]; exact h4 i hi, wrI_eq, by rw [wrI_ne (by omega), wrI_ne (by omega)]; exact h6⟩, (Fr.rf.wi rfl).wi rfl, ?_, ?_⟩
  · have w : M.2.1 184 (S ++ S0).length = nI v := h2.1
    rw [List.length_append] at w; exact w
  · rw [h1, show (1 : Int32) = nI 1 from rfl, nsub (by show 1 ≤ S.length + 1 + S0.length; omega), show (v :: S).length + S0.length - 1 = S.length + S0.length by show S.length + 1 + S0.length - 1 = _; omega]
theorem MI.th (h : MI S0 o0 (v, t, S, R, o)) (hS0 : ∀ s ∈ S0, 5 ≤ s ∧ s < 1000) : ∀ s ∈ S ++ S0, s < 1000 := by
  intro s hs
  rcases List.mem_append.mp hs with z | z
  · have := h.2.1 s z; omega
  · exact (hS0 s z).2
/-- a bracket is closed -/
theorem g_close (hL : Lex b n T e sa sz) (hB : RB b n M) (hS : RSl T e sa sz M t) (hQ : RQ M S0 S R o) (hI : MI S0 o0 (1, t, S, R, o)) (hW : WF (1, t, S, R, o)) (hS0 : ∀ s ∈ S0, 5 ≤ s ∧ s < 1000) (h41 : isS T t 41 = true) (hbk : brk S = 20 ∨ brk S = 23 ∨ brk S = 24) : ∃ N σ', stp wh T (1, t, S, R, o) = .inl σ' ∧ σ'.1 = 1 ∧ f_X12_qGoesOn_B43 94 M = some (.inl N) ∧ Fr rqX q0 M N ∧ RM T e sa sz N S0 σ' ∧ MI S0 o0 σ' := by
  have hv := hI.th hS0
  obtain ⟨i1, i2, i3, i4⟩ := hI
  dsimp only at i1 i2 i3 i4
  have hte := hS.1.2.1
  have he := hL.1.2
  have hlt := hL.ne hte (by rw [(isS_v h41).1]; decide)
  obtain ⟨s1, s2⟩ := r_step1 hL hB hS h41
  have hB1 := hB.rl s1
  obtain ⟨N2, a1, a2, a3⟩ := dr_brk hB1 s2.1 (hQ.l s1) hv (by omega)
  obtain ⟨d1, d2, d3, d4, d5⟩ := wf_drop nB4 S R hW.1 (hW.2 rfl)
  obtain ⟨S', hS'⟩ := brk_drop S R (by omega)
  have hB2 := hB1.q a2
  have s3 := s2.q a2
  generalize hX : (dropW nB S R).2 = R' at *
  rw [hS'] at a3 d1 d3 d4 d5
  rw [List.length_cons] at d4
  have hop : opn (brk S :: S') = 1 + opn S' := by
    show (if 20 ≤ brk S then 1 else 0) + opn S' = _
    rw [if_pos (by omega)]
  obtain ⟨p1, p2, p3, p4⟩ := a3.pop (by omega) (by omega)
  have hB3 := hB2.q p2
  have s4 := s3.q p2
  have estp : stp wh T (1, t, S, R, o) = .inl (1, t + 1, endsP S' (R' ++ clC (brk S)) (o - 1)) := by
    unfold stp; dsimp only
    rw [if_neg (by decide), if_pos ⟨h41, hbk⟩, hS', hX]; rfl
  -- what waits for a part
  have B115 : ∀ (N4 : sMem) (R2 : List Nat), RB b n N4 → RS T e sa sz N4 (.inr (t + 1)) → RQ N4 S0 S' R2 (o - 1) → R2 = R' ++ clC (brk S) → Fr rqX q0 M N4 → ∃ N σ', stp wh T (1, t, S, R, o) = .inl σ' ∧ σ'.1 = 1 ∧ f_X12_qGoesOn_B115 94 N4 = some (.inl N) ∧ Fr rqX q0 M N ∧ RM T e sa sz N S0 σ' ∧ MI S0 o0 σ' := by
    intro N4 R2 hB4 s5 q4 hR2 g4
    have hlen : R2.length ≤ R'.length + 1 := by
      rw [hR2, List.length_append]
      have : (clC (brk S)).length ≤ 1 := by
        unfold clC
        split
        · decide
        · split <;> decide
      omega
    obtain ⟨N5, c1, c2, c3⟩ := q_ends hB4 s5.1 q4 (fun s hs => by have := i2 s (d5 s (List.mem_cons_of_mem _ hs)); omega) (by omega) (by omega) sFuel (by rw [sFuel_v]; omega)
    obtain ⟨e1, e2, e3, e4⟩ := ends_inv S' R2 (o - 1) o0 (by omega)
    refine ⟨N5, _, estp, rfl, ?_, g4.tr (up_q c2), ⟨s5.q c2, by rw [← hR2]; exact c3⟩, ?_, fun s hs => ?_, by rw [← hR2]; exact e2, ?_⟩
    · unfold f_X12_qGoesOn_B115 f_X12_qEndsPart f_X12_qEndsPart_L0
      rw [sr94 hB4.1, c1]; rfl
    · dsimp only; rw [← hR2]; omega
    · dsimp only at hs
      rw [← hR2] at hs
      exact i2 s (d5 s (List.mem_cons_of_mem _ (e3 s hs)))
    · dsimp only; rw [← hR2]; omega
  unfold f_X12_qGoesOn_B43
  have g3 : Fr rqX q0 M (wrI (wrI N2 94 118 (nI (S'.length + S0.length))) 94 119 (nI (o - 1))) := ((up_l s1).tr (up_q a2)).tr (up_q p2)
  have e119 : N2.2.1 94 119 = nI o := a3.2.2.2.2.1
  have ld : ldI 14 (wrI (wrI N2 94 118 (nI (S'.length + S0.length))) 94 119 (nI (o - 1))) 184 (nI (S'.length + S0.length)) = some (nI (brk S)) := by
    rw [ld184 hB3.1 (by omega), wrI_ne (by omega), wrI_ne (by omega), p3]
  have eo : nI o - (1 : Int32) = nI (o - 1) := by rw [show (1 : Int32) = nI 1 from rfl, nsub (by omega)]
  rw [gi94 hB.1, Option.bind_some, hS.2, pi94 hB.1, Option.bind_some, a1, Option.bind_some, gi94 hB2.1, Option.bind_some, p4, pi94 hB2.1, Option.bind_some, gi94 (M := wrI N2 94 118 (nI (S'.length + S0.length))) hB2.1, Option.bind_some, wrI_ne (by omega), e119, eo, pi94 (M := wrI N2 94 118 (nI (S'.length + S0.length))) hB2.1, Option.bind_some, gr94_117 hB3.1, Option.bind_some, gi94 hB3.1, Option.bind_some, p1.1, ld, Option.bind_some]
  by_cases h20 : brk S = 20
  · rw [if_pos (by rw [h20]; rfl)]
    exact B115 _ R' hB3 s4 p1 (by rw [h20]; show R' = R' ++ []; rw [List.append_nil]) g3
  · rw [if_neg (by rw [show (20 : Int32) = nI 20 from rfl, nI_eq (by omega) (by omega)]; exact h20), Option.bind_some, Option.bind_some, ld, Option.bind_some]
    by_cases h23 : brk S = 23
    · obtain ⟨N4, c1, c2, c3⟩ := q_code (v := 5) (z := 5) hB3 p1 (by omega) rfl
      rw [if_pos (by rw [h23]; rfl)]
      unfold f_X12_qGoesOn_B112
      rw [c1, Option.bind_some]
      exact B115 N4 (R' ++ [5]) (hB3.q c2) (s4.q c2) c3 (by rw [h23]; rfl) (g3.tr (up_q c2))
    · obtain ⟨N4, c1, c2, c3⟩ := q_code (v := 6) (z := 6) hB3 p1 (by omega) rfl
      rw [if_neg (by rw [show (23 : Int32) = nI 23 from rfl, nI_eq (by omega) (by omega)]; exact h23)]
      unfold f_X12_qGoesOn_B112
      rw [c1, Option.bind_some]
      exact B115 N4 (R' ++ [6]) (hB3.q c2) (s4.q c2) c3 (by rw [show brk S = 24 by omega]; rfl) (g3.tr (up_q c2))
/-- one turn of what is closed -/
theorem g_step (hL : Lex b n T e sa sz) (hB : RB b n M) (hS : RS T e sa sz M (.inr t)) (hQ : RQ M S0 S R o) (hI : MI S0 o0 (1, t, S, R, o)) (hW : WF (1, t, S, R, o)) (hS0 : ∀ s ∈ S0, 5 ≤ s ∧ s < 1000) :
    (∃ N σ', stp wh T (1, t, S, R, o) = .inl σ' ∧ σ'.1 = 1 ∧ f_X12_qGoesOn_K0 94 M = some (.inl N) ∧ Fr rqX q0 M N ∧ RM T e sa sz N S0 σ' ∧ MI S0 o0 σ') ∨ (∃ N, f_X12_qGoesOn_K0 94 M = some (.inr N) ∧ Fr rlX q0 M N ∧ RSl T e sa sz N t ∧ ¬ (isS T t 41 = true ∧ (brk S = 20 ∨ brk S = 23 ∨ brk S = 24))) := by
  have i1 := hI.1
  have i2 := hI.2.1
  dsimp only at i1 i2
  have hte := hS.2.1
  have he := hL.1.2
  obtain ⟨N1, l1, l2, l3⟩ := r_look hL hB hS
  have hB1 := hB.rl l2
  have hQ1 := hQ.l l2
  have hbr := r_bracket hB1 hQ1 (fun s hs => by have := i2 s hs; omega) (by omega)
  unfold f_X12_qGoesOn_K0
  rw [gi94 hB.1, Option.bind_some, hS.1, if_pos rfl, l1]
  dsimp only [Option.bind_some]
  by_cases h41 : isS T t 41 = true
  · rw [if_pos (show chr b e sa t = (41 : Int32) from (chr_S hL hte sg40.2.1).mpr h41), hbr, Option.bind_some]
    by_cases hbk : brk S = 20 ∨ brk S = 23 ∨ brk S = 24
    · obtain ⟨N, σ', c1, c2, c3, c4, c5, c6⟩ := g_close (wh := wh) hL hB1 l3 hQ1 hI hW hS0 h41 hbk
      refine Or.inl ⟨N, σ', c1, c2, ?_, (up_l l2).tr c4, c5, c6⟩
      rw [if_neg (show ¬ brk S = 0 by omega)]
      by_cases h20 : brk S = 20
      · rw [if_pos (by rw [h20]; rfl)]; exact c3
      · rw [if_neg (by rw [show (20 : Int32) = nI 20 from rfl, nI_eq (by omega) (by omega)]; exact h20), Option.bind_some]
        by_cases h23 : brk S = 23
        · rw [if_pos (by rw [h23]; rfl)]; exact c3
        · rw [if_neg (by rw [show (23 : Int32) = nI 23 from rfl, nI_eq (by omega) (by omega)]; exact h23), Option.bind_some, if_pos (by rw [show brk S = 24 by omega]; rfl)]; exact c3
    · refine Or.inr ⟨N1, ?_, l2, l3, fun z => hbk z.2⟩
      have hne : ∀ k, (k = 20 ∨ k = 23 ∨ k = 24) → ¬ (if brk S = 0 then (-1 : Int32) else nI (brk S)) = nI k := by
        intro k hk
        have hb24 : brk S < 2147483648 := by
          have key : ∀ A : List Nat, brk A ≤ 24 := by
            intro A
            induction A with
            | nil => exact Nat.zero_le _
            | cons a A ih =>
              show (if isB a = true then a else brk A) ≤ 24
              by_cases z : isB a = true
              · rw [if_pos z]; exact (of_decide_eq_true z).2
              · rw [if_neg z]; exact ih
          have := key S; omega
        by_cases z : brk S = 0
        · rw [if_pos z]
          intro w
          have : mI = nI k := w
          rw [cneg' (by omega)] at this; exact this
        · rw [if_neg z, nI_eq (by omega) (by omega)]; omega
      rw [if_neg (show ¬ (if brk S = 0 then (-1 : Int32) else nI (brk S)) = (20 : Int32) from hne 20 (by omega)), Option.bind_some, if_neg (show ¬ (if brk S = 0 then (-1 : Int32) else nI (brk S)) = (23 : Int32) from hne 23 (by omega)), Option.bind_some, if_neg (show ¬ (if brk S = 0 then (-1 : Int32) else nI (brk S)) = (24 : Int32) from hne 24 (by omega))]
  · rw [if_neg (show ¬ chr b e sa t = (41 : Int32) from fun z => h41 ((chr_S hL hte sg40.2.1).mp z))]
    exact Or.inr ⟨N1, rfl, l2, l3, fun z => h41 z.1⟩
/-- an operator is put upon the pile -/
theorem g_push {k : Nat} (hB : RB b n M) (hS : RS T e sa sz M (.inr (t + 1))) (hQ : RQ M S0 S R o) (hl : S.length + S0.length < 1700) {z : Int32} (hz : z = nI k) : ∃ N, ((gR 12 127 117 M 94).bind fun x1 => (gI 12 127 118 M 94).bind fun x2 => (stI M x1 x2 z).bind fun M3 => (gI 12 127 118 M3 94).bind fun x4 => (pI 12 127 118 M3 94 ((x4 + (1 : Int32)))).bind fun M5 => some (((1 : Int32), M5))) = some (1, N) ∧ Fr qX q0 M N ∧ RM T e sa sz N S0 (0, t + 1, k :: S, R, o) := by
  obtain ⟨k1, k2⟩ := q_push hB hQ hl hz
  rw [gr94_117 hB.1, Option.bind_some, gi94 hB.1, Option.bind_some, hQ.1, st184 hB.1 hl, Option.bind_some, gi94 (M := wrI M 184 (S.length + S0.length) z) hB.1, Option.bind_some, wrI_ne (by omega), hQ.1, nI_1, pi94 (M := wrI M 184 (S.length + S0.length) z) hB.1, Option.bind_some]
  exact ⟨_, rfl, k2, hS.q k2, k1⟩
end RGP
