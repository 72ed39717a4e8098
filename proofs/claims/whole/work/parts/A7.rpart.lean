/-! THE REFERENCE tells a part -/
def MI (S0 : List Nat) (o0 : Nat) (σ : Sg) : Prop := S0.length + σ.2.2.1.length + σ.2.2.2.1.length ≤ σ.2.1 ∧ (∀ s ∈ σ.2.2.1, 1 ≤ s ∧ s < 62) ∧ σ.2.2.2.2 = o0 + opn σ.2.2.1 ∧ σ.2.2.2.2 ≤ 6
def RM (T : Tk) (e : Nat) (sa sz : Nat → Nat) (M : sMem) (S0 : List Nat) (σ : Sg) : Prop := RS T e sa sz M (.inr σ.2.1) ∧ RQ M S0 σ.2.2.1 σ.2.2.2.1 σ.2.2.2.2
def BS (M : sMem) : Prop := ∃ r, r ≤ 1640 ∧ M.2.1 94 116 = nI r
section RPT
variable {b : Nat → Int32} {n e t c wh : Nat} {T : Tk} {sa sz : Nat → Nat} {M N : sMem} {s : Cs} {S0 S R : List Nat} {o o0 v : Nat}
theorem ends_inv : ∀ (S R : List Nat) (o o0 : Nat), o = o0 + opn S → (endsP S R o).1.length + (endsP S R o).2.1.length = S.length + R.length ∧ (endsP S R o).2.2 = o0 + opn (endsP S R o).1 ∧ (∀ s ∈ (endsP S R o).1, s ∈ S) ∧ (endsP S R o).2.2 ≤ o
  | [], R, o, o0, h => ⟨rfl, h, fun s hs => hs, Nat.le_refl _⟩
  | v :: S, R, o, o0, h => by
    have hop : opn (v :: S) = (if 20 ≤ v then 1 else 0) + opn S := rfl
    by_cases h60 : 60 ≤ v
    · have e1 : endsP (v :: S) R o = endsP S (R ++ [v]) (o - 1) := by
        show (if 60 ≤ v then _ else _) = _
        rw [if_pos h60]
      rw [if_pos (by omega)] at hop
      obtain ⟨a1, a2, a3, a4⟩ := ends_inv S (R ++ [v]) (o - 1) o0 (by omega)
      rw [e1]
      refine ⟨by rw [a1, List.length_append, List.length_singleton, List.length_cons]; omega, a2, fun s hs => List.mem_cons_of_mem _ (a3 s hs), by omega⟩
    · have e1 : endsP (v :: S) R o = (v :: S, R, o) := by
        show (if 60 ≤ v then _ else _) = _
        rw [if_neg h60]
      rw [e1]
      exact ⟨rfl, h, fun s hs => hs, Nat.le_refl _⟩
theorem RS.at2 {x : Int32} {q : Int32 × Int32} (h : RS T e sa sz M (.inl q)) : RS T e sa sz (wrI M 94 2 x) (.inl q) := ⟨by rw [wrI_ne (by omega)]; exact h.1, by rw [wrI_ne (by omega)]; exact h.2.1, h.2.2⟩
theorem sg40 : sgB 40 ∧ sgB 41 ∧ sgB 42 ∧ sgB 43 ∧ sgB 44 ∧ sgB 45 ∧ sgB 47 ∧ sgB 59 ∧ sgB 60 ∧ sgB 61 ∧ sgB 62 ∧ sgB 91 ∧ sgB 93 := by unfold sgB; decide
theorem BS.q (h : RQ M S0 S R o) (hl : R.length ≤ 1640) : BS M := ⟨R.length, hl, h.2.2.1⟩
theorem BS.eq (h : BS M) (he : N.2.1 94 116 = M.2.1 94 116) : BS N := by
  obtain ⟨r, r1, r2⟩ := h
  exact ⟨r, r1, by rw [he]; exact r2⟩
theorem MI.push {v k : Nat} (h : MI S0 o0 (0, t, S, R, o)) (hv : 20 ≤ v ∧ v < 62) (ho : o ≠ 6) (hk : t + 1 ≤ k) : MI S0 o0 (0, k, v :: S, R, o + 1) := by
  obtain ⟨h1, h2, h3, h4⟩ := h
  dsimp only at h1 h2 h3 h4
  refine ⟨by show S0.length + (S.length + 1) + R.length ≤ k; omega, fun s hs => ?_, ?_, by show o + 1 ≤ 6; omega⟩
  · rcases List.mem_cons.mp hs with z | z
    · rw [z]; omega
    · exact h2 s z
  · show o + 1 = o0 + ((if 20 ≤ v then 1 else 0) + opn S)
    rw [if_pos hv.1]; omega
/-- one turn of what opens -/
theorem p_step (hL : Lex b n T e sa sz) (hB : RB b n M) (h58 : M.2.1 94 58 = nI wh) (hw : wh < 4) (hS : RS T e sa sz M (.inr t)) (hQ : RQ M S0 S R o) (hI : MI S0 o0 (0, t, S, R, o)) :
    ∃ N, Fr rqX q0 M N ∧ ((∃ σ', stp wh T (0, t, S, R, o) = .inl σ' ∧ σ'.1 = 0 ∧ f_X12_qPartTold_K2 94 1 M = some (.inl (1, N)) ∧ RM T e sa sz N S0 σ' ∧ MI S0 o0 σ') ∨ (∃ q, stp wh T (0, t, S, R, o) = .inr (.inl q) ∧ f_X12_qPartTold_K2 94 1 M = some (.inl (1, N)) ∧ RS T e sa sz N (.inl q) ∧ BS N) ∨
      (f_X12_qPartTold_K2 94 1 M = some (.inl (0, N)) ∧ RS T e sa sz N (.inr t) ∧ RQ N S0 S R o ∧ ¬ isS T t 40 = true ∧ ¬ mmC T t ≠ 0 ∧ ¬ (kof wh T t = 13 ∨ kof wh T t = 14))) := by
  obtain ⟨i1, i2, i3, i4⟩ := hI
  have hI : MI S0 o0 (0, t, S, R, o) := ⟨i1, i2, i3, i4⟩
  dsimp only at i1 i2 i3 i4
  have hte := hS.2.1
  have he := hL.1.2
  obtain ⟨N1, l1, l2, l3⟩ := r_look hL hB hS
  have hB1 := hB.rl l2
  obtain ⟨N2, w1, w2, w3⟩ := r_wordOf (lo := 13) (hi := 15) (zl := 13) (zh := 15) hL hB1 l3.1 (by rw [l2.i rfl]; exact h58) hw (by decide) (by decide) rfl rfl
  have hB2 := hB1.rl w2
  have g2 := l2.tr w2
  have hQ2 := hQ.l g2
  have eK : f_X12_qPartTold_K2 94 1 M = (if chr b e sa t = (40 : Int32) then (gI 12 127 2 N2 94).bind fun x24 => (f_X12_qOpens 94 ((20 : Int32)) x24 N2).bind fun M25 => (gI 12 127 2 M25 94).bind fun x26 => (pI 12 127 2 M25 94 ((x26 + (1 : Int32)))).bind fun M27 => f_X12_qPartTold_B183 94 1 M27
      else (gR 12 127 98 N2 94).bind fun x28 => (f_X12_isHere 94 x28 N2).bind fun (x29, M30) => if x29 = 0 then (gR 12 127 99 M30 94).bind fun x31 => (f_X12_isHere 94 x31 M30).bind fun (x32, M33) => if x32 = 0 then (if (if 13 ≤ kof wh T t ∧ kof wh T t < 15 then nI (kof wh T t) else -1) = (-1 : Int32) then f_X12_qPartTold_B183 94 ((0 : Int32)) M33 else (gI 12 127 2 M33 94).bind fun x34 => (f_X12_qOpens 94 ((((60 : Int32) + (if 13 ≤ kof wh T t ∧ kof wh T t < 15 then nI (kof wh T t) else -1)) - (13 : Int32))) x34 M33).bind fun M35 => (f_X12_qAsksWord 94 (if 13 ≤ kof wh T t ∧ kof wh T t < 15 then nI (kof wh T t) else -1) M35).bind fun M36 => f_X12_qPartTold_B183 94 1 M36) else f_X12_qPartTold_B78 94 1 M33 else f_X12_qPartTold_B78 94 1 M30) := by
    unfold f_X12_qPartTold_K2
    rw [if_neg (by decide), gi94 hB.1, Option.bind_some, hS.1, if_pos rfl, l1]
    dsimp only [Option.bind_some]
    rw [w1]
    rfl
  rw [eK]
  by_cases h40 : isS T t 40 = true
  · have hlt := hL.ne hte (by rw [(isS_v h40).1]; decide)
    rw [if_pos (show chr b e sa t = (40 : Int32) from (chr_S hL hte sg40.1).mpr h40), gi94 hB2.1, Option.bind_some, w3.2]
    obtain ⟨N3, k1, k2, k3⟩ := q_opens (z := 20) (p := nI (sa t)) (v := 20) hB2 w3.1 hQ2 (by omega) i4 rfl
    rw [k1, Option.bind_some, gi94 (k2.hs hB2.1), Option.bind_some, pi94 (k2.hs hB2.1), Option.bind_some]
    refine ⟨wrI N3 94 2 (N3.2.1 94 2 + 1), ((up_l g2).tr k2).wi rfl, ?_⟩
    rcases k3 with ⟨o6, k3, k4⟩ | ⟨o6, k3, k4⟩
    · refine Or.inr (Or.inl ⟨(4, T 4 t), ?_, rfl, by rw [hL.t4 hte]; exact k3.at2, ?_⟩)
      · unfold stp; dsimp only
        rw [if_pos rfl, if_pos h40, if_pos o6]; rfl
      · exact (BS.q hQ2 (by omega)).eq (by rw [wrI_ne (by omega), k4])
    · refine Or.inl ⟨(0, t + 1, 20 :: S, R, o + 1), ?_, rfl, rfl, ⟨?_, ?_⟩, hI.push (by decide) o6 (Nat.le_refl _)⟩
      · unfold stp; dsimp only
        rw [if_pos rfl, if_pos h40, if_neg o6]
      · have w4 := w3.q k3
        have := (r_step1 hL (hB2.q k3) w4 h40).2
        rw [w4.2]; exact this
      · exact k4.l (Fr.rf.wi rfl)
  · rw [if_neg (show ¬ chr b e sa t = (40 : Int32) from fun z => h40 ((chr_S hL hte sg40.1).mp z)), gr94_98 hB2.1, Option.bind_some]
    -- the least, the greatest
    have B78 : ∀ (N4 : sMem), Fr rlX q0 M N4 → RSl T e sa sz N4 t → mmC T t ≠ 0 → ∃ N, Fr rqX q0 M N ∧ ((∃ σ', stp wh T (0, t, S, R, o) = .inl σ' ∧ σ'.1 = 0 ∧ f_X12_qPartTold_B78 94 1 N4 = some (.inl (1, N)) ∧ RM T e sa sz N S0 σ' ∧ MI S0 o0 σ') ∨ (∃ q, stp wh T (0, t, S, R, o) = .inr (.inl q) ∧ f_X12_qPartTold_B78 94 1 N4 = some (.inl (1, N)) ∧ RS T e sa sz N (.inl q) ∧ BS N)) := by
      intro N4 g4 s4 hmm
      have hB4 := hB.rl g4
      have hlt : t < e := by
        rcases mmC_v hmm with ⟨q, _⟩ | ⟨q, _⟩ <;> exact hL.ne hte (by rw [(isW_v q).1]; decide)
      -- behind the word
      have B101 : ∀ (N5 : sMem) (x15 : Int32), Fr rlX q0 M N5 → RS T e sa sz N5 (.inr (t + 1)) → (if x15 = 0 then (22 : Int32) else 21) = nI (16 + mmC T t) → ∃ N, Fr rqX q0 M N ∧ ((∃ σ', stp wh T (0, t, S, R, o) = .inl σ' ∧ σ'.1 = 0 ∧ f_X12_qPartTold_B101 94 1 x15 N5 = some (.inl (1, N)) ∧ RM T e sa sz N S0 σ' ∧ MI S0 o0 σ') ∨ (∃ q, stp wh T (0, t, S, R, o) = .inr (.inl q) ∧ f_X12_qPartTold_B101 94 1 x15 N5 = some (.inl (1, N)) ∧ RS T e sa sz N (.inl q) ∧ BS N)) := by
        intro N5 x15 g5 s5 hx
        obtain ⟨N6, a1, a2, a3⟩ := r_look hL (hB.rl g5) s5
        have g6 := g5.tr a2
        have hB6 := hB.rl g6
        have hQ6 := hQ.l g6
        have hmv : 16 + mmC T t = 21 ∨ 16 + mmC T t = 22 := by
          rcases mmC_v hmm with ⟨_, q⟩ | ⟨_, q⟩ <;> omega
        unfold f_X12_qPartTold_B101
        rw [a1]
        dsimp only [Option.bind_some]
        by_cases h4 : isS T (t + 1) 40 = true
        · have hlt1 := hL.ne (t := t + 1) (by omega) (by rw [(isS_v h4).1]; decide)
          have hn := hL.2.1
          have hl1 := hL.2.2.2.1 (t + 1) (by omega)
          rw [if_pos (show chr b e sa (t + 1) = (40 : Int32) from (chr_S hL (by omega) sg40.1).mpr h4), gi94 hB6.1, Option.bind_some, a3.2]
          unfold f_X12_qPartTold_B118
          rw [if_neg (by show ¬ nI (sa (t + 1)) = mI; rw [cneg (by omega)]; exact id)]
          have eB : (if x15 = 0 then f_X12_qPartTold_B139 94 1 (nI (sa (t + 1))) 94 ((22 : Int32)) N6 else f_X12_qPartTold_B139 94 1 (nI (sa (t + 1))) 94 ((21 : Int32)) N6) = f_X12_qPartTold_B139 94 1 (nI (sa (t + 1))) 94 (nI (16 + mmC T t)) N6 := by
            by_cases z : x15 = 0
            · rw [if_pos z] at hx ⊢; rw [hx]
            · rw [if_neg z] at hx ⊢; rw [hx]
          rw [eB]
          unfold f_X12_qPartTold_B139
          obtain ⟨N7, k1, k2, k3⟩ := q_opens (z := nI (16 + mmC T t)) (p := nI (sa (t + 1))) (v := 16 + mmC T t) hB6 a3.1 hQ6 (by omega) i4 rfl
          rw [k1, Option.bind_some]
          unfold f_X12_qPartTold_B144 f_X12_qPartTold_B183
          have g7 := (up_l g6).tr k2
          have hB7 := hB.rq g7
          rcases k3 with ⟨o6, k3, k4⟩ | ⟨o6, k3, k4⟩
          · obtain ⟨N8, m1, m2, m3⟩ := r_asksS (z := 40) hL hB7 sg40.1 k3 rfl
            rw [m1, Option.bind_some]
            refine ⟨N8, g7.tr (up_l m2), Or.inr ⟨(4, T 4 (t + 1)), ?_, rfl, by rw [hL.t4 (by omega)]; exact m3, (BS.q hQ6 (by omega)).eq (by rw [m2.i rfl, k4])⟩⟩
            unfold stp; dsimp only
            rw [if_pos rfl, if_neg h40, if_pos hmm, if_pos h4, if_pos o6]; rfl
          · obtain ⟨N8, m1, m2, m3⟩ := r_asksS (z := 40) hL hB7 sg40.1 (a3.1.q k3) rfl
            have e3 : ndS T 40 (.inr (t + 1)) = .inr (t + 2) := by
              show (if isS T (t + 1) 40 = true then _ else _) = _
              rw [if_pos h4]
            rw [e3] at m3
            rw [m1, Option.bind_some]
            refine ⟨N8, g7.tr (up_l m2), Or.inl ⟨(0, t + 2, (16 + mmC T t) :: S, R, o + 1), ?_, rfl, rfl, ⟨m3, k4.l m2⟩, hI.push (by omega) o6 (by omega)⟩⟩
            unfold stp; dsimp only
            rw [if_pos rfl, if_neg h40, if_pos hmm, if_pos h4, if_neg o6]
        · rw [if_neg (show ¬ chr b e sa (t + 1) = (40 : Int32) from fun z => h4 ((chr_S hL (by omega) sg40.1).mp z))]
          unfold f_X12_qPartTold_B118
          rw [if_pos rfl]
          unfold f_X12_qPartTold_B144 f_X12_qPartTold_B183
          obtain ⟨N8, m1, m2, m3⟩ := r_asksS (z := 40) hL hB6 sg40.1 a3.1 rfl
          have e3 : ndS T 40 (.inr (t + 1)) = .inl (1, T 4 (t + 1)) := by
            show (if isS T (t + 1) 40 = true then _ else _) = _
            rw [if_neg h4]
          rw [e3] at m3
          rw [m1, Option.bind_some]
          refine ⟨N8, up_l (g6.tr m2), Or.inr ⟨(1, T 4 (t + 1)), ?_, rfl, m3, (BS.q hQ6 (by omega)).eq (m2.i rfl)⟩⟩
          unfold stp; dsimp only
          rw [if_pos rfl, if_neg h40, if_pos hmm, if_neg h4]; rfl
      unfold f_X12_qPartTold_B78
      rw [gr94_98 hB4.1, Option.bind_some]
      rcases mmC_v hmm with ⟨hq, hm⟩ | ⟨hq, hm⟩
      · obtain ⟨N5, a1, a2, a3⟩ := r_takes_y (c := 166) hL hB4 (by unfold isWc; omega) s4.1 hq
        rw [a1]
        dsimp only [Option.bind_some]
        rw [if_neg (by decide)]
        exact B101 N5 1 (g4.tr a2) a3 (by rw [if_neg (by decide), hm]; rfl)
      · have n31 : ¬ isW T t 31 = true := isW_ne hq (by decide)
        obtain ⟨N5, a1, a2, a3⟩ := r_takes_n (c := 166) hL hB4 (by unfold isWc; omega) s4.1 n31
        have hB5 := hB4.rl a2
        obtain ⟨N6, b1, b2, b3⟩ := r_asks (c := 167) hL hB5 (by unfold isWc; omega) a3.1
        have e3 : ndW T (nI (wdc 167)) (.inr t) = .inr (t + 1) := by
          show (if T 3 t = 1 ∧ T 6 t = nI 32 then _ else _) = _
          rw [if_pos (isW_v hq)]
        rw [e3] at b3
        rw [a1]
        dsimp only [Option.bind_some]
        rw [if_pos rfl, gr94_99 hB5.1, Option.bind_some, b1, Option.bind_some]
        exact B101 N6 0 ((g4.tr a2).tr b2) b3 (by rw [if_pos rfl, hm]; rfl)
    obtain ⟨N3, m1, m2, m3⟩ := r_isHere (c := 166) hL hB2 (by unfold isWc; omega) w3.1
    have g3 := g2.tr m2
    have hB3 := hB.rl g3
    rw [m1]
    dsimp only [Option.bind_some]
    by_cases h31 : isW T t (wdc 166) = true
    · have hmm : mmC T t ≠ 0 := by unfold mmC; rw [if_pos (show isW T t 31 = true from h31)]; decide
      rw [bI_t h31, if_neg (by decide)]
      obtain ⟨N, a1, a2⟩ := B78 N3 g3 m3 hmm
      rcases a2 with a2 | a2
      · exact ⟨N, a1, Or.inl a2⟩
      · exact ⟨N, a1, Or.inr (Or.inl a2)⟩
    · rw [bI_f h31, if_pos rfl, gr94_99 hB3.1, Option.bind_some]
      obtain ⟨N4, m4, m5, m6⟩ := r_isHere (c := 167) hL hB3 (by unfold isWc; omega) m3.1
      have g4 := g3.tr m5
      have hB4 := hB.rl g4
      rw [m4]
      dsimp only [Option.bind_some]
      by_cases h32 : isW T t (wdc 167) = true
      · have hmm : mmC T t ≠ 0 := by unfold mmC; rw [if_neg (show ¬ isW T t 31 = true from h31), if_pos (show isW T t 32 = true from h32)]; decide
        rw [bI_t h32, if_neg (by decide)]
        obtain ⟨N, a1, a2⟩ := B78 N4 g4 m6 hmm
        rcases a2 with a2 | a2
        · exact ⟨N, a1, Or.inl a2⟩
        · exact ⟨N, a1, Or.inr (Or.inl a2)⟩
      · have hmm : mmC T t = 0 := by unfold mmC; rw [if_neg (show ¬ isW T t 31 = true from h31), if_neg (show ¬ isW T t 32 = true from h32)]
        rw [bI_f h32, if_pos rfl]
        by_cases hk : kof wh T t = 13 ∨ kof wh T t = 14
        · have hk2 : 13 ≤ kof wh T t ∧ kof wh T t < 15 := by omega
          have hkw : isW T t (wdx (kof wh T t)) = true := by
            have h1 := kof_kq (wh := wh) (T := T) (t := t)
            by_cases z : kq T t < 15 ∧ okPart wh (kq T t) = true
            · rw [if_pos z] at h1; rw [h1]; exact kq_lt z.1
            · rw [if_neg z] at h1; omega
          have hlt := hL.ne hte (by rw [(isW_v hkw).1]; decide)
          have e60 : (60 : Int32) + nI (kof wh T t) - (13 : Int32) = nI (47 + kof wh T t) := by
            rw [show (60 : Int32) = nI 60 from rfl, show (13 : Int32) = nI 13 from rfl, nI_add, nsub (by omega), show 60 + kof wh T t - 13 = 47 + kof wh T t by omega]
          rw [if_pos hk2, if_neg (by show ¬ nI (kof wh T t) = mI; rw [cneg (by omega)]; exact id), gi94 hB4.1, Option.bind_some, m6.2, e60]
          obtain ⟨N5, k1, k2, k3⟩ := q_opens (z := nI (47 + kof wh T t)) (p := nI (sa t)) (v := 47 + kof wh T t) hB4 m6.1 (hQ.l g4) (by omega) i4 rfl
          rw [k1, Option.bind_some]
          have g5 := (up_l g4).tr k2
          have hB5 := hB.rq g5
          unfold f_X12_qPartTold_B183
          rcases k3 with ⟨o6, k3, k4⟩ | ⟨o6, k3, k4⟩
          · obtain ⟨N6, c1, c2, c3⟩ := r_asksWord hL hB5 k3 hk2.2
            rw [c1, Option.bind_some]
            refine ⟨N6, g5.tr (up_l c2), Or.inr (Or.inl ⟨(4, T 4 t), ?_, rfl, by rw [hL.t4 hte]; exact c3, (BS.q (hQ.l g4) (by omega)).eq (by rw [c2.i rfl, k4])⟩)⟩
            unfold stp; dsimp only
            rw [if_pos rfl, if_neg h40, if_neg (fun z => z hmm), if_pos hk, if_pos o6]; rfl
          · obtain ⟨N6, c1, c2, c3⟩ := r_asksWord hL hB5 (m6.1.q k3) hk2.2
            have e3 : ndW T (nI (wdx (kof wh T t))) (.inr t) = .inr (t + 1) := by
              show (if T 3 t = 1 ∧ T 6 t = nI (wdx (kof wh T t)) then _ else _) = _
              rw [if_pos (isW_v hkw)]
            rw [e3] at c3
            rw [c1, Option.bind_some]
            refine ⟨N6, g5.tr (up_l c2), Or.inl ⟨(0, t + 1, (47 + kof wh T t) :: S, R, o + 1), ?_, rfl, rfl, ⟨c3, k4.l c2⟩, hI.push (by omega) o6 (Nat.le_refl _)⟩⟩
            unfold stp; dsimp only
            rw [if_pos rfl, if_neg h40, if_neg (fun z => z hmm), if_pos hk, if_neg o6]
        · rw [if_neg (show ¬ (13 ≤ kof wh T t ∧ kof wh T t < 15) by omega), if_pos rfl]
          unfold f_X12_qPartTold_B183
          exact ⟨N4, up_l g4, Or.inr (Or.inr ⟨rfl, m6.1, hQ.l g4, h40, fun z => z hmm, hk⟩)⟩
end RPT
