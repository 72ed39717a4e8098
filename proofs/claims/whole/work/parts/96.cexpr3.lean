section CZ
variable {T : Tk} {e p : Nat} {g : Nat → Rs} {M : sMem} {F : Nat → Nat → Nat → Int64 → Int32 → Int32 → sMem → Option sMem} {pm : Int64} {o : Int32}
theorem cx_sum (hE : Ends T e) (hp : p ∈ prgL) (hf : CPR T e p (fun M => F 4 7 p pm o 0 M) g) (hg : Adv e g) : CPR T e p (fun M => f_X5_readSum F 7 p pm o M) (fun t => rbd (g t) fun cs t1 => lp g (sepA T) 2000 cs t1) := by
  have hse : ∀ t, sepA T t ≠ 0 → t ≠ e := fun t z => (sep_s t).2.1 z hE
  have hz : ∀ t, sepA T t = 0 ↔ ¬ isS T t 43 = true ∧ ¬ isS T t 45 = true := fun t => by
    unfold sepA
    by_cases w : isS T t 43 = true
    · simp [w]
    · by_cases w2 : isS T t 45 = true <;> simp [w, w2]
  have main := cx_seq (L := fun M => f_X5_readSum_L14 F 7 p pm o 1 0 M) (sep := sepA T) hp hf hg (fun M hT hA => by
    have := cl_2 (B := fun a : (Int32 × Int32 × sMem) => f_X5_readSum_K14 F 7 p pm o a.1 a.2.1 a.2.2) hE hp hg hse (fun b k N h1 h2 => by
        show f_X5_readSum_K14 F 7 p pm o b (nI k) N = _
        unfold f_X5_readSum_K14
        rw [if_pos (by rw [nl 1600, cle (by omega) (by omega)]; exact h1)])
      (fun k N h1 => by
        show f_X5_readSum_K14 F 7 p pm o 0 (nI k) N = _
        unfold f_X5_readSum_K14
        rw [if_neg (by rw [nl 1600, cle (by omega) (by omega)]; omega), if_pos rfl])
      (fun k N s h1 hT hA hs h2 => by
        show f_X5_readSum_K14 F 7 p pm o 1 (nI k) N = _
        have n1 : ¬ isS T (ps e s) 43 = true ∧ ¬ isS T (ps e s) 45 = true := by
          match s, h2 with
          | .inl q, _ => exact ⟨no_e hT, no_e hT⟩
          | .inr t, h2 => exact (hz t).mp (h2 t rfl)
        unfold f_X5_readSum_K14
        rw [if_neg (by rw [nl 1600, cle (by omega) (by omega)]; omega), if_neg (by decide), gr7_0 hT.1, Option.bind_some, c_sgn_n (z := 43) hT hs n1.1 rfl]
        dsimp only [Option.bind_some]
        rw [if_pos rfl, gr7_0 hT.1, Option.bind_some, c_sgn_n (z := 45) hT hs n1.2 rfl]
        dsimp only [Option.bind_some]
        rw [if_pos rfl]
        unfold f_X5_readSum_B62 f_X5_readSum_B74 f_X5_readSum_B95
        rw [if_pos rfl, if_pos rfl, nI_1])
      (fun k N t h1 hT hA hs h2 => by
        show ∃ O, f_X5_readSum_K14 F 7 p pm o 1 (nI k) N = _ ∧ _
        have B74 : ∀ (N1 O N2 : sMem) (v : Int32), F 4 7 p pm o 0 N1 = some N2 → f_X6_add p v N2 = some O → ¬ v = 0 → f_X5_readSum_B62 F 7 p pm o (nI k) v N1 = some (.inl (1, nI (k + 1), O)) := by
          intro N1 O N2 v b0 b1 hv
          unfold f_X5_readSum_B62 f_X5_readSum_B74 f_X5_readSum_B95
          rw [if_neg hv, if_neg (by decide), b0, Option.bind_some, b1, Option.bind_some, nI_1]
        by_cases w1 : isS T t 43 = true
        · have e11 : sepA T t = 1 := by unfold sepA; rw [if_pos w1]
          obtain ⟨N1, a1, a2, a3⟩ := c_sgn_y hT hs w1 rfl
          obtain ⟨O, N2, b0, b1, b2, b3, b4⟩ := (cx_add hp hf hg (hT.fr a2) (hA.tp a2) (v := (-6)) (c := 1) rfl).2 t a3
          refine ⟨O, ?_, fb_tp a2 b2, b3, by rw [e11]; exact rp_tp hA hp a2 b4⟩
          unfold f_X5_readSum_K14
          rw [if_neg (by rw [nl 1600, cle (by omega) (by omega)]; omega), if_neg (by decide), gr7_0 hT.1, Option.bind_some, show (43 : Int32) = nI 43 from rfl, a1]
          dsimp only [Option.bind_some]
          rw [if_neg (by decide)]
          exact B74 N1 O N2 (-6) b0 b1 (by decide)
        · have w2 : isS T t 45 = true := by
            by_cases w : isS T t 45 = true
            · exact w
            · exact absurd ((hz t).mpr ⟨w1, w⟩) h2
          have e11 : sepA T t = 2 := by unfold sepA; rw [if_neg w1, if_pos w2]
          obtain ⟨N1, a1, a2, a3⟩ := c_sgn_y hT hs w2 rfl
          obtain ⟨O, N2, b0, b1, b2, b3, b4⟩ := (cx_add hp hf hg (hT.fr a2) (hA.tp a2) (v := (-7)) (c := 2) rfl).2 t a3
          refine ⟨O, ?_, fb_tp a2 b2, b3, by rw [e11]; exact rp_tp hA hp a2 b4⟩
          unfold f_X5_readSum_K14
          rw [if_neg (by rw [nl 1600, cle (by omega) (by omega)]; omega), if_neg (by decide), gr7_0 hT.1, Option.bind_some, c_sgn_n (z := 43) hT hs w1 rfl]
          dsimp only [Option.bind_some]
          rw [if_pos rfl, gr7_0 hT.1, Option.bind_some, show (45 : Int32) = nI 45 from rfl, a1]
          dsimp only [Option.bind_some]
          rw [if_neg (by decide)]
          exact B74 N1 O N2 (-7) b0 b1 (by decide))
      hT hA
    have eL : f_X5_readSum_L14 F 7 p pm o 1 0 M = sItr (fun a : (Int32 × Int32 × sMem) => f_X5_readSum_K14 F 7 p pm o a.1 a.2.1 a.2.2) sFuel (1, nI 0, M) := by
      unfold f_X5_readSum_L14
      show (sItr _ sFuel (1, nI 0, M)).bind _ = _
      cases sItr (fun a : (Int32 × Int32 × sMem) => f_X5_readSum_K14 F 7 p pm o a.1 a.2.1 a.2.2) sFuel (1, nI 0, M) <;> rfl
    try dsimp only
    rw [eL]
    exact this)
  intro M hT hA
  have := main M hT hA
  have er : f_X5_readSum F 7 p pm o M = (F 4 7 p pm o 0 M).bind fun M6 => f_X5_readSum_L14 F 7 p pm o 1 0 M6 := by
    unfold f_X5_readSum; rw [sr7 hT.1]
  dsimp only at this ⊢
  rw [er]; exact this
theorem cx_prod (hE : Ends T e) (hp : p ∈ prgL) (hf : CPR T e p (fun M => F 5 7 p pm o 0 M) g) (hg : Adv e g) : CPR T e p (fun M => f_X5_readProduct F 7 p pm o M) (fun t => rbd (g t) fun cs t1 => lp g (sepM T) 2000 cs t1) := by
  have hse : ∀ t, sepM T t ≠ 0 → t ≠ e := fun t z => (sep_s t).1 z hE
  have hz : ∀ t, sepM T t = 0 ↔ ¬ isS T t 42 = true ∧ ¬ isS T t 47 = true := fun t => by
    unfold sepM
    by_cases w : isS T t 42 = true
    · simp [w]
    · by_cases w2 : isS T t 47 = true <;> simp [w, w2]
  have main := cx_seq (L := fun M => f_X5_readProduct_L14 F 7 p pm o 1 0 M) (sep := sepM T) hp hf hg (fun M hT hA => by
    have := cl_2 (B := fun a : (Int32 × Int32 × sMem) => f_X5_readProduct_K14 F 7 p pm o a.1 a.2.1 a.2.2) hE hp hg hse (fun b k N h1 h2 => by
        show f_X5_readProduct_K14 F 7 p pm o b (nI k) N = _
        unfold f_X5_readProduct_K14
        rw [if_pos (by rw [nl 1600, cle (by omega) (by omega)]; exact h1)])
      (fun k N h1 => by
        show f_X5_readProduct_K14 F 7 p pm o 0 (nI k) N = _
        unfold f_X5_readProduct_K14
        rw [if_neg (by rw [nl 1600, cle (by omega) (by omega)]; omega), if_pos rfl])
      (fun k N s h1 hT hA hs h2 => by
        show f_X5_readProduct_K14 F 7 p pm o 1 (nI k) N = _
        have n1 : ¬ isS T (ps e s) 42 = true ∧ ¬ isS T (ps e s) 47 = true := by
          match s, h2 with
          | .inl q, _ => exact ⟨no_e hT, no_e hT⟩
          | .inr t, h2 => exact (hz t).mp (h2 t rfl)
        unfold f_X5_readProduct_K14
        rw [if_neg (by rw [nl 1600, cle (by omega) (by omega)]; omega), if_neg (by decide), gr7_0 hT.1, Option.bind_some, c_sgn_n (z := 42) hT hs n1.1 rfl]
        dsimp only [Option.bind_some]
        rw [if_pos rfl, gr7_0 hT.1, Option.bind_some, c_sgn_n (z := 47) hT hs n1.2 rfl]
        dsimp only [Option.bind_some]
        rw [if_pos rfl]
        unfold f_X5_readProduct_B62 f_X5_readProduct_B74 f_X5_readProduct_B95
        rw [if_pos rfl, if_pos rfl, nI_1])
      (fun k N t h1 hT hA hs h2 => by
        show ∃ O, f_X5_readProduct_K14 F 7 p pm o 1 (nI k) N = _ ∧ _
        have B74 : ∀ (N1 O N2 : sMem) (v : Int32), F 5 7 p pm o 0 N1 = some N2 → f_X6_add p v N2 = some O → ¬ v = 0 → f_X5_readProduct_B62 F 7 p pm o (nI k) v N1 = some (.inl (1, nI (k + 1), O)) := by
          intro N1 O N2 v b0 b1 hv
          unfold f_X5_readProduct_B62 f_X5_readProduct_B74 f_X5_readProduct_B95
          rw [if_neg hv, if_neg (by decide), b0, Option.bind_some, b1, Option.bind_some, nI_1]
        by_cases w1 : isS T t 42 = true
        · have e11 : sepM T t = 3 := by unfold sepM; rw [if_pos w1]
          obtain ⟨N1, a1, a2, a3⟩ := c_sgn_y hT hs w1 rfl
          obtain ⟨O, N2, b0, b1, b2, b3, b4⟩ := (cx_add hp hf hg (hT.fr a2) (hA.tp a2) (v := (-8)) (c := 3) rfl).2 t a3
          refine ⟨O, ?_, fb_tp a2 b2, b3, by rw [e11]; exact rp_tp hA hp a2 b4⟩
          unfold f_X5_readProduct_K14
          rw [if_neg (by rw [nl 1600, cle (by omega) (by omega)]; omega), if_neg (by decide), gr7_0 hT.1, Option.bind_some, show (42 : Int32) = nI 42 from rfl, a1]
          dsimp only [Option.bind_some]
          rw [if_neg (by decide)]
          exact B74 N1 O N2 (-8) b0 b1 (by decide)
        · have w2 : isS T t 47 = true := by
            by_cases w : isS T t 47 = true
            · exact w
            · exact absurd ((hz t).mpr ⟨w1, w⟩) h2
          have e11 : sepM T t = 4 := by unfold sepM; rw [if_neg w1, if_pos w2]
          obtain ⟨N1, a1, a2, a3⟩ := c_sgn_y hT hs w2 rfl
          obtain ⟨O, N2, b0, b1, b2, b3, b4⟩ := (cx_add hp hf hg (hT.fr a2) (hA.tp a2) (v := (-9)) (c := 4) rfl).2 t a3
          refine ⟨O, ?_, fb_tp a2 b2, b3, by rw [e11]; exact rp_tp hA hp a2 b4⟩
          unfold f_X5_readProduct_K14
          rw [if_neg (by rw [nl 1600, cle (by omega) (by omega)]; omega), if_neg (by decide), gr7_0 hT.1, Option.bind_some, c_sgn_n (z := 42) hT hs w1 rfl]
          dsimp only [Option.bind_some]
          rw [if_pos rfl, gr7_0 hT.1, Option.bind_some, show (47 : Int32) = nI 47 from rfl, a1]
          dsimp only [Option.bind_some]
          rw [if_neg (by decide)]
          exact B74 N1 O N2 (-9) b0 b1 (by decide))
      hT hA
    have eL : f_X5_readProduct_L14 F 7 p pm o 1 0 M = sItr (fun a : (Int32 × Int32 × sMem) => f_X5_readProduct_K14 F 7 p pm o a.1 a.2.1 a.2.2) sFuel (1, nI 0, M) := by
      unfold f_X5_readProduct_L14
      show (sItr _ sFuel (1, nI 0, M)).bind _ = _
      cases sItr (fun a : (Int32 × Int32 × sMem) => f_X5_readProduct_K14 F 7 p pm o a.1 a.2.1 a.2.2) sFuel (1, nI 0, M) <;> rfl
    try dsimp only
    rw [eL]
    exact this)
  intro M hT hA
  have := main M hT hA
  have er : f_X5_readProduct F 7 p pm o M = (F 5 7 p pm o 0 M).bind fun M6 => f_X5_readProduct_L14 F 7 p pm o 1 0 M6 := by
    unfold f_X5_readProduct; rw [sr7 hT.1]
  dsimp only at this ⊢
  rw [er]; exact this
end CZ
