section CV3
variable {T : Tk} {e p wh : Nat} {M : sMem} {F : Nat → Nat → Nat → Int64 → Int32 → Int32 → sMem → Option sMem} {d : Nat}
theorem pPart_eq {t : Nat} : pPart wh T d t = if isS T t 40 = true then (if d = 0 then .inl (4, T 4 t) else rbd (pSum wh T (d - 1) (t + 1)) fun cs t1 => askS T 41 t1 (.inr (cs, t1 + 1)))
    else if mmC T t ≠ 0 then askS T 40 (t + 1) (if d = 0 then .inl (4, T 4 (t + 1)) else rbd (pSum wh T (d - 1) (t + 2)) fun cs t1 => askS T 44 t1 (rbd (pSum wh T (d - 1) (t1 + 1)) fun c2 t2 => askS T 41 t2 (.inr (cs ++ c2 ++ [mmC T t], t2 + 1))))
    else if kof wh T t = 13 ∨ kof wh T t = 14 then (if d = 0 then .inl (4, T 4 t) else rbd (pPart wh T (d - 1) (t + 1)) fun cs t1 => .inr (cs ++ [47 + kof wh T t], t1))
    else leaf wh T t := by
  cases d with
  | zero => rfl
  | succ d => rfl
theorem pFact_eq {t : Nat} : pFact wh T d t = if isW T t 29 = true then (if d = 0 then .inl (4, T 4 t) else rbd (pFact wh T (d - 1) (t + 1)) fun cs t1 => .inr (cs ++ [12], t1))
    else if isS T t 91 = true then (if d = 0 then .inl (4, T 4 t) else rbd (pTest wh T (d - 1) (t + 1)) fun cs t1 => askS T 93 t1 (.inr (cs, t1 + 1)))
    else if isW T t 30 = true then .inr ([13], t + 1) else cmpOf T (pSum wh T d) t := by
  cases d with
  | zero => rfl
  | succ d => rfl
theorem wdx_ne : ∀ k, k < 15 → wdx k ≠ 31 ∧ wdx k ≠ 32 ∧ (wdx k = 25 ↔ k = 13) ∧ (wdx k = 26 ↔ k = 14) := by decide
theorem cx_part (hE : Ends T e) (hR : LexR T e) (hp : p ∈ prgL) (hwh : wh < 4) (hd : d ≤ 6) (hS : d ≠ 0 → CPR T e p (fun M => F 3 7 p (pmk wh) (nI (6 - d) + 1) 0 M) (pSum wh T (d - 1))) (hP : d ≠ 0 → CPR T e p (fun M => F 5 7 p (pmk wh) (nI (6 - d) + 1) 0 M) (pPart wh T (d - 1)))
    (h6 : ∀ (M : sMem) (v : Int32) (c : Nat), v = trn c → TG T e M → PA M → ∀ t, CS e M (.inr (t + 1)) → ∃ N, F 6 7 p (pmk wh) (nI (6 - d)) v M = some N ∧ FP p M N ∧ PA N ∧ RP e p M N [] t (askS T 40 (t + 1) (if d = 0 then .inl (4, T 4 (t + 1)) else rbd (pSum wh T (d - 1) (t + 2)) fun cs t1 => askS T 44 t1 (rbd (pSum wh T (d - 1) (t1 + 1)) fun c2 t2 => askS T 41 t2 (.inr (cs ++ c2 ++ [c], t2 + 1)))))) :
    CPR T e p (fun M => f_X5_readPart F 7 p (pmk wh) (nI (6 - d)) M) (pPart wh T d) := by
  intro M hT hA
  have B108 : ∀ (s : Cs) (a : Int32), CS e M s → ∃ N, f_X5_readPart_B108 F 7 p (pmk wh) (nI (6 - d)) a (-1) M = some N ∧ Fr tpX q0 M N ∧ CS e N (cbd s fun _ => .inl (1, a)) := by
    intro s a hs
    obtain ⟨N, f1, f2, f3⟩ := c_fail hT hs 1 a (by decide)
    refine ⟨N, ?_, f2, f3⟩
    unfold f_X5_readPart_B108 f_X5_readPart_B109
    rw [if_pos rfl, if_neg (by decide), if_neg (by decide), gr7_0 hT.1, Option.bind_some, f1]; rfl
  refine ⟨fun q hq => ?_, fun t ht => ?_⟩
  · show ∃ N, f_X5_readPart F 7 p (pmk wh) (nI (6 - d)) M = some N ∧ _
    unfold f_X5_readPart
    have e0 : T 3 e = 0 := hE.1
    have w1 : (if T 3 (ps e (.inl q)) = 1 then T 6 (ps e (.inl q)) else -1) = (-1 : Int32) := if_neg (by show ¬ T 3 e = 1; rw [e0]; decide)
    rw [sr7 hT.1, gr7_0 hT.1, Option.bind_some, c_isAtN hT hq, Option.bind_some, bI_f (by show ¬ T 3 e = 2; rw [e0]; decide), if_pos rfl, Option.bind_some, c_place hT hq, Option.bind_some, Option.bind_some, c_sgn_n (z := 40) (c := 40) hT hq (no_e hT) rfl]
    dsimp only [Option.bind_some]
    rw [if_pos rfl, gr7_0 hT.1, Option.bind_some, c_word hT hq, w1, Option.bind_some, if_pos rfl]
    obtain ⟨N, f1, f2, f3⟩ := B108 (.inl q) (T 4 (ps e (.inl q))) hq
    rw [f1]
    exact ⟨N, rfl, Fr.fp f2, hA.tp f2, f3⟩
  · show ∃ N, f_X5_readPart F 7 p (pmk wh) (nI (6 - d)) M = some N ∧ _
    have hte := ht.2.1
    have pst : ps e (.inr t) = t := rfl
    rw [pPart_eq]
    unfold f_X5_readPart
    rw [sr7 hT.1, gr7_0 hT.1, Option.bind_some, c_isAtN hT ht, Option.bind_some, pst]
    by_cases k2 : T 3 t = 2
    · rw [bI_t k2, if_neg (by decide)]
      obtain ⟨v, N1, N, a1, a2, a3, a4, a5⟩ := cx_leafN (wh := wh) hp hR hT hA ht k2
      have n1 : ¬ isS T t 40 = true := fun z => by have := (isS_v z).1; rw [k2] at this; exact absurd this (by decide)
      have n2 : ∀ w, ¬ isW T t w = true := fun w z => by have := (isW_v z).1; rw [k2] at this; exact absurd this (by decide)
      have n3 : mmC T t = 0 := by unfold mmC; rw [if_neg (n2 31), if_neg (n2 32)]
      have n4 : kof wh T t = 15 := kof_m (Or.inl (by rw [k2]; decide))
      rw [Option.bind_some, a1]
      dsimp only [Option.bind_some]
      rw [a2, Option.bind_some, if_neg n1, if_neg (fun z => z n3), if_neg (by rw [n4]; decide)]
      exact ⟨N, rfl, a3, a4, a5⟩
    · rw [bI_f k2, if_pos rfl, Option.bind_some, c_place hT ht, Option.bind_some, Option.bind_some, pst]
      by_cases h40 : isS T t 40 = true
      · obtain ⟨N1, a1, a2, a3⟩ := c_sgn_y (z := 40) hT ht h40 rfl
        have hT1 := hT.fr a2
        have hA1 := hA.tp a2
        rw [a1]
        dsimp only [Option.bind_some]
        rw [if_neg (by decide), if_pos h40]
        obtain ⟨O, b1, b2, b3⟩ := c_may (s := .inr (t + 1)) hT1 a3 hd (T 4 t)
        rw [b1]
        dsimp only [Option.bind_some]
        by_cases hd0 : d = 0
        · have e2 : opS d (T 4 t) (.inr (t + 1)) = .inl (4, T 4 t) := by
            show (if d = 0 then _ else _) = _
            rw [if_pos hd0]
          rw [e2] at b3 ⊢
          rw [oks_l, if_pos rfl, if_pos hd0]
          exact ⟨O, rfl, Fr.fp (a2.tr b2), hA1.tp b2, b3⟩
        · have e2 : opS d (T 4 t) (.inr (t + 1)) = .inr (t + 1) := by
            show (if d = 0 then _ else _) = _
            rw [if_neg hd0]
          rw [e2] at b3 ⊢
          rw [oks_r, if_neg (by decide), if_neg hd0]
          obtain ⟨P, P1, c1, c2, c3, c4, c5, c6⟩ := (cx_inS (c := 41) (z := 41) hp (hS hd0) (hT1.fr b2) (hA1.tp b2) rfl).2 (t + 1) b3
          try dsimp only at c1
          rw [c1, Option.bind_some, gr7_0 c3.1, Option.bind_some, c2, Option.bind_some]
          refine ⟨P, rfl, (Fr.fp (a2.tr b2)).tr c4, c5, ?_⟩
          have c7 := rp_tp hA hp (a2.tr b2) c6
          generalize (rbd (pSum wh T (d - 1) (t + 1)) fun cs t1 => askS T 41 t1 (.inr (cs, t1 + 1))) = R at c7 ⊢
          match R, c7 with
          | .inl q, c7 => exact c7
          | .inr r, c7 => exact ⟨c7.1, fun cs0 k1 k2 => c7.2 cs0 k1 (by omega)⟩
      · rw [c_sgn_n (z := 40) hT ht h40 rfl]
        dsimp only [Option.bind_some]
        rw [if_pos rfl, gr7_0 hT.1, Option.bind_some, c_word hT ht, Option.bind_some, if_neg h40, pst]
        by_cases k1 : T 3 t = 1
        · rw [if_pos k1]
          rcases hR.1 t hte k1 with hm | ⟨j, hj, hm⟩
          · -- an unknown word
            have n2 : ∀ w, w < 100 → ¬ isW T t w = true := fun w hw z => by
              have := (isW_v z).2; rw [hm] at this; rw [cneg' (by omega)] at this; exact this
            have n3 : mmC T t = 0 := by unfold mmC; rw [if_neg (n2 31 (by decide)), if_neg (n2 32 (by decide))]
            have n4 : kof wh T t = 15 := kof_m (Or.inr hm)
            obtain ⟨N, f1, f2, f3⟩ := B108 (.inr t) (T 4 t) ht
            rw [hm, if_pos mIe]
            show ∃ N, f_X5_readPart_B108 F 7 p (pmk wh) (nI (6 - d)) (T 4 t) (-1) M = some N ∧ _
            rw [f1, if_neg (fun z => z n3), if_neg (by rw [n4]; decide)]
            refine ⟨N, rfl, Fr.fp f2, hA.tp f2, ?_⟩
            unfold leaf
            rw [if_neg k2, n4, if_neg (by decide)]
            exact f3
          · obtain ⟨m1, m2, m3⟩ := mask_k wh hwh j hj
            have ek : kof wh T t = kofN wh j := kof_n k1 hm
            rw [hm, if_neg (by show ¬ nI j = mI; rw [cneg (by omega)]; exact id), ek]
            obtain ⟨N1, a1, a2, a3⟩ := c_needW hT ht (nI j)
            have e3 : ndW T (nI j) (.inr t) = .inr (t + 1) := by
              show (if T 3 t = 1 ∧ T 6 t = nI j then _ else _) = _
              rw [if_pos ⟨k1, hm⟩]
            rw [e3] at a3
            have hT1 := hT.fr a2
            have hA1 := hA.tp a2
            unfold f_X5_readPart_B93
            by_cases hk : kofN wh j < 15
            · have w := wdx_ne _ hk
              rw [m2 hk] at w
              have n3 : mmC T t = 0 := by
                unfold mmC
                rw [if_neg (fun z => by have := (isW_v z).2; rw [hm, nI_eq (by omega) (by omega)] at this; omega), if_neg (fun z => by have := (isW_v z).2; rw [hm, nI_eq (by omega) (by omega)] at this; omega)]
              rw [if_pos (m1.mpr hk), if_neg (fun z => z n3)]
              unfold f_X5_readPart_B109
              rw [if_neg (by decide)]
              unfold f_X5_readPart_B141
              rw [gr7_0 hT.1, Option.bind_some]
              by_cases h13 : kofN wh j = 13 ∨ kofN wh j = 14
              · rw [if_pos h13, a1, Option.bind_some, if_neg (by decide)]
                have B207 : ∃ N, f_X5_readPart_B207 F 7 p (pmk wh) (nI (6 - d)) (T 4 t) (nI j) N1 = some N ∧ FP p M N ∧ PA N ∧ RP e p M N [] t (if d = 0 then .inl (4, T 4 t) else rbd (pPart wh T (d - 1) (t + 1)) fun cs t1 => .inr (cs ++ [47 + kofN wh j], t1)) := by
                  unfold f_X5_readPart_B207
                  obtain ⟨O, b1, b2, b3⟩ := c_may (s := .inr (t + 1)) hT1 a3 hd (T 4 t)
                  rw [b1]
                  dsimp only [Option.bind_some]
                  by_cases hd0 : d = 0
                  · have e2 : opS d (T 4 t) (.inr (t + 1)) = .inl (4, T 4 t) := by
                      show (if d = 0 then _ else _) = _
                      rw [if_pos hd0]
                    rw [e2] at b3 ⊢
                    rw [oks_l, if_pos rfl, if_pos hd0]
                    exact ⟨O, rfl, Fr.fp (a2.tr b2), hA1.tp b2, b3⟩
                  · have e2 : opS d (T 4 t) (.inr (t + 1)) = .inr (t + 1) := by
                      show (if d = 0 then _ else _) = _
                      rw [if_neg hd0]
                    rw [e2] at b3 ⊢
                    rw [oks_r, if_neg (by decide), if_neg hd0]
                    have hv : (if nI j = (25 : Int32) then (-13 : Int32) else -14) = trn (47 + kofN wh j) := by
                      rcases h13 with z | z
                      · rw [if_pos (by rw [w.2.2.1.mpr z]; rfl), z]; rfl
                      · rw [if_neg (by rw [w.2.2.2.mpr z]; decide), z]; rfl
                    obtain ⟨Z, Z1, c1, c2, c3, c4, c5⟩ := (cx_add hp (hP hd0) (part_adv hE _) (hT1.fr b2) (hA1.tp b2) hv).2 t b3
                    try dsimp only at c1
                    rw [c1, Option.bind_some]
                    refine ⟨Z, ?_, (Fr.fp (a2.tr b2)).tr c3, c4, rp_tp hA hp (a2.tr b2) c5⟩
                    by_cases h25 : nI j = (25 : Int32)
                    · rw [if_pos h25] at c2 ⊢
                      unfold f_X5_readPart_B243
                      rw [c2]; rfl
                    · rw [if_neg h25] at c2 ⊢
                      unfold f_X5_readPart_B243
                      rw [c2]; rfl
                rcases h13 with z | z
                · rw [if_pos (by rw [w.2.2.1.mpr z]; rfl)]; exact B207
                · rw [if_neg (by rw [w.2.2.2.mpr z]; decide), if_pos (by rw [w.2.2.2.mpr z]; rfl)]; exact B207
              · rw [if_neg h13]
                have n25 : ¬ nI j = (25 : Int32) := by rw [show (25 : Int32) = nI 25 from rfl, nI_eq (by omega) (by omega)]; omega
                have n26 : ¬ nI j = (26 : Int32) := by rw [show (26 : Int32) = nI 26 from rfl, nI_eq (by omega) (by omega)]; omega
                obtain ⟨N1', N, b1, b2, b3, b4, b5⟩ := cx_leafW hp hT hA hwh ht k1 hm hj (by omega)
                rw [b1, Option.bind_some, if_neg (by decide), if_neg n25, if_neg n26, b2]
                exact ⟨N, rfl, b3, b4, b5⟩
            · rw [if_neg (fun z => hk (m1.mp z))]
              unfold f_X5_readPart_B108 f_X5_readPart_B109
              rw [if_pos rfl]
              by_cases h31 : j = 31
              · have hw : isW T t 31 = true := decide_eq_true ⟨k1, by rw [hm, h31]⟩
                have em : mmC T t = 5 := by unfold mmC; rw [if_pos hw]
                rw [if_pos (by rw [h31]; rfl)]
                unfold f_X5_readPart_B141
                rw [gr7_0 hT.1, Option.bind_some, a1, Option.bind_some, if_pos rfl, if_pos (by rw [h31]; rfl)]
                unfold f_X5_readPart_B174
                obtain ⟨N, b1, b2, b3, b4⟩ := h6 N1 (-10) 5 rfl hT1 hA1 t a3
                rw [b1, if_pos (by rw [em]; decide), em]
                exact ⟨N, rfl, fb_tp a2 b2, b3, rp_tp hA hp a2 b4⟩
              · rw [if_neg (by rw [show (31 : Int32) = nI 31 from rfl, nI_eq (by omega) (by omega)]; exact h31)]
                have n31 : ¬ isW T t 31 = true := fun z => h31 (by have := (isW_v z).2; rw [hm, nI_eq (by omega) (by omega)] at this; exact this)
                by_cases h32 : j = 32
                · have hw : isW T t 32 = true := decide_eq_true ⟨k1, by rw [hm, h32]⟩
                  have em : mmC T t = 6 := by unfold mmC; rw [if_neg n31, if_pos hw]
                  rw [if_pos (by rw [h32]; rfl)]
                  unfold f_X5_readPart_B141
                  rw [gr7_0 hT.1, Option.bind_some, a1, Option.bind_some, if_pos rfl, if_neg (by rw [h32]; decide)]
                  unfold f_X5_readPart_B174
                  obtain ⟨N, b1, b2, b3, b4⟩ := h6 N1 (-11) 6 rfl hT1 hA1 t a3
                  rw [b1, if_pos (by rw [em]; decide), em]
                  exact ⟨N, rfl, fb_tp a2 b2, b3, rp_tp hA hp a2 b4⟩
                · have n32 : ¬ isW T t 32 = true := fun z => h32 (by have := (isW_v z).2; rw [hm, nI_eq (by omega) (by omega)] at this; exact this)
                  have em : mmC T t = 0 := by unfold mmC; rw [if_neg n31, if_neg n32]
                  rw [if_neg (by rw [show (32 : Int32) = nI 32 from rfl, nI_eq (by omega) (by omega)]; exact h32), gr7_0 hT.1, Option.bind_some, if_neg (fun z => z em), if_neg (by omega)]
                  obtain ⟨N, f1, f2, f3⟩ := c_fail hT ht 1 (T 4 t) (by decide)
                  rw [f1]
                  refine ⟨N, rfl, Fr.fp f2, hA.tp f2, ?_⟩
                  unfold leaf
                  rw [if_neg k2, ek, if_neg (by omega)]
                  exact f3
        · rw [if_neg k1]
          have n2 : ∀ w, ¬ isW T t w = true := fun w z => k1 (isW_v z).1
          have n3 : mmC T t = 0 := by unfold mmC; rw [if_neg (n2 31), if_neg (n2 32)]
          have n4 : kof wh T t = 15 := kof_m (Or.inl k1)
          obtain ⟨N, f1, f2, f3⟩ := B108 (.inr t) (T 4 t) ht
          rw [if_pos rfl, f1, if_neg (fun z => z n3), if_neg (by rw [n4]; decide)]
          refine ⟨N, rfl, Fr.fp f2, hA.tp f2, ?_⟩
          unfold leaf
          rw [if_neg k2, n4, if_neg (by decide)]
          exact f3
end CV3
