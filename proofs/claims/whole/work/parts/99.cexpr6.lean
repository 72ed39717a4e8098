section CU
variable {T : Tk} {e p wh : Nat} {M : sMem} {F : Nat → Nat → Nat → Int64 → Int32 → Int32 → sMem → Option sMem} {d : Nat} {s : Cs}
theorem c_rsign (hT : TG T e M) (h : CS e M s) : ∃ v N, f_X5_readSign 7 M = some (v, N) ∧ Fr tpX q0 M N ∧ CV2 e N s (fun t => if sepC T t = 0 then .inl (1, T 4 t) else .inr (trn (sepC T t), t + 1)) v := by
  unfold f_X5_readSign
  rw [sr7 hT.1, gr7_0 hT.1, Option.bind_some]
  match s, h with
  | .inl q, h =>
    obtain ⟨N, a1, a2, a3⟩ := c_needS (s := .inl q) (c := 61) (z := 61) hT h rfl
    rw [c_sgn_n (z := 60) (c := 60) hT h (no_e hT) rfl]
    dsimp only [Option.bind_some]
    rw [if_pos rfl, gr7_0 hT.1, Option.bind_some, c_sgn_n (z := 62) (c := 62) hT h (no_e hT) rfl]
    dsimp only [Option.bind_some]
    rw [if_pos rfl, gr7_0 hT.1, Option.bind_some, a1]
    exact ⟨_, N, rfl, a2, a3⟩
  | .inr t, h =>
    by_cases h60 : isS T t 60 = true
    · obtain ⟨N, a1, a2, a3⟩ := c_sgn_y (z := 60) hT h h60 rfl
      rw [a1]
      dsimp only [Option.bind_some]
      rw [if_neg (by decide)]
      have e1 : sepC T t = 7 := by unfold sepC; rw [if_pos h60]
      exact ⟨_, N, rfl, a2, CV2_r (by rw [e1, if_neg (by decide)]; rfl) a3⟩
    · rw [c_sgn_n (z := 60) (c := 60) hT h h60 rfl]
      dsimp only [Option.bind_some]
      rw [if_pos rfl, gr7_0 hT.1, Option.bind_some]
      by_cases h62 : isS T t 62 = true
      · obtain ⟨N, a1, a2, a3⟩ := c_sgn_y (z := 62) hT h h62 rfl
        rw [a1]
        dsimp only [Option.bind_some]
        rw [if_neg (by decide)]
        have e1 : sepC T t = 8 := by unfold sepC; rw [if_neg h60, if_pos h62]
        exact ⟨_, N, rfl, a2, CV2_r (by rw [e1, if_neg (by decide)]; rfl) a3⟩
      · obtain ⟨N, a1, a2, a3⟩ := c_needS (s := .inr t) (c := 61) (z := 61) hT h rfl
        rw [c_sgn_n (z := 62) (c := 62) hT h h62 rfl]
        dsimp only [Option.bind_some]
        rw [if_pos rfl, gr7_0 hT.1, Option.bind_some, a1]
        refine ⟨_, N, rfl, a2, ?_⟩
        have e0 : ndS T 61 (.inr t) = if isS T t 61 = true then .inr (t + 1) else .inl (1, T 4 t) := rfl
        rw [e0] at a3
        by_cases h61 : isS T t 61 = true
        · have e1 : sepC T t = 9 := by unfold sepC; rw [if_neg h60, if_neg h62, if_pos h61]
          rw [if_pos h61] at a3
          exact CV2_r (by rw [e1, if_neg (by decide)]; rfl) a3
        · have e1 : sepC T t = 0 := by unfold sepC; rw [if_neg h60, if_neg h62, if_neg h61]
          rw [if_neg h61] at a3
          exact CV2_l (by rw [e1, if_pos rfl]) a3
/-- two sums, a sign between -/
theorem cx_cmp {g : Nat → Rs} {f : sMem → Option sMem} (hp : p ∈ prgL) (hg : Adv e g) (hf : CPR T e p f g) : CPR T e p (fun M => (f M).bind fun M12 => (f_X5_readSign 7 M12).bind fun (x13, M14) => (f M14).bind fun M15 => (f_X6_add p x13 M15).bind fun M16 => some M16) (cmpOf T g) := by
  intro M hT hA
  -- from a fault on
  have bad : ∀ N, TG T e N → PA N → FP p M N → ∀ q, CS e N (.inl q) → ∃ O, ((f_X5_readSign 7 N).bind fun (x13, M14) => (f M14).bind fun M15 => (f_X6_add p x13 M15).bind fun M16 => some M16) = some O ∧ FP p M O ∧ PA O ∧ CS e O (.inl q) := by
    intro N hTN hAN hFN q hq
    obtain ⟨v, N1, a1, a2, a3⟩ := c_rsign (s := .inl q) hTN hq
    obtain ⟨N2, b1, b2, b3, b4⟩ := (hf N1 (hTN.fr a2) (hAN.tp a2)).1 q a3
    obtain ⟨O, d1, d2, d3, d4, d5⟩ := c_add b3 hp v
    rw [a1]
    dsimp only [Option.bind_some]
    rw [b1, Option.bind_some, d1]
    exact ⟨O, rfl, ((hFN.tr (Fr.fp a2)).tr b2).tr d2, d3, b4.eq d4⟩
  refine ⟨fun q hq => ?_, fun t ht => ?_⟩
  · obtain ⟨N, a1, a2, a3, a4⟩ := (hf M hT hA).1 q hq
    dsimp only
    rw [a1, Option.bind_some]
    exact bad N (hT.fp hA hp a2) a3 a2 q a4
  · obtain ⟨N, a1, a2, a3, a4⟩ := (hf M hT hA).2 t ht
    have hTN := hT.fp hA hp a2
    dsimp only
    rw [a1, Option.bind_some]
    unfold cmpOf
    match w : g t with
    | .inl q =>
      rw [w] at a4
      exact bad N hTN a3 a2 q a4
    | .inr (cs, t1) =>
      rw [w] at a4
      rw [rbd_r]
      obtain ⟨g1, g2, g3⟩ := hg t cs t1 ht.2.1 w
      obtain ⟨v, N1, b1, b2, b3⟩ := c_rsign (s := .inr t1) hTN a4.1
      unfold CV2 at b3
      dsimp only at b3
      have hT1 := hTN.fr b2
      have hA1 := a3.tp b2
      rw [b1]
      dsimp only [Option.bind_some]
      by_cases hz : sepC T t1 = 0
      · rw [if_pos hz] at b3 ⊢
        obtain ⟨N2, c1, c2, c3, c4⟩ := (hf N1 hT1 hA1).1 _ b3
        obtain ⟨O, d1, d2, d3, d4, d5⟩ := c_add c3 hp v
        rw [c1, Option.bind_some, d1]
        exact ⟨O, rfl, ((a2.tr (Fr.fp b2)).tr c2).tr d2, d3, c4.eq d4⟩
      · rw [if_neg hz] at b3 ⊢
        obtain ⟨O, N2, c1, c2, c3, c4, c5⟩ := (cx_add hp hf hg hT1 hA1 b3.1).2 t1 b3.2
        rw [c1, Option.bind_some, c2]
        refine ⟨O, rfl, (a2.tr (Fr.fp b2)).tr c3, c4, ?_⟩
        match w2 : g (t1 + 1) with
        | .inl q => rw [w2] at c5; exact c5
        | .inr (cs2, t2) =>
          rw [w2] at c5
          refine ⟨c5.1, fun cs0 k1 k2 => ?_⟩
          rw [List.append_nil] at k2
          have := c5.2 (cs0 ++ cs) (by rw [List.append_nil]; exact (a4.2 cs0 k1 (by rw [List.append_nil]; exact k2)).tp a3 hp b2) (by rw [List.append_nil, List.length_append]; omega)
          rw [show cs0 ++ (cs ++ cs2 ++ [sepC T t1]) = cs0 ++ cs ++ (cs2 ++ [sepC T t1]) by simp only [List.append_assoc]]
          exact this
theorem cx_fact (hE : Ends T e) (hp : p ∈ prgL) (hd : d ≤ 6) (hS : CPR T e p (fun M => F 3 7 p (pmk wh) (nI (6 - d)) 0 M) (pSum wh T d)) (hF : d ≠ 0 → CPR T e p (fun M => F 2 7 p (pmk wh) (nI (6 - d) + 1) 0 M) (pFact wh T (d - 1))) (hTt : d ≠ 0 → CPR T e p (fun M => F 0 7 p (pmk wh) (nI (6 - d) + 1) 0 M) (pTest wh T (d - 1))) :
    CPR T e p (fun M => f_X5_readFact F 7 p (pmk wh) (nI (6 - d)) M) (pFact wh T d) := by
  have hC := cx_cmp hp (psum_adv hE) hS
  intro M hT hA
  refine ⟨fun q hq => ?_, fun t ht => ?_⟩
  · obtain ⟨N, a1, a2, a3, a4⟩ := (hC M hT hA).1 q hq
    refine ⟨N, ?_, a2, a3, a4⟩
    dsimp only at a1 ⊢
    unfold f_X5_readFact
    have nw : ∀ z : Int32, ¬ (T 3 (ps e (.inl q)) = 1 ∧ T 6 (ps e (.inl q)) = z) := fun z w => absurd (hE.1.symm.trans w.1) (by decide)
    rw [sr7 hT.1, gr7_0 hT.1, Option.bind_some, c_place hT hq, Option.bind_some, Option.bind_some, c_wrd_n hT hq (nw _)]
    dsimp only [Option.bind_some]
    rw [if_pos rfl, gr7_0 hT.1, Option.bind_some, c_sgn_n (z := 91) (c := 91) hT hq (no_e hT) rfl]
    dsimp only [Option.bind_some]
    rw [if_pos rfl, gr7_0 hT.1, Option.bind_some, c_wrd_n hT hq (nw _)]
    dsimp only [Option.bind_some]
    rw [if_pos rfl]
    exact a1
  · dsimp only
    rw [pFact_eq]
    unfold f_X5_readFact
    rw [sr7 hT.1, gr7_0 hT.1, Option.bind_some, c_place hT ht, Option.bind_some, Option.bind_some]
    have pst : ps e (.inr t) = t := rfl
    by_cases h29 : isW T t 29 = true
    · obtain ⟨N1, a1, a2, a3⟩ := c_wrd_y hT ht (isW_v h29).1 (isW_v h29).2
      have hT1 := hT.fr a2
      have hA1 := hA.tp a2
      rw [if_pos h29, show (29 : Int32) = nI 29 from rfl, a1]
      dsimp only [Option.bind_some]
      rw [if_neg (by decide)]
      obtain ⟨O, b1, b2, b3⟩ := c_may (s := .inr (t + 1)) hT1 a3 hd (T 4 (ps e (.inr t)))
      rw [b1]
      dsimp only [Option.bind_some]
      by_cases hd0 : d = 0
      · have e2 : opS d (T 4 (ps e (.inr t))) (.inr (t + 1)) = .inl (4, T 4 t) := by
          show (if d = 0 then _ else _) = _
          rw [if_pos hd0]; rfl
        rw [e2] at b3 ⊢
        rw [oks_l, if_pos rfl, if_pos hd0]
        exact ⟨O, rfl, Fr.fp (a2.tr b2), hA1.tp b2, b3⟩
      · have e2 : opS d (T 4 (ps e (.inr t))) (.inr (t + 1)) = .inr (t + 1) := by
          show (if d = 0 then _ else _) = _
          rw [if_neg hd0]
        rw [e2] at b3 ⊢
        rw [oks_r, if_neg (by decide), if_neg hd0]
        obtain ⟨Z, Z1, c1, c2, c3, c4, c5⟩ := (cx_add hp (hF hd0) (fact_adv hE _) (hT1.fr b2) (hA1.tp b2) (v := -12) (c := 12) rfl).2 t b3
        try dsimp only at c1
        rw [c1, Option.bind_some, c2]
        exact ⟨Z, rfl, (Fr.fp (a2.tr b2)).tr c3, c4, rp_tp hA hp (a2.tr b2) c5⟩
    · rw [if_neg h29, c_wrd_n (z := 29) hT ht (fun w => h29 (decide_eq_true w))]
      dsimp only [Option.bind_some]
      rw [if_pos rfl, gr7_0 hT.1, Option.bind_some]
      by_cases h91 : isS T t 91 = true
      · obtain ⟨N1, a1, a2, a3⟩ := c_sgn_y (z := 91) hT ht h91 rfl
        have hT1 := hT.fr a2
        have hA1 := hA.tp a2
        rw [if_pos h91, a1]
        dsimp only [Option.bind_some]
        rw [if_neg (by decide)]
        obtain ⟨O, b1, b2, b3⟩ := c_may (s := .inr (t + 1)) hT1 a3 hd (T 4 (ps e (.inr t)))
        rw [b1]
        dsimp only [Option.bind_some]
        by_cases hd0 : d = 0
        · have e2 : opS d (T 4 (ps e (.inr t))) (.inr (t + 1)) = .inl (4, T 4 t) := by
            show (if d = 0 then _ else _) = _
            rw [if_pos hd0]; rfl
          rw [e2] at b3 ⊢
          rw [oks_l, if_pos rfl, if_pos hd0]
          exact ⟨O, rfl, Fr.fp (a2.tr b2), hA1.tp b2, b3⟩
        · have e2 : opS d (T 4 (ps e (.inr t))) (.inr (t + 1)) = .inr (t + 1) := by
            show (if d = 0 then _ else _) = _
            rw [if_neg hd0]
          rw [e2] at b3 ⊢
          rw [oks_r, if_neg (by decide), if_neg hd0]
          obtain ⟨P, P1, c1, c2, c3, c4, c5, c6⟩ := (cx_inS (c := 93) (z := 93) hp (hTt hd0) (hT1.fr b2) (hA1.tp b2) rfl).2 (t + 1) b3
          try dsimp only at c1
          rw [c1, Option.bind_some, gr7_0 c3.1, Option.bind_some, c2, Option.bind_some]
          unfold f_X5_readFact_B93
          refine ⟨P, rfl, (Fr.fp (a2.tr b2)).tr c4, c5, ?_⟩
          have c7 := rp_tp hA hp (a2.tr b2) c6
          generalize (rbd (pTest wh T (d - 1) (t + 1)) fun cs t1 => askS T 93 t1 (.inr (cs, t1 + 1))) = R at c7 ⊢
          match R, c7 with
          | .inl q, c7 => exact c7
          | .inr r, c7 => exact ⟨c7.1, fun cs0 k1 k2 => c7.2 cs0 k1 (by omega)⟩
      · rw [if_neg h91, c_sgn_n (z := 91) hT ht h91 rfl]
        dsimp only [Option.bind_some]
        rw [if_pos rfl, gr7_0 hT.1, Option.bind_some]
        by_cases h30 : isW T t 30 = true
        · obtain ⟨N1, a1, a2, a3⟩ := c_wrd_y hT ht (isW_v h30).1 (isW_v h30).2
          have hA1 := hA.tp a2
          rw [if_pos h30, show (30 : Int32) = nI 30 from rfl, a1]
          dsimp only [Option.bind_some]
          rw [if_neg (by decide)]
          obtain ⟨N, b1, b2, b3, b4, b5⟩ := c_add hA1 hp 1
          rw [b1]
          refine ⟨N, rfl, fb_tp a2 b2, b3, a3.eq b4, fun cs0 k1 k2 => ?_⟩
          rw [List.append_nil] at k1 k2
          have := a3.2.1
          have := hE.2
          exact b5 cs0 13 (k1.tp hA hp a2) (by omega) rfl
        · rw [if_neg h30, c_wrd_n (z := 30) hT ht (fun w => h30 (decide_eq_true w))]
          dsimp only [Option.bind_some]
          rw [if_pos rfl]
          exact (hC M hT hA).2 t ht
end CU
section CTT
variable {T : Tk} {e p wh : Nat}
theorem F_p {n : Nat} (w : Nat) (v0 v1 : Nat) (v2 : Int64) (v4 v5 : Int32) (M : sMem) : F_parser (n + 1) w v0 v1 v2 v4 v5 M = if w = 0 then f_X5_readTest (F_parser n) v0 v1 v2 v4 M else if w = 1 then f_X5_readBoth (F_parser n) v0 v1 v2 v4 M else if w = 2 then f_X5_readFact (F_parser n) v0 v1 v2 v4 M else if w = 3 then f_X5_readSum (F_parser n) v0 v1 v2 v4 M else if w = 4 then f_X5_readProduct (F_parser n) v0 v1 v2 v4 M else if w = 5 then f_X5_readPart (F_parser n) v0 v1 v2 v4 M else f_X5_readPair (F_parser n) v0 v1 v2 v4 v5 M := rfl
theorem CPR.cg {f f' : sMem → Option sMem} {g g' : Nat → Rs} (h : CPR T e p f g) (hf : ∀ M, f' M = f M) (hg : ∀ t, g' t = g t) : CPR T e p f' g' := by
  have e1 : f' = f := funext hf
  have e2 : g' = g := funext hg
  rw [e1, e2]; exact h
theorem cp_sum {o : Int32} {n : Nat} {f : Nat → Rs} (hE : Ends T e) (hp : p ∈ prgL) (hA : Adv e f) (h : CPR T e p (fun M => F_parser n 5 7 p (pmk wh) o 0 M) f) : CPR T e p (fun M => F_parser (n + 2) 3 7 p (pmk wh) o 0 M) (sumOf T f) := by
  have h1 : CPR T e p (fun M => F_parser (n + 1) 4 7 p (pmk wh) o 0 M) (prodOf T f) := (cx_prod hE hp h hA).cg (fun M => F_p ..) (fun _ => rfl)
  exact (cx_sum (F := F_parser (n + 1)) hE hp h1 (prod_adv hE hA)).cg (fun M => F_p ..) (fun _ => rfl)
theorem cp_test {o : Int32} {n : Nat} {f : Nat → Rs} (hE : Ends T e) (hp : p ∈ prgL) (hA : Adv e f) (h : CPR T e p (fun M => F_parser n 2 7 p (pmk wh) o 0 M) f) : CPR T e p (fun M => F_parser (n + 2) 0 7 p (pmk wh) o 0 M) (testOf T f) := by
  have h1 : CPR T e p (fun M => F_parser (n + 1) 1 7 p (pmk wh) o 0 M) (bothOf T f) := (cx_both hE hp h hA).cg (fun M => F_p ..) (fun _ => rfl)
  exact (cx_test (F := F_parser (n + 1)) hE hp h1 (both_adv hE hA)).cg (fun M => F_p ..) (fun _ => rfl)
theorem cp_part (hE : Ends T e) (hR : LexR T e) (hp : p ∈ prgL) (hwh : wh < 4) : ∀ d, d ≤ 6 → ∀ n, 4 * d + 2 ≤ n → CPR T e p (fun M => F_parser n 5 7 p (pmk wh) (nI (6 - d)) 0 M) (pPart wh T d)
  | 0, hd, n, hn => by
    obtain ⟨m, rfl⟩ : ∃ m, n = m + 2 := ⟨n - 2, by omega⟩
    refine (cx_part (F := F_parser (m + 1)) hE hR hp hwh hd (fun z => absurd rfl z) (fun z => absurd rfl z) (fun M v c hv hT hA t ht => ?_)).cg (fun M => F_p ..) (fun _ => rfl)
    exact (cx_pair (F := F_parser m) (g := pSum wh T (0 - 1)) hd hp (psum_adv hE) (fun z => absurd rfl z) hv hT hA).2 t ht
  | d + 1, hd, n, hn => by
    obtain ⟨m, rfl⟩ : ∃ m, n = m + 6 := ⟨n - 6, by omega⟩
    have ih := cp_part hE hR hp hwh d (by omega)
    have hs : ∀ k, 4 * d + 2 ≤ k → CPR T e p (fun M => F_parser (k + 2) 3 7 p (pmk wh) (nI (6 - (d + 1)) + 1) 0 M) (pSum wh T d) := fun k hk => by
      rw [o1 (by omega)]; exact cp_sum hE hp (part_adv hE d) (ih k hk)
    refine (cx_part (F := F_parser (m + 5)) hE hR hp hwh hd (fun _ => hs (m + 3) (by omega)) (fun _ => by rw [o1 (by omega)]; exact ih (m + 5) (by omega)) (fun M v c hv hT hA t ht => ?_)).cg (fun M => F_p ..) (fun _ => rfl)
    exact (cx_pair (F := F_parser (m + 4)) (g := pSum wh T d) hd hp (psum_adv hE) (fun _ => hs (m + 2) (by omega)) hv hT hA).2 t ht
theorem cp_psum (hE : Ends T e) (hR : LexR T e) (hp : p ∈ prgL) (hwh : wh < 4) (d : Nat) (hd : d ≤ 6) (n : Nat) (hn : 4 * d + 4 ≤ n) : CPR T e p (fun M => F_parser n 3 7 p (pmk wh) (nI (6 - d)) 0 M) (pSum wh T d) := by
  obtain ⟨m, rfl⟩ : ∃ m, n = m + 2 := ⟨n - 2, by omega⟩
  exact cp_sum hE hp (part_adv hE d) (cp_part hE hR hp hwh d hd m (by omega))
theorem cp_fact (hE : Ends T e) (hR : LexR T e) (hp : p ∈ prgL) (hwh : wh < 4) : ∀ d, d ≤ 6 → ∀ n, 4 * d + 5 ≤ n → CPR T e p (fun M => F_parser n 2 7 p (pmk wh) (nI (6 - d)) 0 M) (pFact wh T d)
  | 0, hd, n, hn => by
    obtain ⟨m, rfl⟩ : ∃ m, n = m + 1 := ⟨n - 1, by omega⟩
    exact (cx_fact (F := F_parser m) hE hp hd (cp_psum hE hR hp hwh 0 hd m (by omega)) (fun z => absurd rfl z) (fun z => absurd rfl z)).cg (fun M => F_p ..) (fun _ => rfl)
  | d + 1, hd, n, hn => by
    obtain ⟨m, rfl⟩ : ∃ m, n = m + 3 := ⟨n - 3, by omega⟩
    have ih := cp_fact hE hR hp hwh d (by omega)
    refine (cx_fact (F := F_parser (m + 2)) hE hp hd (cp_psum hE hR hp hwh (d + 1) hd (m + 2) (by omega)) (fun _ => by rw [o1 (by omega)]; exact ih (m + 2) (by omega)) (fun _ => ?_)).cg (fun M => F_p ..) (fun _ => rfl)
    rw [o1 (by omega)]
    exact cp_test hE hp (fact_adv hE d) (ih m (by omega))
/-- a sum, a test, with nothing open -/
theorem cp_sum0 (hE : Ends T e) (hR : LexR T e) (hp : p ∈ prgL) (hwh : wh < 4) : CPR T e p (fun M => F_parser 64 3 7 p (pmk wh) 0 0 M) (pSum wh T 6) := cp_psum hE hR hp hwh 6 (by decide) 64 (by decide)
theorem cp_test0 (hE : Ends T e) (hR : LexR T e) (hp : p ∈ prgL) (hwh : wh < 4) : CPR T e p (fun M => F_parser 64 0 7 p (pmk wh) 0 0 M) (pTest wh T 6) := cp_test (n := 62) hE hp (fact_adv hE 6) (cp_fact hE hR hp hwh 6 (by decide) 62 (by decide))
end CTT
