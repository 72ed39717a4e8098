section CW2
variable {T : Tk} {e p wh : Nat} {g : Nat → Rs} {M : sMem} {F : Nat → Nat → Nat → Int64 → Int32 → Int32 → sMem → Option sMem} {pm : Int64} {o : Nat} {s : Cs}
def pmk (wh : Nat) : Int64 := if wh = 0 then 1838080 else if wh = 1 then 6327296 else if wh = 2 then 14680064 else 132124708
/-- words and numbers as they are cut -/
def LexR (T : Tk) (e : Nat) : Prop := (∀ t, t ≤ e → T 3 t = 1 → T 6 t = mI ∨ ∃ j, j < 39 ∧ T 6 t = nI j) ∧ ∀ t, t ≤ e → T 3 t = 2 → ∃ v, v ≤ 9999 ∧ T 6 t = nI v
def kofN (wh j : Nat) : Nat := ((List.range 15).find? (fun k => okPart wh k && decide (nI j = nI (wdx k)))).getD 15
theorem mask_k : ∀ wh, wh < 4 → ∀ j, j < 39 → (((pmk wh >>> ((nI j).toInt64 &&& 63)) &&& (1 : Int64)) = (1 : Int64) ↔ kofN wh j < 15) ∧ (kofN wh j < 15 → wdx (kofN wh j) = j) ∧ kofN wh j ≤ 15 := by decide +kernel
theorem kof_n {t j : Nat} (h1 : T 3 t = 1) (h2 : T 6 t = nI j) : kof wh T t = kofN wh j := by
  unfold kof kofN
  rw [if_pos h1, h2]
theorem kof_m {t : Nat} (h : T 3 t ≠ 1 ∨ T 6 t = mI) : kof wh T t = 15 := by
  unfold kof
  by_cases h1 : T 3 t = 1
  · rw [if_pos h1]
    have h2 : T 6 t = mI := by
      rcases h with h | h
      · exact absurd h1 h
      · exact h
    have : (List.range 15).find? (fun k => okPart wh k && decide (T 6 t = nI (wdx k))) = none := by
      rw [List.find?_eq_none]
      intro k hk z
      have hk' := List.mem_range.mp hk
      rw [h2, Bool.and_eq_true] at z
      have hw : ∀ k, k < 15 → ¬ (mI = nI (wdx k)) := by decide
      exact hw k hk' (of_decide_eq_true z.2)
    rw [this]; rfl
  · rw [if_neg h1]
/-- one may open, or not -/
def opS (d : Nat) (at' : Int32) (s : Cs) : Cs := cbd s fun t => if d = 0 then .inl (4, at') else .inr t
def oks : Cs → Int32
  | .inl _ => 0
  | .inr _ => 1
theorem oks_l {q : Int32 × Int32} : oks (.inl q) = 0 := rfl
theorem oks_r {t : Nat} : oks (.inr t) = 1 := rfl
theorem c_may (hT : TG T e M) (h : CS e M s) {d : Nat} (hd : d ≤ 6) (at' : Int32) : ∃ N, f_X5_mayOpen 7 (nI (6 - d)) at' M = some (oks (opS d at' s), N) ∧ Fr tpX q0 M N ∧ CS e N (opS d at' s) := by
  have B : ∀ (N : sMem) (s : Cs), TG T e N → CS e N s → f_X5_mayOpen_B15 7 N = some (oks s, N) := by
    intro N s hT hs
    unfold f_X5_mayOpen_B15
    rw [gr7_0 hT.1, Option.bind_some, c_isGood hT hs, Option.bind_some]
    match s with
    | .inl q => rw [if_pos (Or.inl rfl)]; rfl
    | .inr t => rw [if_pos (Or.inr rfl)]; rfl
  unfold f_X5_mayOpen
  rw [sr7 hT.1]
  by_cases hd0 : d = 0
  · rw [if_neg (by rw [nl 6, clt (by omega) (by omega)]; omega), gr7_0 hT.1, Option.bind_some]
    obtain ⟨N, f1, f2, f3⟩ := c_fail hT h 4 at' (by decide)
    have e1 : opS d at' s = cbd s fun _ => .inl (4, at') := by unfold opS; simp only [hd0, if_true]
    rw [e1, f1, Option.bind_some, B N _ (hT.fr f2) f3]
    exact ⟨N, rfl, f2, f3⟩
  · rw [if_pos (by rw [nl 6, clt (by omega) (by omega)]; omega)]
    have e1 : opS d at' s = s := by
      unfold opS
      simp only [hd0, if_false]
      match s with
      | .inl q => rfl
      | .inr t => rfl
    rw [e1, B M s hT h]
    exact ⟨M, rfl, Fr.rf, h⟩
theorem o1 {d : Nat} (hd : d < 6) : nI (6 - (d + 1)) + (1 : Int32) = nI (6 - d) := by rw [nI_1, show 6 - (d + 1) + 1 = 6 - d by omega]
/-- of a part that has no part in it -/
theorem cx_leafW (hp : p ∈ prgL) (hT : TG T e M) (hA : PA M) (hwh : wh < 4) {t j : Nat} (ht : CS e M (.inr t)) (h1 : T 3 t = 1) (h2 : T 6 t = nI j) (hj : j < 39) (hk : kofN wh j < 13) : ∃ N1 N, f_X10_needWord 1 (nI j) M = some N1 ∧ f_X6_add p ((10000 : Int32) + nI j) N1 = some N ∧ FP p M N ∧ PA N ∧ RP e p M N [] t (leaf wh T t) := by
  obtain ⟨m1, m2, m3⟩ := mask_k wh hwh j hj
  obtain ⟨N1, a1, a2, a3⟩ := c_needW hT ht (nI j)
  have e3 : ndW T (nI j) (.inr t) = .inr (t + 1) := by
    show (if T 3 t = 1 ∧ T 6 t = nI j then _ else _) = _
    rw [if_pos ⟨h1, h2⟩]
  rw [e3] at a3
  obtain ⟨N, b1, b2, b3, b4, b5⟩ := c_add (hA.tp a2) hp ((10000 : Int32) + nI j)
  refine ⟨N1, N, a1, b1, fb_tp a2 b2, b3, ?_⟩
  have el : leaf wh T t = .inr ([40 + kofN wh j], t + 1) := by
    unfold leaf
    rw [if_neg (by rw [h1]; decide), kof_n h1 h2, if_pos hk]
  rw [el]
  refine ⟨a3.eq b4, fun cs0 k1 k2 => ?_⟩
  rw [List.append_nil] at k1 k2
  have hte := a3.2.1
  have := hT.2.2.2.2
  refine b5 cs0 (40 + kofN wh j) (k1.tp hA hp a2) (by omega) ?_
  have hw : ∀ k, k < 13 → trn (40 + k) = (10000 : Int32) + nI (wdx k) := by decide
  rw [hw _ hk, m2 (by omega)]
theorem cx_leafN (hp : p ∈ prgL) (hR : LexR T e) (hT : TG T e M) (hA : PA M) {t : Nat} (ht : CS e M (.inr t)) (h1 : T 3 t = 2) : ∃ v N1 N, f_X10_number 1 0 9999 M = some (v, N1) ∧ f_X6_add p v N1 = some N ∧ FP p M N ∧ PA N ∧ RP e p M N [] t (leaf wh T t) := by
  obtain ⟨v, N1, a1, a2, a3⟩ := c_number hT ht 0 9999
  obtain ⟨N, b1, b2, b3, b4, b5⟩ := c_add (hA.tp a2) hp v
  refine ⟨v, N1, N, a1, b1, fb_tp a2 b2, b3, ?_⟩
  obtain ⟨x, x1, x2⟩ := hR.2 t ht.2.1 h1
  unfold leaf
  rw [if_pos h1]
  have hx : (nI x).toInt = x := nI_i (by omega)
  by_cases h4 : T 5 t - T 4 t ≤ 4
  · rw [if_pos h4]
    have en : numR T 0 9999 t = .inr (T 6 t, t + 1) := by
      unfold numR
      rw [if_pos h1, if_pos h4, if_pos]
      rw [x2]
      exact ⟨le_i.mpr (by rw [hx]; show (0 : Int) ≤ _; omega), le_i.mpr (by rw [hx]; show _ ≤ (9999 : Int); omega)⟩
    unfold CV2 at a3
    dsimp only at a3
    rw [en] at a3
    refine ⟨a3.2.eq b4, fun cs0 k1 k2 => ?_⟩
    rw [List.append_nil] at k1 k2
    have hte := a3.2.2.1
    have := hT.2.2.2.2
    refine b5 cs0 _ (k1.tp hA hp a2) (by omega) ?_
    rw [a3.1, x2, hx, Int.toNat_natCast]
    unfold trn
    rw [if_pos (by omega), show 1000 + x - 1000 = x by omega]
  · rw [if_neg h4]
    have en : numR T 0 9999 t = .inl (1, T 4 t + 4) := by
      unfold numR
      rw [if_pos h1, if_neg h4]
    unfold CV2 at a3
    dsimp only at a3
    rw [en] at a3
    exact CS.eq (s := .inl (1, T 4 t + 4)) a3 b4
/-- a sum in brackets behind an opening sign that is taken -/
theorem cx_inS {f : sMem → Option sMem} (hp : p ∈ prgL) (hf : CPR T e p f g) (hT : TG T e M) (hA : PA M) {c : Nat} {z : Int32} (hz : z = nI c) : (∀ q, CS e M (.inl q) → ∃ N N1, f M = some N1 ∧ f_X10_needSign 1 z N1 = some N ∧ TG T e N1 ∧ FP p M N ∧ PA N ∧ CS e N (.inl q)) ∧ ∀ t, CS e M (.inr t) → ∃ N N1, f M = some N1 ∧ f_X10_needSign 1 z N1 = some N ∧ TG T e N1 ∧ FP p M N ∧ PA N ∧ RP e p M N [] t (rbd (g t) fun cs t1 => askS T c t1 (.inr (cs, t1 + 1))) := by
  refine ⟨fun q hq => ?_, fun t ht => ?_⟩
  · obtain ⟨N, a1, a2, a3, a4⟩ := (hf M hT hA).1 q hq
    have hT1 := hT.fp hA hp a2
    obtain ⟨O, b1, b2, b3⟩ := c_needS hT1 a4 hz
    exact ⟨O, N, a1, b1, hT1, a2.tr (Fr.fp b2), a3.tp b2, b3⟩
  · obtain ⟨N, a1, a2, a3, a4⟩ := (hf M hT hA).2 t ht
    have hT1 := hT.fp hA hp a2
    match w : g t with
    | .inl q =>
      rw [w] at a4
      obtain ⟨O, b1, b2, b3⟩ := c_needS (s := .inl q) hT1 a4 hz
      exact ⟨O, N, a1, b1, hT1, a2.tr (Fr.fp b2), a3.tp b2, b3⟩
    | .inr (cs, t1) =>
      rw [w] at a4
      obtain ⟨O, b1, b2, b3⟩ := c_needS (s := .inr t1) hT1 a4.1 hz
      refine ⟨O, N, a1, b1, hT1, a2.tr (Fr.fp b2), a3.tp b2, ?_⟩
      rw [rbd_r]
      unfold askS
      have e1 : ndS T c (.inr t1) = if isS T t1 c = true then .inr (t1 + 1) else .inl (1, T 4 t1) := rfl
      rw [e1] at b3
      by_cases hs : isS T t1 c = true
      · rw [if_pos hs] at b3 ⊢
        exact ⟨b3, fun cs0 k1 k2 => (a4.2 cs0 k1 k2).tp a3 hp b2⟩
      · rw [if_neg hs] at b3 ⊢
        exact b3
theorem rp_l {N : sMem} {q : Int32 × Int32} {cs : List Nat} {t : Nat} (h : CS e N (.inl q)) : RP e p M N cs t (.inl q) := h
/-- a pair -/
theorem cx_pair {d : Nat} (hd : d ≤ 6) (hp : p ∈ prgL) (hg : Adv e g) (hf : d ≠ 0 → CPR T e p (fun M => F 3 7 p pm (nI (6 - d) + 1) 0 M) g) {v : Int32} {c : Nat} (hv : v = trn c) (hT : TG T e M) (hA : PA M) : (∀ q, CS e M (.inl q) → ∃ N, f_X5_readPair F 7 p pm (nI (6 - d)) v M = some N ∧ FP p M N ∧ PA N ∧ CS e N (.inl q)) ∧ ∀ t, CS e M (.inr (t + 1)) → ∃ N, f_X5_readPair F 7 p pm (nI (6 - d)) v M = some N ∧ FP p M N ∧ PA N ∧ RP e p M N [] t (askS T 40 (t + 1) (if d = 0 then .inl (4, T 4 (t + 1)) else rbd (g (t + 2)) fun cs t1 => askS T 44 t1 (rbd (g (t1 + 1)) fun c2 t2 => askS T 41 t2 (.inr (cs ++ c2 ++ [c], t2 + 1))))) := by
  -- once one has failed, all that follows leaves the fault
  have bad0 : ∀ (N : sMem) (q : Int32 × Int32) (x2 : Int32), TG T e N → PA N → CS e N (.inl q) → ∃ O, (f_X5_mayOpen 7 (nI (6 - d)) x2 N) = some (0, O) ∧ Fr tpX q0 N O ∧ CS e O (.inl q) := by
    intro N q x2 hT hA hq
    exact c_may (s := .inl q) hT hq hd x2
  refine ⟨fun q hq => ?_, fun t ht => ?_⟩
  · obtain ⟨N, a1, a2, a3⟩ := c_needS (s := .inl q) (c := 40) (z := 40) hT hq rfl
    obtain ⟨O, b1, b2, b3⟩ := bad0 N q (T 4 e) (hT.fr a2) (hA.tp a2) a3
    unfold f_X5_readPair
    rw [sr7 hT.1, gr7_0 hT.1, Option.bind_some, c_place hT hq, Option.bind_some, Option.bind_some, a1, Option.bind_some]
    show ∃ N_1, (f_X5_mayOpen 7 (nI (6 - d)) (T 4 e) N).bind _ = _ ∧ _
    rw [b1]
    dsimp only [Option.bind_some]
    rw [if_pos rfl]
    exact ⟨O, rfl, Fr.fp (a2.tr b2), (hA.tp a2).tp b2, b3⟩
  · obtain ⟨N, a1, a2, a3⟩ := c_needS (s := .inr (t + 1)) (c := 40) (z := 40) hT ht rfl
    have hT1 := hT.fr a2
    have hA1 := hA.tp a2
    unfold f_X5_readPair askS
    rw [sr7 hT.1, gr7_0 hT.1, Option.bind_some, c_place hT ht, Option.bind_some, Option.bind_some, a1, Option.bind_some]
    have e1 : ndS T 40 (.inr (t + 1)) = if isS T (t + 1) 40 = true then .inr (t + 1 + 1) else .inl (1, T 4 (t + 1)) := rfl
    rw [e1] at a3
    by_cases h40 : isS T (t + 1) 40 = true
    · rw [if_pos h40] at a3 ⊢
      obtain ⟨O, b1, b2, b3⟩ := c_may (s := .inr (t + 1 + 1)) hT1 a3 hd (T 4 (ps e (.inr (t + 1))))
      rw [b1]
      dsimp only [Option.bind_some]
      by_cases hd0 : d = 0
      · have e2 : opS d (T 4 (ps e (.inr (t + 1)))) (.inr (t + 1 + 1)) = .inl (4, T 4 (t + 1)) := by
          show (if d = 0 then _ else _) = _
          rw [if_pos hd0]; rfl
        rw [e2] at b3 ⊢
        rw [oks_l, if_pos rfl, if_pos hd0]
        exact ⟨O, rfl, Fr.fp (a2.tr b2), hA1.tp b2, b3⟩
      · have e2 : opS d (T 4 (ps e (.inr (t + 1)))) (.inr (t + 1 + 1)) = .inr (t + 2) := by
          show (if d = 0 then _ else _) = _
          rw [if_neg hd0]
        rw [e2] at b3 ⊢
        rw [oks_r, if_neg (by decide), if_neg hd0]
        have hT2 := hT1.fr b2
        have hA2 := hA1.tp b2
        obtain ⟨P, P1, c1, c2, c3, c4, c5, c6⟩ := (cx_inS (c := 44) (z := 44) hp (hf hd0) hT2 hA2 rfl).2 (t + 2) b3
        try dsimp only at c1
        have hT3 := hT2.fp hA2 hp c4
        rw [c1, Option.bind_some, gr7_0 c3.1, Option.bind_some, c2, Option.bind_some]
        -- the second one
        have fin : ∀ (Q Q1 : sMem), F 3 7 p pm (nI (6 - d) + 1) 0 P = some Q1 → f_X10_needSign 1 41 Q1 = some Q → TG T e Q1 → PA Q → ∃ Z, ((F 3 7 p pm (nI (6 - d) + 1) 0 P).bind fun M10 => (gR 5 2 0 M10 7).bind fun x11 => (f_X10_needSign x11 41 M10).bind fun M12 => (f_X6_add p v M12).bind fun M13 => some M13) = some Z ∧ FP p Q Z ∧ PA Z ∧ (∀ k, Z.2.1 1 k = Q.2.1 1 k) ∧ ∀ cs x, Pc Q p cs → cs.length < 1600 → v = trn x → Pc Z p (cs ++ [x]) := by
          intro Q Q1 d1 d2 d3 d4
          obtain ⟨Z, f1, f2, f3, f4, f5⟩ := c_add d4 hp v
          rw [d1, Option.bind_some, gr7_0 d3.1, Option.bind_some, d2, Option.bind_some, f1]
          exact ⟨Z, rfl, f2, f3, f4, f5⟩
        have fail2 : ∀ q, CS e P (.inl q) → ∃ Z, ((F 3 7 p pm (nI (6 - d) + 1) 0 P).bind fun M10 => (gR 5 2 0 M10 7).bind fun x11 => (f_X10_needSign x11 41 M10).bind fun M12 => (f_X6_add p v M12).bind fun M13 => some M13) = some Z ∧ FP p P Z ∧ PA Z ∧ CS e Z (.inl q) := by
          intro q hq
          obtain ⟨Q, Q1, d1, d2, d3, d4, d5, d6⟩ := (cx_inS (c := 41) (z := 41) hp (hf hd0) hT3 c5 rfl).1 q hq
          obtain ⟨Z, f1, f2, f3, f4, _⟩ := fin Q Q1 d1 d2 d3 d5
          exact ⟨Z, f1, d4.tr f2, f3, d6.eq f4⟩
        have fpO := Fr.fp (p := p) (a2.tr b2)
        match w : g (t + 2) with
        | .inl q =>
          rw [w] at c6
          obtain ⟨Z, f1, f2, f3, f4⟩ := fail2 q c6
          exact ⟨Z, f1, (fpO.tr c4).tr f2, f3, f4⟩
        | .inr (cs, t1) =>
          rw [w, rbd_r] at c6
          rw [rbd_r]
          obtain ⟨g1, g2, g3⟩ := hg (t + 2) cs t1 b3.2.1 w
          unfold askS at c6
          by_cases h44 : isS T t1 44 = true
          · rw [if_pos h44] at c6 ⊢
            obtain ⟨Q, Q1, d1, d2, d3, d4, d5, d6⟩ := (cx_inS (c := 41) (z := 41) hp (hf hd0) hT3 c5 rfl).2 (t1 + 1) c6.1
            obtain ⟨Z, f1, f2, f3, f4, f5⟩ := fin Q Q1 d1 d2 d3 d5
            refine ⟨Z, f1, ((fpO.tr c4).tr d4).tr f2, f3, ?_⟩
            match w2 : g (t1 + 1) with
            | .inl q =>
              rw [w2] at d6
              exact CS.eq (s := .inl q) d6 f4
            | .inr (cs2, t2) =>
              rw [w2, rbd_r] at d6
              rw [rbd_r]
              obtain ⟨g4, g5, g6⟩ := hg (t1 + 1) cs2 t2 c6.1.2.1 w2
              unfold askS at d6
              by_cases h41 : isS T t2 41 = true
              · rw [if_pos h41] at d6 ⊢
                refine ⟨d6.1.eq f4, fun cs0 k1 k2 => ?_⟩
                rw [List.append_nil] at k1 k2
                have i1 := c6.2 cs0 (by rw [List.append_nil]; exact (k1.tp hA hp (a2.tr b2))) (by rw [List.append_nil]; omega)
                have i2 := d6.2 (cs0 ++ cs) (by rw [List.append_nil]; exact i1) (by rw [List.append_nil, List.length_append]; omega)
                have := hT.2.2.2.2
                have i3 := f5 _ c i2 (by simp only [List.length_append]; omega) hv
                rw [show cs0 ++ (cs ++ cs2 ++ [c]) = cs0 ++ cs ++ cs2 ++ [c] by simp only [List.append_assoc]]
                exact i3
              · rw [if_neg h41] at d6 ⊢
                exact CS.eq (s := .inl (1, T 4 t2)) d6 f4
          · rw [if_neg h44] at c6 ⊢
            obtain ⟨Z, f1, f2, f3, f4⟩ := fail2 _ c6
            exact ⟨Z, f1, (fpO.tr c4).tr f2, f3, f4⟩
    · rw [if_neg h40] at a3 ⊢
      obtain ⟨O, b1, b2, b3⟩ := bad0 N _ (T 4 (ps e (.inr (t + 1)))) hT1 hA1 a3
      rw [b1]
      dsimp only [Option.bind_some]
      rw [if_pos rfl]
      exact ⟨O, rfl, Fr.fp (a2.tr b2), hA1.tp b2, b3⟩
end CW2
