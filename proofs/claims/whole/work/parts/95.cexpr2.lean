section CY
variable {T : Tk} {e p : Nat} {g : Nat → Rs} {M : sMem} {F : Nat → Nat → Nat → Int64 → Int32 → Int32 → sMem → Option sMem} {pm : Int64} {o : Int32}
theorem fb_tp {N O : sMem} (h : Fr tpX q0 M N) (h2 : FP p N O) : FP p M O := (Fr.fp h).tr h2
theorem rp_tp {N O : sMem} {cs : List Nat} {t : Nat} {R : Rs} (hA : PA M) (hp : p ∈ prgL) (h : Fr tpX q0 M N) (h2 : RP e p N O cs t R) : RP e p M O cs t R := by
  match R, h2 with
  | .inl q, h2 => exact h2
  | .inr r, h2 => exact ⟨h2.1, fun cs0 k1 k2 => h2.2 cs0 (k1.tp hA hp h) k2⟩
/-- the first, then the loop -/
theorem cx_seq {f : sMem → Option sMem} {sep : Nat → Nat} {L : sMem → Option sMem} (hp : p ∈ prgL) (hf : CPR T e p f g) (hg : Adv e g)
    (hL : ∀ M, TG T e M → PA M → (∀ q, CS e M (.inl q) → ∃ N, L M = some N ∧ FP p M N ∧ PA N ∧ CS e N (.inl q)) ∧ ∀ t cs, CS e M (.inr t) → ∃ N, L M = some N ∧ FP p M N ∧ PA N ∧ RP e p M N cs t (lp g sep 2000 cs t)) :
    CPR T e p (fun M => (f M).bind L) (fun t => rbd (g t) fun cs t1 => lp g sep 2000 cs t1) := by
  intro M hT hA
  refine ⟨fun q hq => ?_, fun t ht => ?_⟩
  · obtain ⟨N, a1, a2, a3, a4⟩ := (hf M hT hA).1 q hq
    obtain ⟨O, b1, b2, b3, b4⟩ := (hL N (hT.fp hA hp a2) a3).1 q a4
    exact ⟨O, by show (f M).bind L = _; rw [a1]; exact b1, a2.tr b2, b3, b4⟩
  · obtain ⟨N, a1, a2, a3, a4⟩ := (hf M hT hA).2 t ht
    match z : g t with
    | .inl q =>
      rw [z] at a4
      obtain ⟨O, b1, b2, b3, b4⟩ := (hL N (hT.fp hA hp a2) a3).1 q a4
      refine ⟨O, by show (f M).bind L = _; rw [a1]; exact b1, a2.tr b2, b3, ?_⟩
      show RP e p M O [] t (rbd (g t) fun cs t1 => lp g sep 2000 cs t1)
      rw [z, rbd_l]; exact b4
    | .inr (cs, t1) =>
      rw [z] at a4
      obtain ⟨d1, d2, d3⟩ := hg t cs t1 ht.2.1 z
      obtain ⟨O, b1, b2, b3, b4⟩ := (hL N (hT.fp hA hp a2) a3).2 t1 cs a4.1
      refine ⟨O, by show (f M).bind L = _; rw [a1]; exact b1, a2.tr b2, b3, ?_⟩
      show RP e p M O [] t (rbd (g t) fun cs t1 => lp g sep 2000 cs t1)
      rw [z, rbd_r]
      generalize lp g sep 2000 cs t1 = w at b4 ⊢
      match w, b4 with
      | .inl q, b4 => exact b4
      | .inr (c2, t2), b4 =>
        refine ⟨b4.1, fun cs0 k1 k2 => b4.2 cs0 (a4.2 cs0 k1 k2) ?_⟩
        rw [List.append_nil] at k2
        rw [List.length_append]; omega
theorem sFm : sFuel = 1000000 := rfl
theorem cx_test (hE : Ends T e) (hp : p ∈ prgL) (hf : CPR T e p (fun M => F 1 7 p pm o 0 M) g) (hg : Adv e g) : CPR T e p (fun M => f_X5_readTest F 7 p pm o M) (fun t => rbd (g t) fun cs t1 => lp g (sepO T) 2000 cs t1) := by
  have hse : ∀ t, sepO T t ≠ 0 → t ≠ e := fun t z => (sep_s t).2.2.2.1 z hE
  have hz : ∀ t, sepO T t = 0 ↔ ¬ isW T t 27 = true := fun t => by unfold sepO; by_cases w : isW T t 27 = true <;> simp [w]
  have main := cx_seq (L := fun M => f_X5_readTest_L11 F 7 p pm o 0 M) (sep := sepO T) hp hf hg (fun M hT hA => by
    have := cl_1 (B := fun a : (Int32 × sMem) => f_X5_readTest_K11 F 7 p pm o a.1 a.2) hE hp hg hse (fun k N h1 h2 => by
        show f_X5_readTest_K11 F 7 p pm o (nI k) N = _
        unfold f_X5_readTest_K11
        rw [if_pos (by rw [nl 1600, cle (by omega) (by omega)]; exact h1)])
      (fun k N s h1 hT hA hs h2 => by
        show f_X5_readTest_K11 F 7 p pm o (nI k) N = _
        unfold f_X5_readTest_K11
        rw [if_neg (by rw [nl 1600, cle (by omega) (by omega)]; omega), gr7_0 hT.1, Option.bind_some, c_wrd_n hT hs (fun z => ?_)]
        · rfl
        · match s, h2 with
          | .inl q, _ => exact no_w hT (decide_eq_true z)
          | .inr t, h2 => exact (hz t).mp (h2 t rfl) (decide_eq_true z))
      (fun k N t h1 hT hA hs h2 => by
        show ∃ O, f_X5_readTest_K11 F 7 p pm o (nI k) N = _ ∧ _
        have hw : isW T t 27 = true := by
          by_cases w : isW T t 27 = true
          · exact w
          · exact absurd ((hz t).mpr w) h2
        have e11 : sepO T t = 11 := by unfold sepO; rw [if_pos hw]
        obtain ⟨N1, a1, a2, a3⟩ := c_wrd_y hT hs (isW_v hw).1 (isW_v hw).2
        obtain ⟨O, N2, b0, b1, b2, b3, b4⟩ := (cx_add hp hf hg (hT.fr a2) (hA.tp a2) (v := -1) (c := 11) rfl).2 t a3
        refine ⟨O, ?_, fb_tp a2 b2, b3, by rw [e11]; exact rp_tp hA hp a2 b4⟩
        unfold f_X5_readTest_K11
        rw [if_neg (by rw [nl 1600, cle (by omega) (by omega)]; omega), gr7_0 hT.1, Option.bind_some, show (27 : Int32) = nI 27 from rfl, a1]
        dsimp only [Option.bind_some]
        try dsimp only at b0
        rw [if_neg (by decide), b0, Option.bind_some, b1, Option.bind_some, nI_1])
      hT hA
    have eL : f_X5_readTest_L11 F 7 p pm o 0 M = sItr (fun a : (Int32 × sMem) => f_X5_readTest_K11 F 7 p pm o a.1 a.2) sFuel (nI 0, M) := by
      unfold f_X5_readTest_L11
      show (sItr _ sFuel (nI 0, M)).bind _ = _
      cases sItr (fun a : (Int32 × sMem) => f_X5_readTest_K11 F 7 p pm o a.1 a.2) sFuel (nI 0, M) <;> rfl
    try dsimp only
    rw [eL]
    exact this)
  intro M hT hA
  have := main M hT hA
  have er : f_X5_readTest F 7 p pm o M = (F 1 7 p pm o 0 M).bind fun M6 => f_X5_readTest_L11 F 7 p pm o 0 M6 := by
    unfold f_X5_readTest; rw [sr7 hT.1]
  dsimp only at this ⊢
  rw [er]; exact this
theorem cx_both (hE : Ends T e) (hp : p ∈ prgL) (hf : CPR T e p (fun M => F 2 7 p pm o 0 M) g) (hg : Adv e g) : CPR T e p (fun M => f_X5_readBoth F 7 p pm o M) (fun t => rbd (g t) fun cs t1 => lp g (sepN T) 2000 cs t1) := by
  have hse : ∀ t, sepN T t ≠ 0 → t ≠ e := fun t z => (sep_s t).2.2.1 z hE
  have hz : ∀ t, sepN T t = 0 ↔ ¬ isW T t 28 = true := fun t => by unfold sepN; by_cases w : isW T t 28 = true <;> simp [w]
  have main := cx_seq (L := fun M => f_X5_readBoth_L11 F 7 p pm o 0 M) (sep := sepN T) hp hf hg (fun M hT hA => by
    have := cl_1 (B := fun a : (Int32 × sMem) => f_X5_readBoth_K11 F 7 p pm o a.1 a.2) hE hp hg hse (fun k N h1 h2 => by
        show f_X5_readBoth_K11 F 7 p pm o (nI k) N = _
        unfold f_X5_readBoth_K11
        rw [if_pos (by rw [nl 1600, cle (by omega) (by omega)]; exact h1)])
      (fun k N s h1 hT hA hs h2 => by
        show f_X5_readBoth_K11 F 7 p pm o (nI k) N = _
        unfold f_X5_readBoth_K11
        rw [if_neg (by rw [nl 1600, cle (by omega) (by omega)]; omega), gr7_0 hT.1, Option.bind_some, c_wrd_n hT hs (fun z => ?_)]
        · rfl
        · match s, h2 with
          | .inl q, _ => exact no_w hT (decide_eq_true z)
          | .inr t, h2 => exact (hz t).mp (h2 t rfl) (decide_eq_true z))
      (fun k N t h1 hT hA hs h2 => by
        show ∃ O, f_X5_readBoth_K11 F 7 p pm o (nI k) N = _ ∧ _
        have hw : isW T t 28 = true := by
          by_cases w : isW T t 28 = true
          · exact w
          · exact absurd ((hz t).mpr w) h2
        have e11 : sepN T t = 10 := by unfold sepN; rw [if_pos hw]
        obtain ⟨N1, a1, a2, a3⟩ := c_wrd_y hT hs (isW_v hw).1 (isW_v hw).2
        obtain ⟨O, N2, b0, b1, b2, b3, b4⟩ := (cx_add hp hf hg (hT.fr a2) (hA.tp a2) (v := -2) (c := 10) rfl).2 t a3
        refine ⟨O, ?_, fb_tp a2 b2, b3, by rw [e11]; exact rp_tp hA hp a2 b4⟩
        unfold f_X5_readBoth_K11
        rw [if_neg (by rw [nl 1600, cle (by omega) (by omega)]; omega), gr7_0 hT.1, Option.bind_some, show (28 : Int32) = nI 28 from rfl, a1]
        dsimp only [Option.bind_some]
        try dsimp only at b0
        rw [if_neg (by decide), b0, Option.bind_some, b1, Option.bind_some, nI_1])
      hT hA
    have eL : f_X5_readBoth_L11 F 7 p pm o 0 M = sItr (fun a : (Int32 × sMem) => f_X5_readBoth_K11 F 7 p pm o a.1 a.2) sFuel (nI 0, M) := by
      unfold f_X5_readBoth_L11
      show (sItr _ sFuel (nI 0, M)).bind _ = _
      cases sItr (fun a : (Int32 × sMem) => f_X5_readBoth_K11 F 7 p pm o a.1 a.2) sFuel (nI 0, M) <;> rfl
    try dsimp only
    rw [eL]
    exact this)
  intro M hT hA
  have := main M hT hA
  have er : f_X5_readBoth F 7 p pm o M = (F 2 7 p pm o 0 M).bind fun M6 => f_X5_readBoth_L11 F 7 p pm o 0 M6 := by
    unfold f_X5_readBoth; rw [sr7 hT.1]
  dsimp only at this ⊢
  rw [er]; exact this
end CY
