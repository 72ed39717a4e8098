/-! ACTS: what both remember -/
section ACA
variable {M N : sMem} {D Do G P E C W k e c g m s n pc pn : Nat} {c0 c1 c2 : List Nat} {w w' : Nat → Int32} {u : Nat → Nat → Int32}
theorem SV.cw (h : SV w M s G E C) (hG : G ≤ 6) (hE : E ≤ 5) (hC : C ≤ 5) (hw : ∀ i, i < 27 → w' i = w i) : SV w' M s G E C := by
  obtain ⟨a1, a2, a3, a4⟩ := h
  refine ⟨by rw [hw 0 (by decide)]; exact a1, ?_, fun e he => by rw [hw _ (by omega)]; exact a3 e he, fun c hc => ?_⟩
  · rw [upF_cong (w := w) (fun g hg => hw _ (by omega))]; exact a2
  · rw [hw _ (by omega), hw _ (by omega), hw _ (by omega)]; exact a4 c hc
theorem WG.cw (h : WG w G P E C) (hE : E ≤ 5) (hC : C ≤ 5) (hw : ∀ i, i < 27 → w' i = w i) : WG w' G P E C := by
  obtain ⟨⟨d, a1, a2⟩, a3, a4, a5⟩ := h
  refine ⟨⟨d, a1, by rw [hw 0 (by decide)]; exact a2⟩, fun g hg => by rw [hw _ (by omega)]; exact a3 g hg, fun e he => ?_, fun c hc => ?_⟩
  · have e1 : LF w' e = LF w e := by unfold LF; rw [hw _ (by omega)]
    rw [e1, hw _ (by omega)]; exact a4 e he
  · have e1 : atS w' c = atS w c := by unfold atS; rw [hw _ (by omega)]
    have e2 : gaS w' c = gaS w c := by unfold gaS; rw [hw _ (by omega)]
    rw [e1, e2, hw _ (by omega), hw _ (by omega), hw _ (by omega)]; exact a5 c hc
theorem StS.n8 (h : StS M s) {d : Nat} (h1 : 1 ≤ d) (h5 : d ≤ 5) : M.1[s + d]? ≠ some (8, 8) := by
  obtain ⟨⟨_, a1, a2, a3, a4, a5⟩, _⟩ := h
  match d, h1, h5 with
  | 1, _, _ => rw [a1]; simp
  | 2, _, _ => rw [a2]; simp
  | 3, _, _ => rw [a3]; simp
  | 4, _, _ => rw [a4]; simp
  | 5, _, _ => rw [a5]; simp
theorem StS.dj {t : Nat} (h : StS M s) (h' : StS M t) (hne : s ≠ t) {i j : Nat} (hi : i ≤ 5) (hj : j ≤ 5) : s + i ≠ t + j := fun z => by
  rcases Nat.lt_or_ge s t with q | q
  · exact h.n8 (d := t - s) (by omega) (by omega) (by rw [show s + (t - s) = t by omega]; exact h'.1.1)
  · exact h'.n8 (d := s - t) (by omega) (by omega) (by rw [show t + (s - t) = s by omega]; exact h.1.1)
/-- a new State -/
theorem c_initS (hl : 187 ≤ M.1.length) : ∃ N, f_X8_init (sLen M) (sNew 8 8 M) = some N ∧ FrA (fun _ _ => false) (fun _ _ => false) (fun a _ => decide (M.1.length ≤ a)) M N ∧ StS N (sLen M) ∧ N.1.length = M.1.length + 6 ∧ szS N.1 = szS M.1 + 154 := by
  have eL : sLen M = M.1.length := rfl
  obtain ⟨A1, e1⟩ : ∃ A, A = wrR (sNew 14 5 (sNew 8 8 M)) (sLen M) 2 (some (sLen M + 1)) := ⟨_, rfl⟩
  obtain ⟨A2, e2⟩ : ∃ A, A = wrR (sNew 14 5 A1) (sLen M) 3 (some (sLen M + 2)) := ⟨_, rfl⟩
  obtain ⟨A3, e3⟩ : ∃ A, A = wrR (sNew 14 5 A2) (sLen M) 4 (some (sLen M + 3)) := ⟨_, rfl⟩
  obtain ⟨A4, e4⟩ : ∃ A, A = wrR (sNew 14 5 A3) (sLen M) 5 (some (sLen M + 4)) := ⟨_, rfl⟩
  obtain ⟨A5, e5⟩ : ∃ A, A = wrR (sNew 14 120 A4) (sLen M) 6 (some (sLen M + 5)) := ⟨_, rfl⟩
  have l0 : sLen (sNew 8 8 M) = sLen M + 1 := by show (M.1 ++ [(8, 8)]).length = _; rw [List.length_append]; rfl
  have l1 : sLen A1 = sLen M + 2 := by rw [e1]; show ((sNew 8 8 M).1 ++ [(14, 5)]).length = _; rw [List.length_append]; show sLen (sNew 8 8 M) + 1 = _; rw [l0]
  have l2 : sLen A2 = sLen M + 3 := by rw [e2]; show (A1.1 ++ [(14, 5)]).length = _; rw [List.length_append]; show sLen A1 + 1 = _; rw [l1]
  have l3 : sLen A3 = sLen M + 4 := by rw [e3]; show (A2.1 ++ [(14, 5)]).length = _; rw [List.length_append]; show sLen A2 + 1 = _; rw [l2]
  have l4 : sLen A4 = sLen M + 5 := by rw [e4]; show (A3.1 ++ [(14, 5)]).length = _; rw [List.length_append]; show sLen A3 + 1 = _; rw [l3]
  have l5 : sLen A5 = sLen M + 6 := by rw [e5]; show (A4.1 ++ [(14, 120)]).length = _; rw [List.length_append]; show sLen A4 + 1 = _; rw [l4]
  have s0 : (sNew 8 8 M).1[sLen M]? = some (8, 8) := sNew_me (M := M)
  have s1 : A1.1[sLen M]? = some (8, 8) := by rw [e1]; exact sNew_sh s0
  have s2 : A2.1[sLen M]? = some (8, 8) := by rw [e2]; exact sNew_sh s1
  have s3 : A3.1[sLen M]? = some (8, 8) := by rw [e3]; exact sNew_sh s2
  have s4 : A4.1[sLen M]? = some (8, 8) := by rw [e4]; exact sNew_sh s3
  have s5 : A5.1[sLen M]? = some (8, 8) := by rw [e5]; exact sNew_sh s4
  have t1 : A1.1[sLen M + 1]? = some (14, 5) := by rw [e1, ← l0]; exact sNew_me (M := sNew 8 8 M)
  have t2 : A2.1[sLen M + 2]? = some (14, 5) := by rw [e2, ← l1]; exact sNew_me (M := A1)
  have t3 : A3.1[sLen M + 3]? = some (14, 5) := by rw [e3, ← l2]; exact sNew_me (M := A2)
  have t4 : A4.1[sLen M + 4]? = some (14, 5) := by rw [e4, ← l3]; exact sNew_me (M := A3)
  have t5 : A5.1[sLen M + 5]? = some (14, 120) := by rw [e5, ← l4]; exact sNew_me (M := A4)
  have u2 : ∀ {a : Nat} {q : Nat × Nat}, A1.1[a]? = some q → A2.1[a]? = some q := fun z => by rw [e2]; exact sNew_sh z
  have u3 : ∀ {a : Nat} {q : Nat × Nat}, A2.1[a]? = some q → A3.1[a]? = some q := fun z => by rw [e3]; exact sNew_sh z
  have u4 : ∀ {a : Nat} {q : Nat × Nat}, A3.1[a]? = some q → A4.1[a]? = some q := fun z => by rw [e4]; exact sNew_sh z
  have u5 : ∀ {a : Nat} {q : Nat × Nat}, A4.1[a]? = some q → A5.1[a]? = some q := fun z => by rw [e5]; exact sNew_sh z
  have r2 : ∀ k, k ≠ 3 → A2.2.2.2 (sLen M) k = A1.2.2.2 (sLen M) k := fun k hk => by rw [e2, wrR_get, if_neg (by omega)]; exact sNew_r (M := A1) (by show sLen M < sLen A1; omega)
  have r3 : ∀ k, k ≠ 4 → A3.2.2.2 (sLen M) k = A2.2.2.2 (sLen M) k := fun k hk => by rw [e3, wrR_get, if_neg (by omega)]; exact sNew_r (M := A2) (by show sLen M < sLen A2; omega)
  have r4 : ∀ k, k ≠ 5 → A4.2.2.2 (sLen M) k = A3.2.2.2 (sLen M) k := fun k hk => by rw [e4, wrR_get, if_neg (by omega)]; exact sNew_r (M := A3) (by show sLen M < sLen A3; omega)
  have r5 : ∀ k, k ≠ 6 → A5.2.2.2 (sLen M) k = A4.2.2.2 (sLen M) k := fun k hk => by rw [e5, wrR_get, if_neg (by omega)]; exact sNew_r (M := A4) (by show sLen M < sLen A4; omega)
  have hR : ∀ k, (fun a (_ : Nat) => decide (M.1.length ≤ a)) (sLen M) k = true := fun k => decide_eq_true (Nat.le_refl _)
  have F1 : FrA (fun _ _ => false) (fun _ _ => false) (fun a _ => decide (M.1.length ≤ a)) M A1 := by rw [e1]; exact ((FrA.rf.new).new).wr (hR 2)
  have F2 : FrA (fun _ _ => false) (fun _ _ => false) (fun a _ => decide (M.1.length ≤ a)) M A2 := by rw [e2]; exact (F1.new).wr (hR 3)
  have F3 : FrA (fun _ _ => false) (fun _ _ => false) (fun a _ => decide (M.1.length ≤ a)) M A3 := by rw [e3]; exact (F2.new).wr (hR 4)
  have F4 : FrA (fun _ _ => false) (fun _ _ => false) (fun a _ => decide (M.1.length ≤ a)) M A4 := by rw [e4]; exact (F3.new).wr (hR 5)
  have F5 : FrA (fun _ _ => false) (fun _ _ => false) (fun a _ => decide (M.1.length ≤ a)) M A5 := by rw [e5]; exact (F4.new).wr (hR 6)
  refine ⟨A5, ?_, F5, ⟨⟨s5, u5 (u4 (u3 (u2 t1))), u5 (u4 (u3 t2)), u5 (u4 t3), u5 t4, t5⟩, ?_, ?_, ?_, ?_, ?_⟩, l5, ?_⟩
  · unfold f_X8_init
    rw [show nA 14 (sNew 8 8 M) 5 = some (sLen (sNew 8 8 M), sNew 14 5 (sNew 8 8 M)) from nA_n (n := 5) (by decide)]
    dsimp only [Option.bind_some]
    rw [l0, pR_of (M := sNew 14 5 (sNew 8 8 M)) (sNew_sh s0), Option.bind_some, ← e1, show nA 14 A1 5 = some (sLen A1, sNew 14 5 A1) from nA_n (n := 5) (by decide)]
    dsimp only [Option.bind_some]
    rw [l1, pR_of (M := sNew 14 5 A1) (sNew_sh s1), Option.bind_some, ← e2, show nA 14 A2 5 = some (sLen A2, sNew 14 5 A2) from nA_n (n := 5) (by decide)]
    dsimp only [Option.bind_some]
    rw [l2, pR_of (M := sNew 14 5 A2) (sNew_sh s2), Option.bind_some, ← e3, show nA 14 A3 5 = some (sLen A3, sNew 14 5 A3) from nA_n (n := 5) (by decide)]
    dsimp only [Option.bind_some]
    rw [l3, pR_of (M := sNew 14 5 A3) (sNew_sh s3), Option.bind_some, ← e4, show nA 14 A4 120 = some (sLen A4, sNew 14 120 A4) from nA_n (n := 120) (by decide)]
    dsimp only [Option.bind_some]
    rw [l4, pR_of (M := sNew 14 120 A4) (sNew_sh s4), Option.bind_some, ← e5]
  · rw [r5 _ (by decide), r4 _ (by decide), r3 _ (by decide), r2 _ (by decide), e1, wrR_get, if_pos ⟨rfl, rfl⟩]
  · rw [r5 _ (by decide), r4 _ (by decide), r3 _ (by decide), e2, wrR_get, if_pos ⟨rfl, rfl⟩]
  · rw [r5 _ (by decide), r4 _ (by decide), e3, wrR_get, if_pos ⟨rfl, rfl⟩]
  · rw [r5 _ (by decide), e4, wrR_get, if_pos ⟨rfl, rfl⟩]
  · rw [e5, wrR_get, if_pos ⟨rfl, rfl⟩]
  · have z5 : szS A5.1 = szS A4.1 + 121 := by rw [e5]; exact szS_app A4.1 (14, 120)
    have z4 : szS A4.1 = szS A3.1 + 6 := by rw [e4]; exact szS_app A3.1 (14, 5)
    have z3 : szS A3.1 = szS A2.1 + 6 := by rw [e3]; exact szS_app A2.1 (14, 5)
    have z2 : szS A2.1 = szS A1.1 + 6 := by rw [e2]; exact szS_app A1.1 (14, 5)
    have z1 : szS A1.1 = szS (sNew 8 8 M).1 + 6 := by rw [e1]; exact szS_app (sNew 8 8 M).1 (14, 5)
    have z0 : szS (sNew 8 8 M).1 = szS M.1 + 9 := szS_app M.1 (8, 8)
    omega
/-- a place for what is remembered -/
def RmS (M N : sMem) (s pn : Nat) : Prop :=
  (∀ (a : Nat) (q : Nat × Nat), M.1[a]? = some q → N.1[a]? = some q) ∧ (∀ a k, a < M.1.length → ¬ (s ≤ a ∧ a ≤ s + 5) → ¬ (a = 0 ∧ (k = 7 ∨ k = 8)) → N.2.1 a k = M.2.1 a k) ∧ (∀ a k, a < M.1.length → N.2.2.1 a k = M.2.2.1 a k) ∧ (∀ a k, a < M.1.length → ¬ (a = 66 ∧ k = pn) → N.2.2.2 a k = M.2.2.2 a k) ∧ (187 ≤ s ∧ StS N s ∧ N.2.2.2 66 pn = some s) ∧ (∀ j, j < 20 → j ≠ pn → M.2.2.2 66 j ≠ some s) ∧ Phi N ≤ Phi M
theorem RmS.hc (h : RmS M N s pn) (hc : ClsS M.1 M.2.2.2) : ClsS N.1 N.2.2.2 := by
  refine ⟨fun q hq => h.1 _ _ (hc.1 q hq), fun q hq => ?_⟩
  have hm : ∀ q ∈ clsRf, q.1 < 94 ∧ q.1 ≠ 66 := by decide
  have h1 := hm q hq
  have := lt_of_sh (cs93 hc)
  rw [h.2.2.2.1 _ _ (by omega) (by omega)]
  exact hc.2 q hq
theorem RmS.hs (h : RmS M N s pn) (hs : RefS M.1 M.2.2.2) : RefS N.1 N.2.2.2 := by
  refine ⟨fun q hq => h.1 _ _ (hs.1 q hq), fun q hq => ?_⟩
  rw [h.2.2.2.1 _ _ (lt_of_sh (rs94 hs)) (by omega)]
  exact hs.2 q hq
theorem RmS.len (h : RmS M N s pn) : M.1.length ≤ N.1.length := by
  rcases Nat.eq_zero_or_pos M.1.length with h0 | h0
  · omega
  · have := lt_of_sh (h.1 (M.1.length - 1) _ (List.getElem?_eq_getElem (by omega)))
    omega
theorem c_rem (hc : ClsS M.1 M.2.2.2) (hl : 187 ≤ M.1.length) (hp : I_ps M) (hpn : pn < 20) (hpc : pc ≤ 20) (h7 : M.2.1 0 7 = nI pc) (h8 : M.2.1 0 8 = nI pn) : ∃ N s, f_X11_remember 0 M = some N ∧ RmS M N s pn ∧ (N.2.1 0 7 = nI (min 20 (pc + 1)) ∧ N.2.1 0 8 = nI ((pn + 1) % 20)) ∧ (N.2.1 s 0 = M.2.1 54 0 ∧ N.2.1 s 1 = M.2.1 54 1 ∧ N.2.1 s 7 = M.2.1 54 7) ∧ (∀ j k, 1 ≤ j → j ≤ 4 → k < 5 → N.2.1 (s + j) k = M.2.1 (54 + j) k) ∧ ∀ k, k < 120 → N.2.1 (s + 5) k = M.2.1 59 k := by
  -- there being a place
  have fin : ∀ (M' : sMem) (s : Nat), RmS M M' s pn → (∀ a k, a < M.1.length → M'.2.1 a k = M.2.1 a k) → ∃ N, f_X11_remember_B28 0 M' = some N ∧ RmS M N s pn ∧ (N.2.1 0 7 = nI (min 20 (pc + 1)) ∧ N.2.1 0 8 = nI ((pn + 1) % 20)) ∧ (N.2.1 s 0 = M.2.1 54 0 ∧ N.2.1 s 1 = M.2.1 54 1 ∧ N.2.1 s 7 = M.2.1 54 7) ∧ (∀ j k, 1 ≤ j → j ≤ 4 → k < 5 → N.2.1 (s + j) k = M.2.1 (54 + j) k) ∧ ∀ k, k < 120 → N.2.1 (s + 5) k = M.2.1 59 k := by
    intro M' s hR hv
    have hc' := hR.hc hc
    obtain ⟨r1, r2, r3, r4, ⟨r5, r6, r7⟩, r8, r9⟩ := hR
    obtain ⟨N1, a1, a2, a3, a4, a5⟩ := c_copy (M := M') (s := s) (t := 54) r6 (StS54 hc') (fun i j hi hj => by omega)
    have hc1 := a2.hc hc'
    have i1 : ∀ a k, ¬ (s ≤ a ∧ a ≤ s + 5) → N1.2.1 a k = M'.2.1 a k := fun a k h => a2.i (pSt_no h)
    obtain ⟨N2, n2⟩ : ∃ N2, N2 = wrI N1 0 8 (nI ((pn + 1) % 20)) := ⟨_, rfl⟩
    have hc2 : ClsS N2.1 N2.2.2.2 := by rw [n2]; exact hc1
    have e8 : N1.2.1 0 8 = nI pn := by rw [i1 _ _ (by omega), hv _ _ (by omega)]; exact h8
    have e7 : N2.2.1 0 7 = nI pc := by rw [n2, wrI_ne (by omega), i1 _ _ (by omega), hv _ _ (by omega)]; exact h7
    have emin : f_J9_min_7cf53 20 (nI pc + 1) N2 = some (nI (min 20 (pc + 1))) := by
      unfold f_J9_min_7cf53
      rw [nI_1]
      by_cases q : pc + 1 < 20
      · rw [if_pos (by rw [show (20 : Int32) = nI 20 from rfl, clt (by omega) (by decide)]; exact q), show min 20 (pc + 1) = pc + 1 by omega]
      · rw [if_neg (by rw [show (20 : Int32) = nI 20 from rfl, clt (by omega) (by decide)]; exact q), show min 20 (pc + 1) = 20 by omega]
        rfl
    unfold f_X11_remember_B28
    rw [gr0_6 hc', Option.bind_some, gi0 hc', Option.bind_some, hv _ _ (by omega), h8, ldN_n (cs66 hc') hpn (by decide) r7, Option.bind_some, gr0_4 hc', Option.bind_some, a1, Option.bind_some, gi0 hc1, Option.bind_some, e8, nI_1, show nI (pn + 1) - nI (pn + 1) / (20 : Int32) * (20 : Int32) = nI ((pn + 1) % 20) from pk_rem (d := 20) (by omega) (by decide) (by decide), pi0 hc1, Option.bind_some, ← n2, gi0 hc2, Option.bind_some, e7, emin, Option.bind_some, pi0 hc2, Option.bind_some]
    have i2 : ∀ a k, ¬ (a = 0 ∧ (k = 7 ∨ k = 8)) → (wrI N2 0 7 (nI (min 20 (pc + 1)))).2.1 a k = N1.2.1 a k := fun a k h => by rw [wrI_ne (by omega), n2, wrI_ne (by omega)]
    have shp : (wrI N2 0 7 (nI (min 20 (pc + 1)))).1 = M'.1 := by rw [n2]; exact a2.1
    have rfe : (wrI N2 0 7 (nI (min 20 (pc + 1)))).2.2.2 = M'.2.2.2 := by rw [n2]; exact a2.2.1
    refine ⟨_, rfl, ⟨fun a q z => by rw [shp]; exact r1 a q z, fun a k h1 h2 h3 => ?_, fun a k h1 => ?_, fun a k h1 h2 => by rw [rfe]; exact r4 a k h1 h2, ⟨r5, ?_, by rw [rfe]; exact r7⟩, r8, ?_⟩, ⟨wrI_eq, ?_⟩, ⟨?_, ?_, ?_⟩, fun j k h1 h2 h3 => ?_, fun k hk => ?_⟩
    · rw [i2 _ _ h3, i1 _ _ h2]; exact hv a k h1
    · have : (wrI N2 0 7 (nI (min 20 (pc + 1)))).2.2.1 a k = N1.2.2.1 a k := by rw [n2]; rfl
      rw [this, a2.j rfl]; exact r3 a k h1
    · exact r6.sm (fun a q z => by rw [shp]; exact z) (fun k => by rw [rfe])
    · have : Phi (wrI N2 0 7 (nI (min 20 (pc + 1)))) = Phi M' := by unfold Phi; rw [shp, rfe]
      rw [this]; exact r9
    · rw [wrI_ne (by omega), n2, wrI_eq]
    · rw [i2 _ _ (by omega), a3.1]; exact hv _ _ (by omega)
    · rw [i2 _ _ (by omega), a3.2.1]; exact hv _ _ (by omega)
    · rw [i2 _ _ (by omega), a3.2.2]; exact hv _ _ (by omega)
    · rw [i2 _ _ (by omega), a4 j k h1 h2 h3]; exact hv _ _ (by omega)
    · rw [i2 _ _ (by omega), a5 k hk]; exact hv _ _ (by omega)
  unfold f_X11_remember
  rw [sr0 hc, gr0_6 hc, Option.bind_some, gi0 hc, Option.bind_some, h8, ldR_n (cs66 hc) hpn (by decide), Option.bind_some]
  cases hr : M.2.2.2 66 pn with
  | some s =>
    dsimp only
    obtain ⟨p1, p2⟩ := hp.1 pn s hpn hr
    obtain ⟨N, b1, b2⟩ := fin M s ⟨fun _ _ z => z, fun _ _ _ _ _ => rfl, fun _ _ _ => rfl, fun _ _ _ _ => rfl, ⟨p1, p2, hr⟩, fun j hj hne z => hne (hp.2 j pn s hj hpn z hr), Nat.le_refl _⟩ (fun _ _ _ => rfl)
    exact ⟨N, s, b1, b2⟩
  | none =>
    dsimp only
    obtain ⟨A, a1, a2, a3, a4, a5⟩ := c_initS hl
    have hcA : ClsS A.1 A.2.2.2 := a2.hc (fun q hq => decide_eq_false (by
      have hm : ∀ q ∈ clsRf, q.1 < 94 := by decide
      have := hm q hq
      omega)) hc
    have eL : sLen M = M.1.length := rfl
    rw [Option.bind_some, Option.bind_some, a1, Option.bind_some, stR_n (cs66 hcA) hpn (by decide) a3.1.1, Option.bind_some]
    have rA : ∀ a k, a < M.1.length → A.2.2.2 a k = M.2.2.2 a k := fun a k h => a2.2.2.2 a k h (decide_eq_false (by omega))
    have iA : ∀ a k, a < M.1.length → A.2.1 a k = M.2.1 a k := fun a k h => a2.2.1 a k h rfl
    have hPhi : Phi (wrR A 66 pn (some (sLen M))) ≤ Phi M := by
      unfold Phi
      have e1 : cntN (fun w => ((wrR A 66 pn (some (sLen M))).2.2.2 77 w).isNone) 500 = cntN (fun w => (M.2.2.2 77 w).isNone) 500 := cntN_cong (fun i _ => by
        rw [wrR_get, if_neg (by omega), rA _ _ (by omega)])
      have e2 : cntN (fun i => (M.2.2.2 66 i).isNone) 20 = cntN (fun i => ((wrR A 66 pn (some (sLen M))).2.2.2 66 i).isNone) 20 + 1 := by
        refine cntN_off hpn (by rw [hr]; rfl) ?_ (fun i hi => ?_)
        · rw [wrR_get, if_pos ⟨rfl, rfl⟩]; rfl
        · rw [wrR_get, if_neg (fun z => hi z.2), rA _ _ (by omega)]
      have e3 : (wrR A 66 pn (some (sLen M))).1 = A.1 := rfl
      rw [e1, e2, e3, a5]
      omega
    obtain ⟨N, b1, b2⟩ := fin (wrR A 66 pn (some (sLen M))) (sLen M) ⟨fun a q z => a2.1 a q z, fun a k h1 _ _ => iA a k h1, fun a k h1 => a2.2.2.1 a k h1 rfl, fun a k h1 h2 => by rw [wrR_get, if_neg h2]; exact rA a k h1, ⟨by omega, a3.sm (N := wrR A 66 pn (some (sLen M))) (fun _ _ z => z) (fun k => by rw [wrR_get, if_neg (by omega)]), by rw [wrR_get, if_pos ⟨rfl, rfl⟩]⟩, fun j hj hne z => by
        have := lt_of_sh (hp.1 j _ hj z).2.1.1
        omega, hPhi⟩ (fun a k h => iA a k h)
    exact ⟨N, sLen M, b1, b2⟩
theorem Phi_Pot (hA : PA M) (hsh : ∀ (a : Nat) (q : Nat × Nat), M.1[a]? = some q → N.1[a]? = some q) (hr : ∀ p ∈ prgL, N.2.2.2 p 0 = M.2.2.2 p 0) (h : Phi N ≤ Phi M) : Pot N ≤ Pot M := by
  unfold Pot
  have h2 : (prgL.map fun p => 2048 - capP N p).sum ≤ (prgL.map fun p => 2048 - capP M p).sum := sum_le (fun p hp => by
    obtain ⟨a1, q, m, s, a2, a3, _⟩ := hA.2.1 p hp
    have : capP N p = capP M p := by
      unfold capP
      rw [hr p hp, a2]
      dsimp only
      rw [a3, hsh _ _ a3]
    rw [this]; exact Nat.le_refl _)
  omega
/-- the reference keeps what is now -/
def pKe (r : Nat) : Nat → Nat → Bool := fun a k => (a == 155 && decide (148 * r ≤ k) && decide (k < 148 * r + 148)) || (a == 94 && (k == 85 || k == 86))
theorem r_keeps (hs : RefS M.1 M.2.2.2) (hpn : pn < 20) (hpc : pc ≤ 20) (h85 : M.2.1 94 85 = nI pc) (h86 : M.2.1 94 86 = nI pn) : ∃ N, f_X12_keeps 94 M = some N ∧ Fr (pKe ((pn + 1) % 20)) q0 M N ∧ N.2.1 94 85 = nI (min 20 (pc + 1)) ∧ N.2.1 94 86 = nI ((pn + 1) % 20) ∧ ∀ i, i < 148 → N.2.1 155 (148 * ((pn + 1) % 20) + i) = M.2.1 140 i := by
  have hr : (pn + 1) % 20 < 20 := Nat.mod_lt _ (by decide)
  unfold f_X12_keeps f_X12_keeps_L15
  rw [sr94 hs, gi94 hs, Option.bind_some, h86, nI_1, show nI (pn + 1) - nI (pn + 1) / (20 : Int32) * (20 : Int32) = nI ((pn + 1) % 20) from pk_rem (d := 20) (by omega) (by decide) (by decide), pi94 hs, Option.bind_some]
  generalize hrr : (pn + 1) % 20 = r at *
  obtain ⟨N, b1, b2, b3, b4, b5⟩ := itr_up (f := fun a : (Int32 × sMem) => f_X12_keeps_K15 94 a.1 a.2) (fun i N => Fr (pKe r) q0 M N ∧ N.2.1 94 85 = nI pc ∧ N.2.1 94 86 = nI r ∧ ∀ j, j < i → N.2.1 155 (148 * r + j) = M.2.1 140 j) (fun N => Fr (pKe r) q0 M N ∧ N.2.1 94 85 = nI pc ∧ N.2.1 94 86 = nI r ∧ ∀ j, j < 148 → N.2.1 155 (148 * r + j) = M.2.1 140 j) 148 (by decide) (by
    rintro i N hi ⟨i1, i2, i3, i4⟩
    dsimp only
    unfold f_X12_keeps_K15
    by_cases q : i = 148
    · right
      subst q
      rw [if_pos (by decide)]
      exact ⟨N, rfl, i1, i2, i3, i4⟩
    · left
      have hsN := i1.hs hs
      rw [if_neg (by rw [show (148 : Int32) = nI 148 from rfl, cle (by decide) (by omega)]; omega), gr94_84 hsN, Option.bind_some, gi94 hsN, Option.bind_some, i3, gr94_59 hsN, Option.bind_some, ld140 hsN (by omega), Option.bind_some, show (148 : Int32) * nI r + nI i = nI (148 * r + i) from (by rw [show (148 : Int32) = nI 148 from rfl, pk_mul, nI_add]), st155 hsN (by omega), Option.bind_some, nI_1]
      refine ⟨by omega, _, rfl, i1.wi ?_, by rw [wrI_ne (by omega)]; exact i2, by rw [wrI_ne (by omega)]; exact i3, fun j hj => ?_⟩
      · unfold pKe
        rw [decide_eq_true (show 148 * r ≤ 148 * r + i by omega), decide_eq_true (show 148 * r + i < 148 * r + 148 by omega)]
        rfl
      · by_cases w : j = i
        · subst w; rw [wrI_eq]; exact i1.i rfl
        · rw [wrI_ne (by omega)]; exact i4 j (by omega)) (i := 0) (s := wrI M 94 86 (nI r)) (by decide) ⟨Fr.rf.wi rfl, by rw [wrI_ne (by omega)]; exact h85, wrI_eq, fun j hj => by omega⟩
  replace b1 : sItr (fun a : (Int32 × sMem) => f_X12_keeps_K15 94 a.1 a.2) sFuel (0, wrI M 94 86 (nI r)) = some N := b1
  rw [b1, Option.bind_some]
  have hsN := b2.hs hs
  unfold f_X12_keeps_B49
  rw [gi94 hsN, Option.bind_some, b3]
  by_cases q : 20 ≤ pc
  · rw [if_pos (by rw [show (20 : Int32) = nI 20 from rfl, cle (by decide) (by omega)]; exact q)]
    exact ⟨N, rfl, b2, by rw [b3, show min 20 (pc + 1) = pc by omega], b4, b5⟩
  · rw [if_neg (by rw [show (20 : Int32) = nI 20 from rfl, cle (by decide) (by omega)]; exact q), Option.bind_some, nI_1, pi94 hsN, Option.bind_some]
    exact ⟨_, rfl, b2.wi rfl, by rw [wrI_eq, show min 20 (pc + 1) = pc + 1 by omega], by rw [wrI_ne (by omega)]; exact b4, fun i hi => by rw [wrI_ne (by omega)]; exact b5 i hi⟩
end ACA
