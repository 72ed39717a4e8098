/-! CALLS: on, what the class reads -/
section ONA
variable {M N : sMem} {D n : Nat}
theorem c_begin60 (hc : ClsS M.1 M.2.2.2) (hD : D = 10 ∨ D = 32) (hn : M.2.1 (D + 13) 3 = nI n) (hn5 : n ≤ 5) : ∃ N, f_X8_start 60 D M = some N ∧ N.1 = M.1 ∧ N.2.2 = M.2.2 ∧ (∀ a k, ¬ (60 ≤ a ∧ a ≤ 64) → N.2.1 a k = M.2.1 a k) ∧ (N.2.1 60 0 = 0 ∧ N.2.1 60 1 = 0 ∧ N.2.1 60 7 = 0) ∧ (∀ k, k < 5 → N.2.1 61 k = 0 ∧ N.2.1 64 k = 0) ∧ ∀ c, c < n → N.2.1 62 c = M.2.1 (D + 15) (4 * c + 0) ∧ N.2.1 63 c = M.2.1 (D + 15) (4 * c + 1) := by
  unfold f_X8_start
  obtain ⟨M1, m1⟩ : ∃ M1, M1 = wrI (wrI (wrI M 60 0 0) 60 1 0) 60 7 0 := ⟨_, rfl⟩
  have c1 : ClsS M1.1 M1.2.2.2 := by rw [m1]; exact hc
  have v1 : ∀ a k, M1.2.1 a k = if a = 60 ∧ k = 7 then 0 else if a = 60 ∧ k = 1 then 0 else if a = 60 ∧ k = 0 then 0 else M.2.1 a k := fun a k => by rw [m1, wrI_get, wrI_get, wrI_get]
  obtain ⟨M2, f1, f2, f3⟩ := fillI (cs61 c1) (by decide) 0
  have c2 := f2.hc c1
  obtain ⟨M3, g1, g2, g3⟩ := fillI (cs64 c2) (by decide) 0
  have c3 := g2.hc c2
  rw [sr60 hc, pI_of (cs60 hc), Option.bind_some, pI_of (M := wrI M 60 0 0) (cs60 hc), Option.bind_some, pI_of (M := wrI (wrI M 60 0 0) 60 1 0) (cs60 hc), Option.bind_some, ← m1, gr60_2 c1, Option.bind_some, f1, Option.bind_some, gr60_5 c2, Option.bind_some, g1, Option.bind_some]
  have v3 : ∀ a k, a ≠ 61 → a ≠ 64 → M3.2.1 a k = M1.2.1 a k := fun a k h1 h2 => by rw [g2.i (show (a == 64) = false from beq_eq_false_iff_ne.mpr h2), f2.i (show (a == 61) = false from beq_eq_false_iff_ne.mpr h1)]
  have hb : M3.1 = M.1 ∧ M3.2.2.2 = M.2.2.2 := ⟨by rw [g2.1, f2.1, m1]; rfl, by rw [g2.2.1, f2.2.1, m1]; rfl⟩
  have hj : M3.2.2.1 = M.2.2.1 := by funext a k; rw [g2.j rfl, f2.j rfl, m1]; rfl
  unfold f_X8_start_L33
  obtain ⟨r, r1, r2, r3, r4, r5, r6⟩ := itr_g (f := fun a : Int32 × sMem => f_X8_start_K33 60 D a.1 a.2) (fun k s => (nI k, s)) (fun k s => s.1 = M.1 ∧ s.2.2.2 = M.2.2.2 ∧ s.2.2.1 = M.2.2.1 ∧ (∀ a j, ¬ (a = 62 ∨ a = 63) → s.2.1 a j = M3.2.1 a j) ∧ ∀ c, c < k → c < n → s.2.1 62 c = M.2.1 (D + 15) (4 * c + 0) ∧ s.2.1 63 c = M.2.1 (D + 15) (4 * c + 1)) (fun s => s.1 = M.1 ∧ s.2.2.2 = M.2.2.2 ∧ s.2.2.1 = M.2.2.1 ∧ (∀ a j, ¬ (a = 62 ∨ a = 63) → s.2.1 a j = M3.2.1 a j) ∧ ∀ c, c < n → s.2.1 62 c = M.2.1 (D + 15) (4 * c + 0) ∧ s.2.1 63 c = M.2.1 (D + 15) (4 * c + 1)) 5 (by decide) (fun k s hk hI => by
    obtain ⟨i1, i2, i3, i4, i5⟩ := hI
    have hcs : ClsS s.1 s.2.2.2 := by rw [i1, i2]; exact hc
    dsimp only
    unfold f_X8_start_K33
    by_cases q : k < 5
    · left
      refine ⟨q, ?_⟩
      have vD : ∀ a j, D + 13 ≤ a → a ≤ D + 15 → s.2.1 a j = M.2.1 a j := fun a j h1 h2 => by rw [i4 _ _ (by omega), v3 _ _ (by omega) (by omega), v1, if_neg (by omega), if_neg (by omega), if_neg (by omega)]
      have hns : s.2.1 (D + 13) 3 = nI n := by rw [vD _ _ (by omega) (by omega)]; exact hn
      obtain ⟨S1, t1⟩ : ∃ S1, S1 = wrI s 62 k (if k < n then s.2.1 (D + 15) (4 * k + 0) else -1) := ⟨_, rfl⟩
      have hcs1 : ClsS S1.1 S1.2.2.2 := by rw [t1]; exact hcs
      have hns1 : S1.2.1 (D + 13) 3 = nI n := by rw [t1, wrI_ne (by omega)]; exact hns
      rw [if_neg (by rw [show (5 : Int32) = nI 5 from rfl, cle (by decide) (by omega)]; omega), gr60_3 hcs, Option.bind_some, grD_5 hcs hD, Option.bind_some, show (0 : Int32) = nI 0 from rfl, cell_any hcs hD hns hn5 q (by decide), Option.bind_some, stI_n (cs62 hcs) q (by decide), Option.bind_some, ← t1, gr60_4 hcs1, Option.bind_some, grD_5 hcs1 hD, Option.bind_some, show f_X9_cell (D + 13) (nI k) 1 S1 = _ from cell_any (k := 1) hcs1 hD hns1 hn5 q (by decide), Option.bind_some, stI_n (cs63 hcs1) q (by decide), Option.bind_some, nI_1]
      refine ⟨_, rfl, by rw [show (wrI S1 63 k _).1 = S1.1 from rfl, t1]; exact i1, by rw [t1]; exact i2, by rw [t1]; exact i3, fun a j h => ?_, fun c hck hcn => ?_⟩
      · rw [wrI_ne (by omega), t1, wrI_ne (by omega)]; exact i4 a j h
      · by_cases w : c = k
        · subst w
          refine ⟨?_, ?_⟩
          · rw [wrI_ne (by omega), t1, wrI_eq, if_pos hcn, vD _ _ (by omega) (by omega)]
          · rw [wrI_eq, if_pos hcn, t1, wrI_ne (by omega), vD _ _ (by omega) (by omega)]
        · rw [wrI_ne (by omega), wrI_ne (by omega), t1, wrI_ne (by omega), wrI_ne (by omega)]
          exact i5 c (by omega) hcn
    · right
      have hkn : k = 5 := by omega
      subst hkn
      rw [if_pos (by decide)]
      exact ⟨s, rfl, i1, i2, i3, i4, fun c hcn => i5 c (by omega) hcn⟩) (i := 0) (s := M3) (by decide) ⟨hb.1, hb.2, hj, fun a j _ => rfl, fun c h => by omega⟩
  replace r1 : sItr (fun a : Int32 × sMem => f_X8_start_K33 60 D a.1 a.2) sFuel (0, M3) = some r := r1
  rw [r1]
  have k60 : ∀ j, r.2.1 60 j = M1.2.1 60 j := fun j => by rw [r5 _ _ (by omega), v3 _ _ (by omega) (by omega)]
  refine ⟨r, rfl, r2, Prod.ext r4 r3, fun a k h => ?_, ⟨?_, ?_, ?_⟩, fun k hk => ⟨?_, ?_⟩, r6⟩
  · rw [r5 _ _ (by omega), v3 _ _ (by omega) (by omega), v1, if_neg (by omega), if_neg (by omega), if_neg (by omega)]
  · rw [k60, v1, if_neg (by omega), if_neg (by omega), if_pos (by omega)]
  · rw [k60, v1, if_neg (by omega), if_pos (by omega)]
  · rw [k60, v1, if_pos (by omega)]
  · rw [r5 _ _ (by omega), g2.i rfl, f3 k hk]
  · rw [r5 _ _ (by omega), g3 k hk]
end ONA
def onW (t : Nat → Nat) (G E C : Nat) (w : Nat → Int32) (i : Nat) : Int32 :=
  if i = 0 then nI (256 * t 0 + t 1) else if i < 7 then (if i - 1 < G then nI (t (2 + (i - 1))) else w i) else if i < 12 then (if i - 7 < E then nI (t (2 + G + (i - 7))) else w i)
  else if i < 27 then (if (i - 12) / 3 < C then (if (i - 12) % 3 = 0 then nI (t (2 + G + E + 4 * ((i - 12) / 3))) else if (i - 12) % 3 = 1 then nI (t (2 + G + E + 4 * ((i - 12) / 3) + 1)) else nI (256 * t (2 + G + E + 4 * ((i - 12) / 3) + 2) + t (2 + G + E + 4 * ((i - 12) / 3) + 3))) else w i) else w i
def gdCr (t : Nat → Nat) (G P E c : Nat) : Prop := t (2 + G + E + 4 * c) < P ∧ t (2 + G + E + 4 * c + 1) < P ∧ t (2 + G + E + 4 * c) ≠ t (2 + G + E + 4 * c + 1) ∧ 256 * t (2 + G + E + 4 * c + 2) + t (2 + G + E + 4 * c + 3) ≤ 999
def gdIm (t : Nat → Nat) (G P E C : Nat) : Prop := 256 * t 0 + t 1 ≤ 999 ∧ (∀ g, g < G → t (2 + g) ≤ 1) ∧ (∀ e, e < E → t (2 + G + e) ≤ 99) ∧ ∀ c, c < C → gdCr t G P E c
section ONB
variable {M N : sMem} {D Do G P E C W k e c g m s n pc pn : Nat} {c0 c1 c2 : List Nat} {t : Nat → Nat} {w : Nat → Int32}
theorem onW_0 : onW t G E C w 0 = nI (256 * t 0 + t 1) := if_pos rfl
theorem onW_g (hg : g < G) (hG : G ≤ 6) : onW t G E C w (1 + g) = nI (t (2 + g)) := by
  unfold onW
  rw [if_neg (by omega), if_pos (by omega), if_pos (by omega), show 1 + g - 1 = g by omega]
theorem onW_e (he : e < E) (hE : E ≤ 5) : onW t G E C w (7 + e) = nI (t (2 + G + e)) := by
  unfold onW
  rw [if_neg (by omega), if_neg (by omega), if_pos (by omega), if_pos (by omega), show 7 + e - 7 = e by omega]
theorem onW_c (hc : c < C) (hC : C ≤ 5) : onW t G E C w (12 + 3 * c) = nI (t (2 + G + E + 4 * c)) ∧ onW t G E C w (13 + 3 * c) = nI (t (2 + G + E + 4 * c + 1)) ∧ onW t G E C w (14 + 3 * c) = nI (256 * t (2 + G + E + 4 * c + 2) + t (2 + G + E + 4 * c + 3)) := by
  unfold onW
  refine ⟨?_, ?_, ?_⟩
  · rw [if_neg (by omega), if_neg (by omega), if_neg (by omega), if_pos (by omega), show (12 + 3 * c - 12) / 3 = c by omega, if_pos hc, if_pos (by omega)]
  · rw [if_neg (by omega), if_neg (by omega), if_neg (by omega), if_pos (by omega), show (13 + 3 * c - 12) / 3 = c by omega, if_pos hc, if_neg (by omega), if_pos (by omega)]
  · rw [if_neg (by omega), if_neg (by omega), if_neg (by omega), if_pos (by omega), show (14 + 3 * c - 12) / 3 = c by omega, if_pos hc, if_neg (by omega), if_neg (by omega)]
theorem c_pairAt (hc : ClsS M.1 M.2.2.2) (hC : CT (fun i => nI (t i)) n M) {k : Nat} (hk : k + 1 < n) : f_X11_pairAt 0 (nI k) M = some (nI (256 * t k + t (k + 1))) := by
  have b0 := c_byteAt hC (k := k) (by omega)
  have b1 := c_byteAt hC (k := k + 1) hk
  unfold f_X11_pairAt
  rw [sr0 hc, gr0_0 hc, Option.bind_some, b0, Option.bind_some, Option.bind_some, nI_1, b1, Option.bind_some, show (256 : Int32) = nI 256 from rfl, pk_mul, nI_add, Nat.mul_comm]
def pSt6 : Nat → Nat → Bool := pSt 60
theorem p6_n {a k : Nat} (h : ¬ (60 ≤ a ∧ a ≤ 65)) : pSt6 a k = false := pSt_no h
theorem p6_y {j k : Nat} (h : j ≤ 5) : pSt6 (60 + j) k = true := pSt_y h
/-- a car's image -/
theorem c_readC (k0 : KI M D G P E C W c0 c1 c2) (hC : CT (fun i => nI (t i)) n M) (ht : ∀ i, i < n → t i < 256) (hn : n = 3 + G + E + 4 * C) (hcC : c < C) : ∃ x N, f_X11_readCarImage 0 (nI c) (nI (2 + G + E + 4 * c)) M = some (x, N) ∧ Fr pSt6 q0 M N ∧ (∀ a k, ¬ (62 ≤ a ∧ a ≤ 64 ∧ k = c) → N.2.1 a k = M.2.1 a k) ∧ (N.2.1 62 c = nI (t (2 + G + E + 4 * c)) ∧ N.2.1 63 c = nI (t (2 + G + E + 4 * c + 1)) ∧ N.2.1 64 c = nI (256 * t (2 + G + E + 4 * c + 2) + t (2 + G + E + 4 * c + 3))) ∧ ((x = 1 ∧ gdCr t G P E c) ∨ (x = 0 ∧ ¬ gdCr t G P E c)) := by
  have hb := k0.n.2
  have hc := k0.hc
  have t0 := ht (2 + G + E + 4 * c) (by omega)
  have t1 := ht (2 + G + E + 4 * c + 1) (by omega)
  have t2 := ht (2 + G + E + 4 * c + 2) (by omega)
  have t3 := ht (2 + G + E + 4 * c + 3) (by omega)
  obtain ⟨A1, e1⟩ : ∃ A, A = wrI M 62 c (nI (t (2 + G + E + 4 * c))) := ⟨_, rfl⟩
  obtain ⟨A2, e2⟩ : ∃ A, A = wrI A1 63 c (nI (t (2 + G + E + 4 * c + 1))) := ⟨_, rfl⟩
  obtain ⟨A3, e3⟩ : ∃ A, A = wrI A2 64 c (nI (256 * t (2 + G + E + 4 * c + 2) + t (2 + G + E + 4 * c + 3))) := ⟨_, rfl⟩
  have F1 : Fr pSt6 q0 M A1 := by rw [e1]; exact Fr.rf.wi rfl
  have F2 : Fr pSt6 q0 M A2 := by rw [e2]; exact F1.wi rfl
  have F3 : Fr pSt6 q0 M A3 := by rw [e3]; exact F2.wi rfl
  have h1 := F1.hc hc
  have h2 := F2.hc hc
  have h3 := F3.hc hc
  have C1 := hC.fr F1 rfl (fun _ => rfl)
  have C2 := hC.fr F2 rfl (fun _ => rfl)
  have b0 := c_byteAt hC (k := 2 + G + E + 4 * c) (by omega)
  have b1 := c_byteAt C1 (k := 2 + G + E + 4 * c + 1) (by omega)
  have b2 := c_pairAt h2 C2 (k := 2 + G + E + 4 * c + 2) (by omega)
  rw [show 2 + G + E + 4 * c + 2 + 1 = 2 + G + E + 4 * c + 3 by omega] at b2
  have kk : KI A3 D G P E C W c0 c1 c2 := (k0.fr F3 (fun a k z => p6_n (fun y => by unfold kX at z; simp only [Bool.or_eq_true, Bool.and_eq_true, beq_iff_eq, decide_eq_true_eq] at z; omega)) (fun _ _ _ => rfl)).1
  have v62 : A3.2.1 62 c = nI (t (2 + G + E + 4 * c)) := by rw [e3, wrI_ne (by omega), e2, wrI_ne (by omega), e1, wrI_eq]
  have v63 : A3.2.1 63 c = nI (t (2 + G + E + 4 * c + 1)) := by rw [e3, wrI_ne (by omega), e2, wrI_eq]
  have v64 : A3.2.1 64 c = nI (256 * t (2 + G + E + 4 * c + 2) + t (2 + G + E + 4 * c + 3)) := by rw [e3, wrI_eq]
  have vo : ∀ a k, ¬ (62 ≤ a ∧ a ≤ 64 ∧ k = c) → A3.2.1 a k = M.2.1 a k := fun a k h => by rw [e3, wrI_ne (by omega), e2, wrI_ne (by omega), e1, wrI_ne (by omega)]
  have hS := StS60 hc
  unfold f_X11_readCarImage f_X11_readCarImage_B96
  rw [sr0 hc, gr0_5 hc, Option.bind_some, gS3 hS, Option.bind_some, gr0_0 hc, Option.bind_some, b0, Option.bind_some, show ∀ x, stI M (60 + 2) (nI c) x = some (wrI M 62 c x) from fun x => tS2 hS (by omega), Option.bind_some, ← e1, gr0_5 h1, Option.bind_some, gS4 (StS60 h1), Option.bind_some, gr0_0 h1, Option.bind_some, nI_1, b1, Option.bind_some, show ∀ x, stI A1 (60 + 3) (nI c) x = some (wrI A1 63 c x) from fun x => tS3 (StS60 h1) (by omega), Option.bind_some, ← e2, gr0_5 h2, Option.bind_some, gS5 (StS60 h2), Option.bind_some, show nI (2 + G + E + 4 * c) + (2 : Int32) = nI (2 + G + E + 4 * c + 2) from nI_add _ 2, b2, Option.bind_some, show ∀ x, stI A2 (60 + 4) (nI c) x = some (wrI A2 64 c x) from fun x => tS4 (StS60 h2) (by omega), Option.bind_some, ← e3]
  simp only [kk.cv.p0, kk.cv.g2, Option.bind_some, gr0_5 h3, gS3 (StS60 h3), gS4 (StS60 h3), gS5 (StS60 h3), show ldI 14 A3 (60 + 2) (nI c) = some (nI (t (2 + G + E + 4 * c))) from (by rw [← v62]; exact lS2 (StS60 h3) (by omega)), show ldI 14 A3 (60 + 3) (nI c) = some (nI (t (2 + G + E + 4 * c + 1))) from (by rw [← v63]; exact lS3 (StS60 h3) (by omega)), show ldI 14 A3 (60 + 4) (nI c) = some (nI (256 * t (2 + G + E + 4 * c + 2) + t (2 + G + E + 4 * c + 3))) from (by rw [← v64]; exact lS4 (StS60 h3) (by omega)), kk.tP]
  rw [nI_i (show t (2 + G + E + 4 * c) < 2147483648 by omega), nI_i (show t (2 + G + E + 4 * c + 1) < 2147483648 by omega)]
  unfold gdCr
  by_cases q0 : t (2 + G + E + 4 * c) < P
  · rw [if_neg (bI_y (by omega))]
    by_cases q1 : t (2 + G + E + 4 * c + 1) < P
    · rw [if_neg (bI_y (by omega))]
      by_cases q2 : t (2 + G + E + 4 * c) = t (2 + G + E + 4 * c + 1)
      · rw [if_pos (by rw [q2])]
        exact ⟨0, A3, rfl, F3, vo, ⟨v62, v63, v64⟩, Or.inr ⟨rfl, fun z => z.2.2.1 q2⟩⟩
      · rw [if_neg (fun z => q2 ((nI_eq (by omega) (by omega)).mp z))]
        by_cases q3 : 256 * t (2 + G + E + 4 * c + 2) + t (2 + G + E + 4 * c + 3) ≤ 999
        · rw [if_neg (by rw [show (999 : Int32) = nI 999 from rfl, clt (by decide) (by omega)]; omega)]
          exact ⟨1, A3, rfl, F3, vo, ⟨v62, v63, v64⟩, Or.inl ⟨rfl, q0, q1, q2, q3⟩⟩
        · rw [if_pos (by rw [show (999 : Int32) = nI 999 from rfl, clt (by decide) (by omega)]; omega)]
          exact ⟨0, A3, rfl, F3, vo, ⟨v62, v63, v64⟩, Or.inr ⟨rfl, fun z => q3 z.2.2.2⟩⟩
    · rw [if_pos (bI_0.mpr (by omega))]
      exact ⟨0, A3, rfl, F3, vo, ⟨v62, v63, v64⟩, Or.inr ⟨rfl, fun z => q1 z.2.1⟩⟩
  · rw [if_pos (bI_0.mpr (by omega))]
    exact ⟨0, A3, rfl, F3, vo, ⟨v62, v63, v64⟩, Or.inr ⟨rfl, fun z => q0 z.1⟩⟩
/-- the whole image -/
theorem c_readI (k0 : KI M D G P E C W c0 c1 c2) (hC : CT (fun i => nI (t i)) n M) (ht : ∀ i, i < n → t i < 256) (hn : n = 3 + G + E + 4 * C) (w : Nat → Int32) : ∃ A x N, f_X8_start 60 D M = some A ∧ f_X11_readImage_B95 0 (nI G) (nI E) (nI C) A = some (x, N) ∧ Fr pSt6 q0 M N ∧ N.2.1 60 7 = 0 ∧ ((x = 1 ∧ gdIm t G P E C ∧ SV (onW t G E C w) N 60 G E C) ∨ (x = 0 ∧ ¬ gdIm t G P E C)) := by
  have hb := k0.n.2
  have hc := k0.hc
  have t0 := ht 0 (by omega)
  have t1 := ht 1 (by omega)
  obtain ⟨A, a1, a2, a3, a4, a5, a6, a7⟩ := c_begin60 (D := D) (n := C) hc k0.cv.hD k0.cv.2.2.1.2.2.2.2.2.2 hb.2.2.2.1
  have FA : Fr pSt6 q0 M A := ⟨a2, by rw [a3], fun a k z => a4 a k (fun y => by
    have : pSt6 a k = true := by (unfold pSt6 pSt; simp only [Bool.and_eq_true, decide_eq_true_eq]; omega)
    rw [this] at z; cases z), fun a k _ => by rw [a3]⟩
  have kk : ∀ N, Fr pSt6 q0 M N → KI N D G P E C W c0 c1 c2 := fun N hF => (k0.fr hF (fun a k z => p6_n (fun y => by unfold kX at z; simp only [Bool.or_eq_true, Bool.and_eq_true, beq_iff_eq, decide_eq_true_eq] at z; omega)) (fun _ _ _ => rfl)).1
  have cc : ∀ N, Fr pSt6 q0 M N → CT (fun i => nI (t i)) n N := fun N hF => hC.fr hF rfl (fun _ => rfl)
  have hA := FA.hc hc
  obtain ⟨B, hB⟩ : ∃ B, B = wrI A 60 0 (nI (256 * t 0 + t 1)) := ⟨_, rfl⟩
  have FB : Fr pSt6 q0 M B := by rw [hB]; exact FA.wi rfl
  have hcB := FB.hc hc
  have B0 : B.2.1 60 0 = nI (256 * t 0 + t 1) := by rw [hB, wrI_eq]
  have B1 : B.2.1 60 1 = 0 := by rw [hB, wrI_ne (by omega)]; exact a5.2.1
  have B7 : B.2.1 60 7 = 0 := by rw [hB, wrI_ne (by omega)]; exact a5.2.2
  -- behind the day
  have rest : ∀ s : Int32, ((s = 1 ∧ 256 * t 0 + t 1 ≤ 999) ∨ (s = 0 ∧ ¬ gdIm t G P E C)) → ∃ x N, f_X11_readImage_B125 0 (nI G) (nI E) (nI C) s B = some (x, N) ∧ Fr pSt6 q0 M N ∧ N.2.1 60 7 = 0 ∧ ((x = 1 ∧ gdIm t G P E C ∧ SV (onW t G E C w) N 60 G E C) ∨ (x = 0 ∧ ¬ gdIm t G P E C)) := by
    intro s0 hs0
    unfold f_X11_readImage_B125 f_X11_readImage_L130
    obtain ⟨b, b1, b2⟩ := itr_g (f := fun a : (Int32 × Int32 × sMem) => f_X11_readImage_K130 0 (nI G) (nI E) (nI C) a.1 a.2.1 a.2.2) (fun i (q : Int32 × sMem) => (q.1, nI i, q.2)) (fun i q => Fr pSt6 q0 M q.2 ∧ q.2.2.1 60 0 = nI (256 * t 0 + t 1) ∧ q.2.2.1 60 7 = 0 ∧ q.2.2.1 60 1 = nI (upF (onW t G E C w) i) ∧ ((q.1 = 1 ∧ 256 * t 0 + t 1 ≤ 999 ∧ ∀ g, g < i → t (2 + g) ≤ 1) ∨ (q.1 = 0 ∧ ¬ gdIm t G P E C))) (fun q => Fr pSt6 q0 M q.2 ∧ q.2.2.1 60 0 = nI (256 * t 0 + t 1) ∧ q.2.2.1 60 7 = 0 ∧ q.2.2.1 60 1 = nI (upF (onW t G E C w) G) ∧ ((q.1 = 1 ∧ 256 * t 0 + t 1 ≤ 999 ∧ ∀ g, g < G → t (2 + g) ≤ 1) ∨ (q.1 = 0 ∧ ¬ gdIm t G P E C))) G (by omega) (by
      rintro i ⟨x, N⟩ hi ⟨i1, i2, i3, i4, i5⟩
      dsimp only at i1 i2 i3 i4 i5 ⊢
      unfold f_X11_readImage_K130 f_X11_readImage_B166 f_X11_readImage_B167 f_X11_readImage_B191
      by_cases q : i = G
      · right
        subst q
        rw [if_pos (nI_le (Nat.le_refl _) (by omega))]
        exact ⟨_, rfl, i1, i2, i3, i4, i5⟩
      · left
        refine ⟨by omega, ?_⟩
        have hcN := i1.hc hc
        have tb := ht (2 + i) (by omega)
        have b0 := c_byteAt (cc N i1) (k := 2 + i) (by omega)
        have hlt := upF_lt (onW t G E C w) i
        have eg : onW t G E C w (1 + i) = nI (t (2 + i)) := onW_g (by omega) hb.1
        have hiG : i < 6 := by omega
        have h64 : upF (onW t G E C w) i < 64 := Nat.lt_of_lt_of_le hlt ((by decide : ∀ i, i < 6 → 2 ^ i ≤ 64) i hiG)
        -- the gate's flag
        have flg : ∀ s1 : Int32, ((s1 = 1 ∧ 256 * t 0 + t 1 ≤ 999 ∧ ∀ g, g < i + 1 → t (2 + g) ≤ 1) ∨ (s1 = 0 ∧ ¬ gdIm t G P E C)) → ∃ s' : Int32 × sMem, ((gR 11 20 5 N 0).bind fun x12 => (gI 8 8 1 N x12).bind fun x13 => if nI (t (2 + i)) = (1 : Int32) then ((pI 8 8 1 N x12 ((x13 ||| ((1 : Int32) <<< (nI i &&& 31))))).bind fun M11 => (some (Sum.inl (s1, nI i + 1, M11)) : Option ((Int32 × Int32 × sMem) ⊕ (Int32 × sMem)))) else ((pI 8 8 1 N x12 ((x13 ||| (0 : Int32)))).bind fun M11 => some (Sum.inl (s1, nI i + 1, M11)))) = some (Sum.inl (s'.1, nI (i + 1), s'.2)) ∧ Fr pSt6 q0 M s'.2 ∧ s'.2.2.1 60 0 = nI (256 * t 0 + t 1) ∧ s'.2.2.1 60 7 = 0 ∧ s'.2.2.1 60 1 = nI (upF (onW t G E C w) (i + 1)) ∧ ((s'.1 = 1 ∧ 256 * t 0 + t 1 ≤ 999 ∧ ∀ g, g < i + 1 → t (2 + g) ≤ 1) ∨ (s'.1 = 0 ∧ ¬ gdIm t G P E C)) := by
          intro s1 hs1
          have eU : upF (onW t G E C w) (i + 1) = upF (onW t G E C w) i + (if onW t G E C w (1 + i) = 1 then 2 ^ i else 0) := rfl
          rw [gr0_5 hcN, Option.bind_some, gi60 hcN, Option.bind_some, i4, nI_1]
          by_cases z : t (2 + i) = 1
          · rw [if_pos (by rw [z]; rfl), or_pow i hiG _ hlt, pi60 hcN, Option.bind_some]
            refine ⟨(s1, wrI N 60 1 (nI (upF (onW t G E C w) i + 2 ^ i))), rfl, i1.wi rfl, by rw [wrI_ne (by omega)]; exact i2, by rw [wrI_ne (by omega)]; exact i3, ?_, hs1⟩
            rw [wrI_eq, eU, if_pos (by rw [eg, z]; rfl)]
          · rw [if_neg (show ¬ nI (t (2 + i)) = (1 : Int32) from fun y => z ((nI_eq (by omega) (by decide)).mp y)), show (nI (upF (onW t G E C w) i) ||| (0 : Int32)) = nI (upF (onW t G E C w) i) from (by have := (or64 _ h64 0 (by decide)).1; rw [Nat.or_zero] at this; exact this), pi60 hcN, Option.bind_some]
            refine ⟨(s1, wrI N 60 1 (nI (upF (onW t G E C w) i))), rfl, i1.wi rfl, by rw [wrI_ne (by omega)]; exact i2, by rw [wrI_ne (by omega)]; exact i3, ?_, hs1⟩
            rw [wrI_eq, eU, if_neg (by rw [eg]; exact fun y => z ((nI_eq (by omega) (by decide)).mp y)), Nat.add_zero]
        rw [if_neg (nI_ge (by omega) (by omega)), gr0_0 hcN, Option.bind_some, show (2 : Int32) + nI i = nI (2 + i) from nI_add 2 i, b0, Option.bind_some, c_flag tb, Option.bind_some]
        rcases i5 with ⟨rfl, d1, d2⟩ | ⟨rfl, d1⟩
        · rw [if_neg (by decide)]
          by_cases z : t (2 + i) ≤ 1
          · rw [if_neg (bI_y z)]
            exact flg 1 (Or.inl ⟨rfl, d1, fun g hg => by
              by_cases y : g = i
              · rw [y]; exact z
              · exact d2 g (by omega)⟩)
          · rw [if_pos (bI_0.mpr z)]
            exact flg 0 (Or.inr ⟨rfl, fun y => z (y.2.1 i (by omega))⟩)
        · rw [if_pos rfl]
          exact flg 0 (Or.inr ⟨rfl, d1⟩)) (i := 0) (s := (s0, B)) (by omega) ⟨FB, B0, B7, B1, hs0.imp (fun z => ⟨z.1, z.2, fun g hg => by omega⟩) id⟩
    obtain ⟨x1, N1⟩ := b
    obtain ⟨f1, f2, f3, f4, f5⟩ := b2
    dsimp only at f1 f2 f3 f4 f5
    replace b1 : sItr (fun a : (Int32 × Int32 × sMem) => f_X11_readImage_K130 0 (nI G) (nI E) (nI C) a.1 a.2.1 a.2.2) sFuel (s0, 0, B) = some (x1, N1) := b1
    rw [b1, Option.bind_some]
    unfold f_X11_readImage_B201 f_X11_readImage_L204
    obtain ⟨b, g1, g2⟩ := itr_g (f := fun a : (Int32 × Int32 × sMem) => f_X11_readImage_K204 0 (nI G) (nI E) (nI C) a.1 a.2.1 a.2.2) (fun i (q : Int32 × sMem) => (q.1, nI i, q.2)) (fun i q => Fr pSt6 q0 M q.2 ∧ (∀ k, q.2.2.1 60 k = N1.2.1 60 k) ∧ (∀ e, e < i → q.2.2.1 61 e = nI (t (2 + G + e))) ∧ ((q.1 = 1 ∧ 256 * t 0 + t 1 ≤ 999 ∧ (∀ g, g < G → t (2 + g) ≤ 1) ∧ ∀ e, e < i → t (2 + G + e) ≤ 99) ∨ (q.1 = 0 ∧ ¬ gdIm t G P E C))) (fun q => Fr pSt6 q0 M q.2 ∧ (∀ k, q.2.2.1 60 k = N1.2.1 60 k) ∧ (∀ e, e < E → q.2.2.1 61 e = nI (t (2 + G + e))) ∧ ((q.1 = 1 ∧ 256 * t 0 + t 1 ≤ 999 ∧ (∀ g, g < G → t (2 + g) ≤ 1) ∧ ∀ e, e < E → t (2 + G + e) ≤ 99) ∨ (q.1 = 0 ∧ ¬ gdIm t G P E C))) E (by omega) (by
      rintro i ⟨x, N⟩ hi ⟨i1, i2, i3, i5⟩
      dsimp only at i1 i2 i3 i5 ⊢
      unfold f_X11_readImage_K204 f_X11_readImage_B257 f_X11_readImage_B258
      by_cases q : i = E
      · right
        subst q
        rw [if_pos (nI_le (Nat.le_refl _) (by omega))]
        exact ⟨_, rfl, i1, i2, i3, i5⟩
      · left
        refine ⟨by omega, ?_⟩
        have hcN := i1.hc hc
        have tb := ht (2 + G + i) (by omega)
        have b0 := c_byteAt (cc N i1) (k := 2 + G + i) (by omega)
        obtain ⟨N', hN'⟩ : ∃ N', N' = wrI N 61 i (nI (t (2 + G + i))) := ⟨_, rfl⟩
        have F' : Fr pSt6 q0 M N' := by rw [hN']; exact i1.wi rfl
        have c' := F'.hc hc
        have v60 : ∀ k, N'.2.1 60 k = N1.2.1 60 k := fun k => by rw [hN', wrI_ne (by omega)]; exact i2 k
        have v61 : ∀ e, e < i + 1 → N'.2.1 61 e = nI (t (2 + G + e)) := fun e he => by
          rw [hN']
          by_cases y : e = i
          · subst y; rw [wrI_eq]
          · rw [wrI_ne (by omega)]; exact i3 e (by omega)
        rw [if_neg (nI_ge (by omega) (by omega)), gr0_5 hcN, Option.bind_some, gS2 (StS60 hcN), Option.bind_some, gr0_0 hcN, Option.bind_some, show (2 : Int32) + nI G + nI i = nI (2 + G + i) from (by rw [show (2 : Int32) = nI 2 from rfl, nI_add, nI_add]), b0, Option.bind_some, show ∀ x, stI N (60 + 1) (nI i) x = some (wrI N 61 i x) from fun x => tS1 (StS60 hcN) (by omega), Option.bind_some, ← hN', nI_1]
        rcases i5 with ⟨rfl, d1, d2, d3⟩ | ⟨rfl, d1⟩
        · rw [if_neg (by decide), gr0_5 c', Option.bind_some, gS2 (StS60 c'), Option.bind_some, lS1 (StS60 c') (by omega), Option.bind_some, show N'.2.1 (60 + 1) i = nI (t (2 + G + i)) from v61 i (by omega)]
          by_cases z : t (2 + G + i) ≤ 99
          · rw [if_neg (by rw [show (99 : Int32) = nI 99 from rfl, clt (by decide) (by omega)]; omega)]
            exact ⟨(1, N'), rfl, F', v60, v61, Or.inl ⟨rfl, d1, d2, fun e he => by
              by_cases y : e = i
              · rw [y]; exact z
              · exact d3 e (by omega)⟩⟩
          · rw [if_pos (by rw [show (99 : Int32) = nI 99 from rfl, clt (by decide) (by omega)]; omega)]
            exact ⟨(0, N'), rfl, F', v60, v61, Or.inr ⟨rfl, fun y => z (y.2.2.1 i (by omega))⟩⟩
        · rw [if_pos rfl]
          exact ⟨(0, N'), rfl, F', v60, v61, Or.inr ⟨rfl, d1⟩⟩) (i := 0) (s := (x1, N1)) (by omega) ⟨f1, fun _ => rfl, fun e he => by omega, f5.imp (fun z => ⟨z.1, z.2.1, z.2.2, fun e he => by omega⟩) id⟩
    obtain ⟨x2, N2⟩ := b
    obtain ⟨h1, h2, h3, h4⟩ := g2
    dsimp only at h1 h2 h3 h4
    replace g1 : sItr (fun a : (Int32 × Int32 × sMem) => f_X11_readImage_K204 0 (nI G) (nI E) (nI C) a.1 a.2.1 a.2.2) sFuel (x1, 0, N1) = some (x2, N2) := g1
    dsimp only
    rw [g1, Option.bind_some]
    unfold f_X11_readImage_B266 f_X11_readImage_L269
    obtain ⟨b, g3, g4⟩ := itr_g (f := fun a : (Int32 × Int32 × sMem) => f_X11_readImage_K269 0 (nI G) (nI E) (nI C) a.1 a.2.1 a.2.2) (fun i (q : Int32 × sMem) => (q.1, nI i, q.2)) (fun i q => Fr pSt6 q0 M q.2 ∧ (∀ k, q.2.2.1 60 k = N1.2.1 60 k) ∧ (∀ k, q.2.2.1 61 k = N2.2.1 61 k) ∧ ((q.1 = 1 ∧ 256 * t 0 + t 1 ≤ 999 ∧ (∀ g, g < G → t (2 + g) ≤ 1) ∧ (∀ e, e < E → t (2 + G + e) ≤ 99) ∧ ∀ c, c < i → gdCr t G P E c ∧ q.2.2.1 62 c = nI (t (2 + G + E + 4 * c)) ∧ q.2.2.1 63 c = nI (t (2 + G + E + 4 * c + 1)) ∧ q.2.2.1 64 c = nI (256 * t (2 + G + E + 4 * c + 2) + t (2 + G + E + 4 * c + 3))) ∨ (q.1 = 0 ∧ ¬ gdIm t G P E C))) (fun q => Fr pSt6 q0 M q.2 ∧ (∀ k, q.2.2.1 60 k = N1.2.1 60 k) ∧ (∀ k, q.2.2.1 61 k = N2.2.1 61 k) ∧ ((q.1 = 1 ∧ 256 * t 0 + t 1 ≤ 999 ∧ (∀ g, g < G → t (2 + g) ≤ 1) ∧ (∀ e, e < E → t (2 + G + e) ≤ 99) ∧ ∀ c, c < C → gdCr t G P E c ∧ q.2.2.1 62 c = nI (t (2 + G + E + 4 * c)) ∧ q.2.2.1 63 c = nI (t (2 + G + E + 4 * c + 1)) ∧ q.2.2.1 64 c = nI (256 * t (2 + G + E + 4 * c + 2) + t (2 + G + E + 4 * c + 3))) ∨ (q.1 = 0 ∧ ¬ gdIm t G P E C))) C (by omega) (by
      rintro i ⟨x, N⟩ hi ⟨i1, i2, i3, i5⟩
      dsimp only at i1 i2 i3 i5 ⊢
      unfold f_X11_readImage_K269 f_X11_readImage_B303 f_X11_readImage_B304
      by_cases q : i = C
      · right
        subst q
        rw [if_pos (nI_le (Nat.le_refl _) (by omega)), if_pos (by rcases i5 with z | z; exact Or.inr z.1; exact Or.inl z.1)]
        exact ⟨_, rfl, i1, i2, i3, i5⟩
      · left
        refine ⟨by omega, ?_⟩
        rw [if_neg (nI_ge (by omega) (by omega)), nI_1]
        rcases i5 with ⟨rfl, d1, d2, d3, d4⟩ | ⟨rfl, d1⟩
        · obtain ⟨y, N', y1, y2, y3, y4, y5⟩ := c_readC (c := i) (kk N i1) (cc N i1) ht hn (by omega)
          rw [if_neg (by decide), show (2 : Int32) + nI G + nI E + (4 : Int32) * nI i = nI (2 + G + E + 4 * i) from (by rw [show (4 : Int32) = nI 4 from rfl, pk_mul, show (2 : Int32) = nI 2 from rfl, nI_add, nI_add, nI_add]), y1]
          dsimp only [Option.bind_some]
          have F' := i1.tr y2
          have v60 : ∀ k, N'.2.1 60 k = N1.2.1 60 k := fun k => by rw [y3 _ _ (by omega)]; exact i2 k
          have v61 : ∀ k, N'.2.1 61 k = N2.2.1 61 k := fun k => by rw [y3 _ _ (by omega)]; exact i3 k
          rcases y5 with ⟨rfl, y5⟩ | ⟨rfl, y5⟩
          · rw [if_neg (by decide)]
            refine ⟨(1, N'), rfl, F', v60, v61, Or.inl ⟨rfl, d1, d2, d3, fun c hc' => ?_⟩⟩
            by_cases z : c = i
            · subst z; exact ⟨y5, y4⟩
            · rw [y3 _ _ (by omega), y3 _ _ (by omega), y3 _ _ (by omega)]; exact d4 c (by omega)
          · rw [if_pos rfl]
            exact ⟨(0, N'), rfl, F', v60, v61, Or.inr ⟨rfl, fun z => y5 (z.2.2.2 i (by omega))⟩⟩
        · rw [if_pos rfl]
          exact ⟨(0, N), rfl, i1, i2, i3, Or.inr ⟨rfl, d1⟩⟩) (i := 0) (s := (x2, N2)) (by omega) ⟨h1, h2, fun _ => rfl, h4.imp (fun z => ⟨z.1, z.2.1, z.2.2.1, z.2.2.2, fun c hc' => by omega⟩) id⟩
    obtain ⟨x3, N3⟩ := b
    obtain ⟨j1, j2, j3, j4⟩ := g4
    dsimp only at j1 j2 j3 j4
    replace g3 : sItr (fun a : (Int32 × Int32 × sMem) => f_X11_readImage_K269 0 (nI G) (nI E) (nI C) a.1 a.2.1 a.2.2) sFuel (x2, 0, N2) = some (x3, N3) := g3
    dsimp only
    rw [g3, Option.bind_some]
    refine ⟨x3, N3, rfl, j1, by rw [j2]; exact f3, ?_⟩
    rcases j4 with ⟨d0, d1, d2, d3, d4⟩ | j4
    · refine Or.inl ⟨d0, ⟨d1, d2, d3, fun c hc' => (d4 c hc').1⟩, by rw [j2, onW_0]; exact f2, by rw [j2]; exact f4, fun e he => by rw [onW_e he hb.2.2.1]; exact (j3 e).trans (h3 e he), fun c hc' => ?_⟩
      obtain ⟨w0, w1, w2⟩ := onW_c (t := t) (G := G) (E := E) (w := w) hc' hb.2.2.2.1
      rw [w0, w1, w2]
      exact (d4 c hc').2
    · exact Or.inr j4
  refine ⟨A, ?_⟩
  have e0 := c_pairAt hA (cc A FA) (k := 0) (by omega)
  rw [show 0 + 1 = 1 from rfl] at e0
  replace e0 : f_X11_pairAt 0 0 A = some (nI (256 * t 0 + t 1)) := e0
  unfold f_X11_readImage_B95
  rw [gr0_5 hA, Option.bind_some, e0, Option.bind_some, pi60 hA, Option.bind_some, ← hB, gr0_5 hcB, Option.bind_some, gi60 hcB, Option.bind_some, B0]
  by_cases q : 256 * t 0 + t 1 ≤ 999
  · rw [if_neg (by rw [show (999 : Int32) = nI 999 from rfl, clt (by decide) (by omega)]; omega)]
    obtain ⟨x, N, n1, n2⟩ := rest 1 (Or.inl ⟨rfl, q⟩)
    exact ⟨x, N, a1, n1, n2⟩
  · rw [if_pos (by rw [show (999 : Int32) = nI 999 from rfl, clt (by decide) (by omega)]; omega)]
    obtain ⟨x, N, n1, n2⟩ := rest 0 (Or.inr ⟨rfl, fun z => q z.1⟩)
    exact ⟨x, N, a1, n1, n2⟩
end ONB
