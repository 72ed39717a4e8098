/-! THE REFERENCE: a day's parts -/
def pAr : Nat → Nat → Bool := fun a k => pR3 a k || a == 140
def qAr : Nat → Nat → Bool := fun a k => qR2 a k || (a == 94 && k == 65)
theorem ev_one {env : Nat → Int} {sh dr : Int → Int} {c : Nat} (h : 40 ≤ c) (h2 : c < 60) : evA env sh dr [c] [] = [env (c - 40)] := by
  show evS env sh dr c [] = _
  unfold evS
  rw [if_neg (by omega), if_neg (by omega), if_pos h]
theorem ev_w {w : Nat → Int32} {n : Int} {c : Nat} : evV (envK w n c) (dfl 2) = n := by
  unfold evV
  rw [show dfl 2 = [47] from rfl, ev_one (by decide) (by decide)]
  show envK w n c 7 = n
  unfold envK
  rw [if_neg (by decide), if_pos rfl]
theorem ev_l {u : Nat → Nat → Int32} {w : Nat → Int32} {n : Int} {e : Nat} : evV (envL u w n e) (dfl 1) = (w (7 + e)).toInt := by
  unfold evV
  rw [show dfl 1 = [45] from rfl, ev_one (by decide) (by decide)]
  show envL u w n e 5 = _
  unfold envL
  rw [if_neg (by decide), if_neg (by decide), if_pos rfl]
theorem envR_2 {u : Nat → Nat → Int32} {wt : Int} {e c : Nat} : envR u wt e c 2 = (u 135 (15 + 3 * e)).toInt := by unfold envR; rw [if_neg (by decide), if_neg (by decide), if_pos rfl]
theorem envR_3 {u : Nat → Nat → Int32} {wt : Int} {e c : Nat} : envR u wt e c 3 = (u 135 (16 + 3 * e)).toInt := by unfold envR; rw [if_neg (by decide), if_neg (by decide), if_neg (by decide), if_pos rfl]
theorem envR_5 {u : Nat → Nat → Int32} {wt : Int} {e c : Nat} : envR u wt e c 5 = (u 140 (7 + e)).toInt := by unfold envR; rw [if_neg (by decide), if_neg (by decide), if_neg (by decide), if_neg (by decide), if_neg (by decide), if_pos rfl]
theorem envR_6 {u : Nat → Nat → Int32} {wt : Int} {e c : Nat} : envR u wt e c 6 = (u 140 0).toInt := by unfold envR; rw [if_neg (by decide), if_neg (by decide), if_neg (by decide), if_neg (by decide), if_neg (by decide), if_neg (by decide), if_pos rfl]
theorem envR_7 {u : Nat → Nat → Int32} {wt : Int} {e c : Nat} : envR u wt e c 7 = wt := by unfold envR; rw [if_neg (by decide), if_neg (by decide), if_neg (by decide), if_neg (by decide), if_neg (by decide), if_neg (by decide), if_neg (by decide), if_pos rfl]
theorem envR_8 {u : Nat → Nat → Int32} {wt : Int} {e c : Nat} : envR u wt e c 8 = (u 140 (14 + 3 * c)).toInt := by unfold envR; rw [if_neg (by decide), if_neg (by decide), if_neg (by decide), if_neg (by decide), if_neg (by decide), if_neg (by decide), if_neg (by decide), if_neg (by decide), if_pos rfl]
theorem envK_6 {w : Nat → Int32} {wt : Int} {c : Nat} : envK w wt c 6 = (w 0).toInt := by unfold envK; rw [if_pos rfl]
theorem envK_7 {w : Nat → Int32} {wt : Int} {c : Nat} : envK w wt c 7 = wt := by unfold envK; rw [if_neg (by decide), if_pos rfl]
theorem envK_8 {w : Nat → Int32} {wt : Int} {c : Nat} : envK w wt c 8 = (w (14 + 3 * c)).toInt := by unfold envK; rw [if_neg (by decide), if_neg (by decide), if_pos rfl]
theorem envL_2 {u : Nat → Nat → Int32} {w : Nat → Int32} {sm : Int} {e : Nat} : envL u w sm e 2 = (u 135 (15 + 3 * e)).toInt := by unfold envL; rw [if_pos rfl]
theorem envL_3 {u : Nat → Nat → Int32} {w : Nat → Int32} {sm : Int} {e : Nat} : envL u w sm e 3 = (u 135 (16 + 3 * e)).toInt := by unfold envL; rw [if_neg (by decide), if_pos rfl]
theorem envL_5 {u : Nat → Nat → Int32} {w : Nat → Int32} {sm : Int} {e : Nat} : envL u w sm e 5 = (w (7 + e)).toInt := by unfold envL; rw [if_neg (by decide), if_neg (by decide), if_pos rfl]
theorem envL_6 {u : Nat → Nat → Int32} {w : Nat → Int32} {sm : Int} {e : Nat} : envL u w sm e 6 = (w 0).toInt := by unfold envL; rw [if_neg (by decide), if_neg (by decide), if_neg (by decide), if_pos rfl]
theorem envL_7 {u : Nat → Nat → Int32} {w : Nat → Int32} {sm : Int} {e : Nat} : envL u w sm e 7 = sm := by unfold envL; rw [if_neg (by decide), if_neg (by decide), if_neg (by decide), if_neg (by decide), if_pos rfl]
section RA
variable {u : Nat → Nat → Int32} {M N : sMem} {D G P E C W k e c s : Nat} {c0 c1 c2 cs : List Nat} {w : Nat → Int32}
theorem r_told {wh : Nat} (hs : RefS M.1 M.2.2.2) (hw : wh < 3) : f_X12_isTold 94 (nI wh) M = some (bI (M.2.1 137 (3 + wh) ≠ mI)) := by
  unfold f_X12_isTold
  rw [sr94 hs, gr94_52 hs, Option.bind_some, nl 3, nI_add, ld137 hs (by omega), Option.bind_some]
  by_cases h : M.2.1 137 (3 + wh) = mI
  · rw [if_pos (show M.2.1 137 (3 + wh) = (-1 : Int32) from h), bI_f (fun z => z h)]
  · rw [if_neg (show ¬ M.2.1 137 (3 + wh) = (-1 : Int32) from h), bI_t h]
/-- a car is there, having waited n -/
theorem r_arrives (hR : RV u M) (hu : DU u G P E C W c0 c1 c2) (hw : WG w G P E C) (hc : c < C) {n : Nat} (hn : n < 200) (h0 : M.2.1 140 0 = w 0) (h1 : ∀ j, j < 3 → M.2.1 140 (12 + 3 * c + j) = w (12 + 3 * c + j)) :
    ∃ N, f_X12_arrives 94 (nI c) (nI n) M = some N ∧ Fr pAr qAr M N ∧ N.2.1 140 (12 + 3 * c) = w (13 + 3 * c) ∧ N.2.1 140 (13 + 3 * c) = w (12 + 3 * c) ∧ N.2.1 140 (14 + 3 * c) = knF w c2 n c ∧ ∀ i, i < 12 + 3 * c ∨ 14 + 3 * c < i → N.2.1 140 i = M.2.1 140 i := by
  have hb := hu.2.1
  have hs := hR.1
  have c5 : c < 5 := by omega
  obtain ⟨w1, w2, w3, w4, w5, kn, w6, w7⟩ := hw.2.2.2 c hc
  have g0 : M.2.1 140 (12 + 3 * c) = w (12 + 3 * c) := h1 0 (by omega)
  have g1 : M.2.1 140 (13 + 3 * c) = w (13 + 3 * c) := by have := h1 1 (by omega); rw [show 12 + 3 * c + 1 = 13 + 3 * c by omega] at this; exact this
  have g2 : M.2.1 140 (14 + 3 * c) = w (14 + 3 * c) := by have := h1 2 (by omega); rw [show 12 + 3 * c + 2 = 14 + 3 * c by omega] at this; exact this
  have hgood := (hu.cod (by omega)).2.2.2
  have hn' : (0 : Int) ≤ (n : Int) ∧ (n : Int) ≤ 200 := by omega
  have henv : Env (envK w n c) z0 z0 c2 := env_any (fun x _ _ _ => envK_rg hw hc hn') (no60_2 hgood)
  obtain ⟨v, v1, v2, v3⟩ := evV_rg hgood.1 henv
  have hvr := v2.2 rfl
  -- behind the sum
  have B25 : ∀ (N1 : sMem) (z : Int64), Fr pAr qAr M N1 → (∀ i, N1.2.1 140 i = M.2.1 140 i) → z.toInt = evV (envK w n c) c2 → ∃ N, f_X12_arrives_B25 94 (nI c) z N1 = some N ∧ Fr pAr qAr M N ∧ N.2.1 140 (12 + 3 * c) = w (13 + 3 * c) ∧ N.2.1 140 (13 + 3 * c) = w (12 + 3 * c) ∧ N.2.1 140 (14 + 3 * c) = knF w c2 n c ∧ ∀ i, i < 12 + 3 * c ∨ 14 + 3 * c < i → N.2.1 140 i = M.2.1 140 i := by
    intro N1 z hF h140 hz
    have hs1 := hF.hs hs
    unfold f_X12_arrives_B25
    have ez : ((w (14 + 3 * c)).toInt64 + z).toInt = (w (14 + 3 * c)).toInt + evV (envK w n c) c2 := by
      have e1 : (w (14 + 3 * c)).toInt64.toInt = kn := by rw [i64, w7, nI_i (by omega)]
      rw [Int64.toInt_add, e1, hz, v3, b64 (by omega) (by omega), w7, nI_i (by omega)]
    have i14 : (14 : Int32) + (3 : Int32) * nI c = nI (14 + 3 * c) := by rw [nl 14, nl 3, pk_mul, nI_add]
    have i12 : (12 : Int32) + (3 : Int32) * nI c = nI (12 + 3 * c) := by rw [nl 12, nl 3, pk_mul, nI_add]
    have i13 : (13 : Int32) + (3 : Int32) * nI c = nI (13 + 3 * c) := by rw [nl 13, nl 3, pk_mul, nI_add]
    rw [gr94_59 hs1, Option.bind_some, r_knowsOf hs1 c5, Option.bind_some, h140, g2, show (999 : Int32) = nI 999 from rfl, cut_of (by decide), Option.bind_some, ez, i14, st140 hs1 (by omega), Option.bind_some]
    have hs2 : RefS (wrI N1 140 (14 + 3 * c) (nI (clm 999 ((w (14 + 3 * c)).toInt + evV (envK w n c) c2)).toNat)).1 (wrI N1 140 (14 + 3 * c) (nI (clm 999 ((w (14 + 3 * c)).toInt + evV (envK w n c) c2)).toNat)).2.2.2 := hs1
    rw [r_placeOf hs2 c5, Option.bind_some, gr94_59 hs2, Option.bind_some, r_goalOf hs2 c5, Option.bind_some, i12, st140 hs2 (by omega), Option.bind_some, wrI_ne (by omega), wrI_ne (by omega), h140, h140, g0, g1]
    have hs3 : RefS (wrI (wrI N1 140 (14 + 3 * c) (nI (clm 999 ((w (14 + 3 * c)).toInt + evV (envK w n c) c2)).toNat)) 140 (12 + 3 * c) (w (13 + 3 * c))).1 (wrI (wrI N1 140 (14 + 3 * c) (nI (clm 999 ((w (14 + 3 * c)).toInt + evV (envK w n c) c2)).toNat)) 140 (12 + 3 * c) (w (13 + 3 * c))).2.2.2 := hs1
    rw [gr94_59 hs3, Option.bind_some, i13, st140 hs3 (by omega), Option.bind_some]
    refine ⟨_, rfl, ((hF.wi rfl).wi rfl).wi rfl, ?_, wrI_eq, ?_, fun i hi => ?_⟩
    · rw [wrI_ne (by omega), wrI_eq]
    · rw [wrI_ne (by omega), wrI_ne (by omega), wrI_eq]; rfl
    · rw [wrI_ne (by omega), wrI_ne (by omega), wrI_ne (by omega), h140]
  unfold f_X12_arrives
  have hsJ : RefS (wrJ M 94 65 (nI n).toInt64).1 (wrJ M 94 65 (nI n).toInt64).2.2.2 := hs
  rw [sr94 hs, pj94 hs, Option.bind_some, show (2 : Int32) = nI 2 from rfl, r_told hsJ (by decide), Option.bind_some]
  have fJ : Fr pAr qAr M (wrJ M 94 65 (nI n).toInt64) := Fr.rf.wj rfl
  have e137 : (wrJ M 94 65 (nI n).toInt64).2.1 137 (3 + 2) = u 137 (3 + 2) := hR.2 137 _ (by decide) (by decide)
  rw [e137]
  have n64 : (nI n).toInt64.toInt = n := by rw [i64, nI_i (by omega)]
  rcases (hu.cod (by omega)).1.2.2 with ⟨d1, d2⟩ | ⟨fr, d1, d2, d3, d4⟩
  · rw [bI_f (fun z => z d1), if_pos rfl]
    refine B25 _ _ fJ (fun _ => rfl) ?_
    rw [n64, d2]; exact ev_w.symm
  · rw [bI_t (show u 137 (3 + 2) ≠ mI by rw [d1]; intro z; rw [cneg (by omega)] at z; exact z), if_neg (by decide)]
    have henv2 : ∀ x ∈ c2, 40 ≤ x → x < 60 → envR (wrJ M 94 65 (nI n).toInt64).2.1 n 0 c (x - 40) = envK w n c (x - 40) := by
      intro x hx a1 a2
      have := okc2 (hgood.2 x hx)
      have hk3 : x - 40 = 6 ∨ x - 40 = 7 ∨ x - 40 = 8 := by omega
      rcases hk3 with q | q | q <;> rw [q]
      · rw [envR_6, envK_6]; exact congrArg Int32.toInt h0
      · rw [envR_7, envK_7]
      · rw [envR_8, envK_8]; exact congrArg Int32.toInt g2
    obtain ⟨x, N1, t1, t2, t3, t4⟩ := r_tell (M := wrJ M 94 65 (nI n).toInt64) (cs := c2) (b := false) (wh := 2) (car := c) (e := 0) (fr := fr) (wt := n) (sh := z0) (dr := z0) hsJ (by decide) (e137.trans d1) ((hR.2 138 _ (by decide) (by decide)).trans d2) d3 (fun i hi => (hR.2 139 _ (by decide) (by decide)).trans (d4 i hi)) c5 (fun y hy z => by have := okc2 (hgood.2 y hy); omega) (by rw [wrJ_eq, n64])
      (env_any (fun y hy a1 a2 => by rw [henv2 y hy a1 (by omega)]; exact envK_rg hw hc hn') (no60_2 hgood)) hgood.1 (no60_2 hgood)
    rw [evA_cong (env' := envK w n c) (sh' := z0) (dr' := z0) (fun y hy => ⟨henv2 y hy, no60_2 hgood y hy⟩)] at t2
    rw [t1]
    dsimp only [Option.bind_some]
    refine B25 N1 x (fJ.tr (t4.mono (fun a k z => by unfold pAr at z; revert z; cases pR3 a k <;> simp) (fun a k z => by unfold qAr at z; revert z; cases qR2 a k <;> simp))) (fun i => t4.i rfl) ?_
    unfold evV; rw [t2]; rfl
/-- what is kept, if it isn't thought -/
theorem r_kept (hs : RefS M.1 M.2.2.2) (h70 : M.2.1 94 70 = 0) {kc : Nat} (hkc : kc ≤ 40) (hk : M.2.1 140 27 = nI kc) (a b : Int32) :
    ∃ N, f_X12_isKept 94 a b M = some N ∧ Fr (fun x i => x == 140 && decide (27 ≤ i)) q0 M N ∧ N.2.1 140 27 = nI (kpN kc) ∧ ∀ k, k < 3 * kpN kc → N.2.1 140 (28 + k) = kpF kc (fun k => M.2.1 140 (28 + k)) (M.2.1 140 0) a b k := by
  have p27 : ∀ i, 27 ≤ i → (fun x i => x == 140 && decide (27 ≤ i)) 140 i = true := fun i hi => by simp [hi]
  have B64 : ∀ (M1 : sMem) (k1 : Nat), RefS M1.1 M1.2.2.2 → M1.2.1 140 27 = nI k1 → 1 ≤ k1 → k1 ≤ 40 → ∃ N, f_X12_isKept_B64 94 a b M1 = some N ∧ Fr (fun x i => x == 140 && decide (27 ≤ i)) q0 M1 N ∧ N.2.1 140 27 = nI k1 ∧ ∀ k, N.2.1 140 (28 + k) = if k = 3 * k1 - 3 then M1.2.1 140 0 else if k = 3 * k1 - 2 then a else if k = 3 * k1 - 1 then b else M1.2.1 140 (28 + k) := by
    intro M1 k1 hs1 h27 hk1 hk2
    have ix : (28 : Int32) + (3 : Int32) * nI k1 - (3 : Int32) = nI (25 + 3 * k1) := by
      rw [nl 28, nl 3, pk_mul, nI_add, nsub (by omega), show 28 + 3 * k1 - 3 = 25 + 3 * k1 by omega]
    unfold f_X12_isKept_B64
    simp only [gr94_59 hs1, show (27 : Int32) = nI 27 from rfl, show (0 : Int32) = nI 0 from rfl, ld140 hs1 (show 27 < 148 by decide), ld140 hs1 (show 0 < 148 by decide), h27, ix, st140 hs1 (show 25 + 3 * k1 < 148 by omega), Option.bind_some]
    have hs2 : RefS (wrI M1 140 (25 + 3 * k1) (M1.2.1 140 0)).1 (wrI M1 140 (25 + 3 * k1) (M1.2.1 140 0)).2.2.2 := hs1
    simp only [gr94_59 hs2, nI_1, st140 hs2 (show 25 + 3 * k1 + 1 < 148 by omega), Option.bind_some]
    have hs3 : RefS (wrI (wrI M1 140 (25 + 3 * k1) (M1.2.1 140 0)) 140 (25 + 3 * k1 + 1) a).1 (wrI (wrI M1 140 (25 + 3 * k1) (M1.2.1 140 0)) 140 (25 + 3 * k1 + 1) a).2.2.2 := hs1
    simp only [gr94_59 hs3, show nI (25 + 3 * k1) + (2 : Int32) = nI (25 + 3 * k1 + 2) from nI_add _ 2, st140 hs3 (show 25 + 3 * k1 + 2 < 148 by omega), Option.bind_some]
    refine ⟨_, rfl, ((Fr.rf.wi (p27 _ (by omega))).wi (p27 _ (by omega))).wi (p27 _ (by omega)), ?_, fun k => ?_⟩
    · rw [wrI_ne (by omega), wrI_ne (by omega), wrI_ne (by omega)]; exact h27
    · rw [wrI_get, wrI_get, wrI_get]
      by_cases z0 : k = 3 * k1 - 3
      · rw [if_neg (by omega), if_neg (by omega), if_pos ⟨rfl, by omega⟩, if_pos z0]
      · rw [if_neg z0]
        by_cases z1 : k = 3 * k1 - 2
        · rw [if_neg (by omega), if_pos ⟨rfl, by omega⟩, if_pos z1]
        · rw [if_neg z1]
          by_cases z2 : k = 3 * k1 - 1
          · rw [if_pos ⟨rfl, by omega⟩, if_pos z2]
          · rw [if_neg (by omega), if_neg (by omega), if_neg (by omega), if_neg z2]
  unfold f_X12_isKept
  rw [sr94 hs, gi94 hs, Option.bind_some, h70, if_pos rfl, gr94_59 hs, Option.bind_some, show (27 : Int32) = nI 27 from rfl, ld140 hs (by decide), Option.bind_some, hk]
  by_cases h40 : kc = 40
  · subst h40
    rw [if_pos (show nI 40 = (40 : Int32) from rfl)]
    unfold f_X12_isKept_L23 f_X12_isKept_B50
    obtain ⟨N1, k1, k2, k3, k4⟩ := itr_g (f := fun x : (Int32 × sMem) => f_X12_isKept_K23 94 a b x.1 x.2) (fun k (x : sMem) => (nI k, x))
      (fun i N => 28 ≤ i ∧ Fr (fun x i => x == 140 && decide (27 ≤ i)) q0 M N ∧ N.2.1 140 27 = nI 40 ∧ ∀ k, k < 120 → N.2.1 140 (28 + k) = if 28 + k < i then M.2.1 140 (28 + (k + 3)) else M.2.1 140 (28 + k))
      (fun N => Fr (fun x i => x == 140 && decide (27 ≤ i)) q0 M N ∧ N.2.1 140 27 = nI 40 ∧ ∀ k, k < 120 → N.2.1 140 (28 + k) = if k < 117 then M.2.1 140 (28 + (k + 3)) else M.2.1 140 (28 + k)) 145 (by omega) (i := 28) (s := M) (by
        rintro i N hi ⟨hi28, hF, v1, v2⟩
        try dsimp only
        have hsN := hF.hs hs
        unfold f_X12_isKept_K23
        by_cases h : 145 ≤ i
        · right
          obtain rfl : i = 145 := by omega
          refine ⟨N, by rw [if_pos (by decide)], hF, v1, fun k hk => ?_⟩
          rw [v2 k hk]
          by_cases hk2 : k < 117
          · rw [if_pos hk2, if_pos (by omega)]
          · rw [if_neg hk2, if_neg (by omega)]
        · left
          refine ⟨by omega, ?_⟩
          rw [if_neg (by rw [nl 145, cle (by omega) (by omega)]; omega)]
          simp only [gr94_59 hsN, show nI i + (3 : Int32) = nI (i + 3) from nI_add i 3, ld140 hsN (show i + 3 < 148 by omega), st140 hsN (show i < 148 by omega), Option.bind_some, nI_1]
          refine ⟨_, rfl, by omega, hF.wi (p27 _ (by omega)), by rw [wrI_ne (by omega)]; exact v1, fun k hk => ?_⟩
          rw [wrI_get]
          by_cases hki : 28 + k = i
          · rw [if_pos ⟨rfl, hki⟩, if_pos (by omega)]
            have := v2 (k + 3) (by omega)
            rw [if_neg (by omega)] at this
            rw [← hki, show 28 + k + 3 = 28 + (k + 3) by omega]; exact this
          · rw [if_neg (fun z => hki z.2), v2 k hk]
            by_cases hk2 : 28 + k < i
            · rw [if_pos hk2, if_pos (by omega)]
            · rw [if_neg hk2, if_neg (by omega)]) (by omega) ⟨by omega, Fr.rf, hk, fun k hk => by rw [if_neg (by omega)]⟩
    try dsimp only at k1
    rw [show (28 : Int32) = nI 28 from rfl, k1, Option.bind_some]
    obtain ⟨N, b1, b2, b3, b4⟩ := B64 N1 40 (k2.hs hs) k3 (by decide) (by decide)
    refine ⟨N, b1, k2.tr b2, b3, fun k hk2 => ?_⟩
    have hk3 : k < 120 := hk2
    rw [b4 k, k2.i (by simp)]
    unfold kpF
    rw [show kpN 40 = 40 from rfl]
    by_cases z0 : k = 117
    · rw [if_pos z0, if_pos z0]
    · rw [if_neg z0, if_neg z0]
      by_cases z1 : k = 118
      · rw [if_pos z1, if_pos z1]
      · rw [if_neg z1, if_neg z1]
        by_cases z2 : k = 119
        · rw [if_pos z2, if_pos z2]
        · rw [if_neg z2, if_neg z2, if_pos rfl, k4 k hk3, if_pos (by omega)]
  · rw [if_neg (by rw [nl 40, nI_eq (by omega) (by omega)]; exact h40)]
    simp only [Option.bind_some, ld140 hs (show 27 < 148 by decide), hk, nI_1, st140 hs (show 27 < 148 by decide)]
    obtain ⟨N, b1, b2, b3, b4⟩ := B64 (wrI M 140 27 (nI (kc + 1))) (kc + 1) hs wrI_eq (by omega) (by omega)
    have ek : kpN kc = kc + 1 := if_neg h40
    refine ⟨N, b1, (Fr.rf.wi (by simp)).tr b2, by rw [ek]; exact b3, fun k hk2 => ?_⟩
    rw [b4 k, wrI_ne (by omega), wrI_ne (by omega)]
    unfold kpF
    rw [ek, if_neg h40]
end RA
