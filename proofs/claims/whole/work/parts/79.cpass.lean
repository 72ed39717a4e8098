/-! THE CLASS: a day -/
section DS
variable {u : Nat → Nat → Int32} {D G P E C W k e c s g j : Nat} {c0 c1 c2 cs : List Nat} {w w' : Nat → Int32}
theorem day_0 : dayS u c0 c1 c2 G P E C W w 0 = w 0 + 1 := by unfold dayS; rw [if_pos rfl]
theorem day_g (hg : g < 6) : dayS u c0 c1 c2 G P E C W w (1 + g) = w (1 + g) := by unfold dayS; rw [if_neg (by omega), if_pos (by omega)]
theorem day_e (he : e < E) (h5 : E ≤ 5) : dayS u c0 c1 c2 G P E C W w (7 + e) = ltF u w c1 (smN (wtS u c0 G E W P w) C) e := by unfold dayS; rw [if_neg (by omega), if_neg (by omega), if_pos (by omega), if_pos (by omega), show 7 + e - 7 = e by omega]
theorem day_c (hc : c < C) (h5 : C ≤ 5) (hj : j < 3) : dayS u c0 c1 c2 G P E C W w (12 + 3 * c + j) = carS w c2 (wtS u c0 G E W P w c) c j := by
  unfold dayS
  rw [if_neg (by omega), if_neg (by omega), if_neg (by omega), if_pos (by omega), if_pos (by omega), show (12 + 3 * c + j - 12) / 3 = c by omega, show (12 + 3 * c + j - 12) % 3 = j by omega]
theorem upF_cong : ∀ {n : Nat}, (∀ g, g < n → w' (1 + g) = w (1 + g)) → upF w' n = upF w n
  | 0, _ => rfl
  | n + 1, h => by
    show upF w' n + _ = upF w n + _
    rw [upF_cong (fun g hg => h g (by omega)), h n (by omega)]
theorem smN_le {f : Nat → Int32} (hf : ∀ c, f c = mI ∨ ∃ n, n < 200 ∧ f c = nI n) : ∀ c, smN f c ≤ 200 * c
  | 0 => Nat.le_refl _
  | c + 1 => by
    show smN f c + _ ≤ _
    have := smN_le hf c
    rcases hf c with h | ⟨n, h1, h2⟩
    · rw [if_pos h]; omega
    · rw [h2, nI_i (by omega)]; split <;> omega
theorem twN_le {f : Nat → Int32} : ∀ c, twN f c ≤ c
  | 0 => Nat.le_refl _
  | c + 1 => by
    show twN f c + _ ≤ _
    have := twN_le (f := f) c
    split <;> omega
theorem WG_day (hu : DU u G P E C W c0 c1 c2) (hw : WG w G P E C) {d : Nat} (hd : w 0 = nI d) (hd9 : d < 999) : WG (dayS u c0 c1 c2 G P E C W w) G P E C := by
  have hb := hu.2.1
  refine ⟨⟨d + 1, by omega, by rw [day_0, hd, nI_1]⟩, fun g hg => ?_, fun e he => ?_, fun c hc => ?_⟩
  · rw [day_g hg]; exact hw.2.1 g hg
  · have h1 := day_e (u := u) (c0 := c0) (c1 := c1) (c2 := c2) (G := G) (P := P) (C := C) (W := W) (w := w) he (by omega)
    have h2 := clm_rg 99 (evV (envL u w (smN (wtS u c0 G E W P w) C) e) c1)
    have h3 : LF (dayS u c0 c1 c2 G P E C W w) e = (clm 99 (evV (envL u w (smN (wtS u c0 G E W P w) C) e) c1)).toNat := by
      unfold LF; rw [h1]; unfold ltF; rw [nI_i (by omega)]; omega
    rw [h3, h1]
    exact ⟨rfl, by omega⟩
  · obtain ⟨w1, w2, w3, w4, w5, kn, w6, w7⟩ := hw.2.2.2 c hc
    have d0 := day_c (u := u) (c0 := c0) (c1 := c1) (c2 := c2) (G := G) (P := P) (E := E) (W := W) (w := w) hc (by omega) (j := 0) (by omega)
    have d1 := day_c (u := u) (c0 := c0) (c1 := c1) (c2 := c2) (G := G) (P := P) (E := E) (W := W) (w := w) hc (by omega) (j := 1) (by omega)
    have d2 := day_c (u := u) (c0 := c0) (c1 := c1) (c2 := c2) (G := G) (P := P) (E := E) (W := W) (w := w) hc (by omega) (j := 2) (by omega)
    rw [show 12 + 3 * c + 0 = 12 + 3 * c by omega] at d0
    rw [show 12 + 3 * c + 1 = 13 + 3 * c by omega] at d1
    rw [show 12 + 3 * c + 2 = 14 + 3 * c by omega] at d2
    unfold carS at d0 d1 d2
    by_cases ht : wtS u c0 G E W P w c = mI
    · rw [if_pos ht, show 12 + 3 * c + 0 = 12 + 3 * c by omega] at d0
      rw [if_pos ht, show 12 + 3 * c + 1 = 13 + 3 * c by omega] at d1
      rw [if_pos ht, show 12 + 3 * c + 2 = 14 + 3 * c by omega] at d2
      have ea : atS (dayS u c0 c1 c2 G P E C W w) c = atS w c := by unfold atS; rw [d0]
      have eg : gaS (dayS u c0 c1 c2 G P E C W w) c = gaS w c := by unfold gaS; rw [d1]
      rw [ea, eg, d0, d1, d2]
      exact ⟨w1, w2, w3, w4, w5, kn, w6, w7⟩
    · rw [if_neg ht, if_pos rfl] at d0
      rw [if_neg ht, if_neg (by decide), if_pos rfl] at d1
      rw [if_neg ht, if_neg (by decide), if_neg (by decide)] at d2
      have ea : atS (dayS u c0 c1 c2 G P E C W w) c = gaS w c := by unfold atS gaS; rw [d0]
      have eg : gaS (dayS u c0 c1 c2 G P E C W w) c = atS w c := by unfold atS gaS; rw [d1]
      rw [ea, eg, d0, d1, d2]
      have hk := clm_rg 999 ((w (14 + 3 * c)).toInt + evV (envK w (wtS u c0 G E W P w c).toInt c) c2)
      exact ⟨w2, w1, w4, w3, fun z => w5 z.symm, _, by omega, rfl⟩
end DS
def pWt : Nat → Nat → Bool := fun a _ => a == 81 || a == 75
def pPs (s : Nat) : Nat → Nat → Bool := fun a k => pRow a k || a == 81 || a == 75 || (decide (s + 1 ≤ a) && decide (a ≤ s + 5)) || (a == s && (k == 0 || k == 7))
theorem max0 {M : sMem} {x : Int32} (h : x = mI ∨ ∃ n, n < 200 ∧ x = nI n) : f_J9_max_7cf53 0 x M = some (nI (if x = mI then 0 else x.toInt.toNat)) := by
  unfold f_J9_max_7cf53
  rcases h with rfl | ⟨n, h1, rfl⟩
  · rw [if_neg (by decide), if_pos rfl]; rfl
  · rw [if_neg (show ¬ nI n = mI by rw [cneg (by omega)]; exact id), nI_i (by omega), Int.toNat_natCast]
    by_cases h : (0 : Int32) < nI n
    · rw [if_pos h]
    · rw [if_neg h]
      have : ¬ (0 : Int32).toInt < (nI n).toInt := fun z => h (lt_i.mpr z)
      rw [nI_i (by omega), show (0 : Int32).toInt = 0 from rfl] at this
      rw [show n = 0 by omega]; rfl
section CP
variable {u : Nat → Nat → Int32} {M N : sMem} {D G P E C W k e c s : Nat} {c0 c1 c2 cs : List Nat} {w : Nat → Int32}
theorem c_pass (h : CV u M D G P E C W c0 c1 c2) (hu : DU u G P E C W c0 c1 c2) (hI : RowsI u M G c0) (hA : AU M) (hS : StS M s) (hs : s = 54 ∨ s = 60) (hV : SV w M s G E C) (hw : WG w G P E C) {kc : Nat} (hkc : kc ≤ 40) (hk : M.2.1 s 7 = nI kc) {d : Nat} (hd : w 0 = nI d) (hd9 : d < 999) :
    ∃ N, f_X0_pass 67 s M = some (nI (smN (wtS u c0 G E W P w) C), N) ∧ FrB (pPs s) (qCl 73) rRow M N ∧ RowsI u N G c0 ∧ SV (dayS u c0 c1 c2 G P E C W w) N s G E C ∧ N.2.1 s 7 = nI (kpN kc) ∧ ∀ k, k < 3 * kpN kc → N.2.1 (s + 5) k = kpF kc (M.2.1 (s + 5)) (w 0) (nI (smN (wtS u c0 G E W P w) C)) (nI (twN (wtS u c0 G E W P w) C)) k := by
  have hb := hu.2.1
  have hcc := h.hc
  have hf : ∀ c, wtS u c0 G E W P w c = mI ∨ ∃ n, n < 200 ∧ wtS u c0 G E W P w c = nI n := fun c => wt_rg
  have hsl := smN_le hf C
  have htl := twN_le (f := wtS u c0 G E W P w) C
  unfold f_X0_pass
  rw [sr67 hcc, gr67_1 hcc, Option.bind_some, iS hS, Option.bind_some, gr67_4 hcc, Option.bind_some, hV.2.1]
  obtain ⟨M1, a1, a2, a3, a4⟩ := c_close (L := LF w) (but := 99) (into := 73) (up := upF w G) h hu hI hS hs (fun e he => by rw [hV.2.2.1 e he]; exact hw.2.2.1 e he) (upF_lt64 (by omega)) (Or.inl rfl) (Or.inl rfl)
  rw [show f_X4_close 76 s (nI (upF w G)) (-1) 73 M = some M1 from a1, Option.bind_some]
  have rs : ∀ k, rRow s k = false := fun k => by unfold rRow; exact beq_eq_false_iff_ne.mpr (by omega)
  have ps : ∀ j i, j ≤ 5 → pRow (s + j) i = false := fun j i hj => by
    have e1 : (s + j == 72) = false := beq_eq_false_iff_ne.mpr (by omega)
    have e2 : (s + j == 68) = false := beq_eq_false_iff_ne.mpr (by omega)
    have e3 : (s + j == 69) = false := beq_eq_false_iff_ne.mpr (by omega)
    have e4 : (s + j == 78) = false := beq_eq_false_iff_ne.mpr (by omega)
    unfold pRow; rw [e1, e2, e3, e4]; rfl
  have h1 : CV u M1 D G P E C W c0 c1 c2 := h.fb a2 offD_row offR_row
  have hS1 : StS M1 s := hS.fr a2.1 rs
  have hV1 : SV w M1 s G E C := hV.fr hS a2.1 (fun j i hj => ps j i (by omega))
  have hA1 : AU M1 := fun k hk => by rw [a2.j (lt_of_sh (cs74 hcc)) rfl]; exact hA k hk
  have e5 : ∀ k, M1.2.1 (s + 5) k = M.2.1 (s + 5) k := fun k => a2.i (lt_of_sh hS.1.2.2.2.2.2) (ps 5 k (by omega))
  have e7 : M1.2.1 s 7 = nI kc := by rw [a2.i (lt_of_sh hS.1.1) (ps 0 7 (by omega))]; exact hk
  have offW : offD pWt := fun a k z => by unfold pWt at z; simp only [Bool.or_eq_true, beq_iff_eq] at z; omega
  have psW : ∀ j i, j ≤ 5 → pWt (s + j) i = false := fun j i hj => by
    have e1 : (s + j == 81) = false := beq_eq_false_iff_ne.mpr (by omega)
    have e2 : (s + j == 75) = false := beq_eq_false_iff_ne.mpr (by omega)
    unfold pWt; rw [e1, e2]; rfl
  -- how long each waits
  have L1 : ∃ N, sItr (fun a : (Int32 × Int32 × Int32 × sMem) => f_X0_pass_K24 67 s a.1 a.2.1 a.2.2.1 a.2.2.2) sFuel (nI 0, nI 0, nI 0, M1) = some (nI (smN (wtS u c0 G E W P w) C), nI (twN (wtS u c0 G E W P w) C), N) ∧ Fr pWt q0 M1 N ∧ ∀ c, c < C → N.2.1 75 c = wtS u c0 G E W P w c := by
    obtain ⟨⟨x, y, N⟩, k1, k2, k3, k4, k5⟩ := itr_g (f := fun a : (Int32 × Int32 × Int32 × sMem) => f_X0_pass_K24 67 s a.1 a.2.1 a.2.2.1 a.2.2.2) (fun k (x : Int32 × Int32 × sMem) => (x.1, x.2.1, nI k, x.2.2))
      (fun i x => x.1 = nI (smN (wtS u c0 G E W P w) i) ∧ x.2.1 = nI (twN (wtS u c0 G E W P w) i) ∧ Fr pWt q0 M1 x.2.2 ∧ ∀ c, c < i → x.2.2.2.1 75 c = wtS u c0 G E W P w c)
      (fun x => x.1 = nI (smN (wtS u c0 G E W P w) C) ∧ x.2.1 = nI (twN (wtS u c0 G E W P w) C) ∧ Fr pWt q0 M1 x.2.2 ∧ ∀ c, c < C → x.2.2.2.1 75 c = wtS u c0 G E W P w c) C (by omega) (i := 0) (s := (nI 0, nI 0, M1)) (by
        rintro i ⟨x, y, N⟩ hi ⟨v1, v2, hF, v3⟩
        dsimp only at v1 v2 hF v3 ⊢
        subst v1 v2
        have hN : CV u N D G P E C W c0 c1 c2 := h1.fr (R := fun _ _ => false) hF.fa offW offR_0
        have hSN : StS N s := hS1.f hF
        have hVN : SV w N s G E C := hV1.fr (R := fun _ _ => false) hS1 hF.fa (fun j i hj => psW j i (by omega))
        unfold f_X0_pass_K24 f_X0_pass_B88
        rw [hN.p67, Option.bind_some, hN.g5, Option.bind_some, hN.nC, Option.bind_some]
        by_cases hiC : C ≤ i
        · right
          obtain rfl : i = C := by omega
          exact ⟨_, by rw [if_pos (nI_le hiC (by omega))], rfl, rfl, hF, v3⟩
        · left
          refine ⟨by omega, ?_⟩
          rw [if_neg (nI_ge (by omega) (by omega)), gr67_6 hN.hc, Option.bind_some, gr67_4 hN.hc, Option.bind_some]
          obtain ⟨N2, b1, b2⟩ := c_wait (c := i) (row := 73) hN hu hSN hs hVN hw (fun k hk => by rw [hF.j rfl]; exact hA1 k hk) (cs73 hN.hc) (fun g t hg ht => by rw [show N.2.2.1 73 = M1.2.2.1 73 from funext fun k => hF.j rfl]; exact a4 g t hg ht) (by omega)
          have hc2 : ClsS N2.1 N2.2.2.2 := b2.hc hN.hc
          have i5 : i < 5 := by omega
          rw [b1]
          dsimp only [Option.bind_some]
          rw [st75 hc2 i5, Option.bind_some]
          have hc3 : ClsS (wrI N2 75 i (wtS u c0 G E W P w i)).1 (wrI N2 75 i (wtS u c0 G E W P w i)).2.2.2 := hc2
          simp only [gr67_6 hc3, ld75 hc3 i5, wrI_eq, Option.bind_some, max0 (hf i)]
          have f3 : Fr pWt q0 M1 (wrI N2 75 i (wtS u c0 G E W P w i)) := (hF.tr (b2.mono (fun a k z => by unfold pWt at z; unfold pGo; revert z; cases (a == 81) <;> simp) (fun _ _ z => z))).wi rfl
          have v4 : ∀ c, c < i + 1 → (wrI N2 75 i (wtS u c0 G E W P w i)).2.1 75 c = wtS u c0 G E W P w c := fun c hc => by
            by_cases hci : c = i
            · rw [hci, wrI_eq]
            · rw [wrI_ne (fun z => hci z.2), b2.i rfl]; exact v3 c (by omega)
          have es : smN (wtS u c0 G E W P w) (i + 1) = smN (wtS u c0 G E W P w) i + (if wtS u c0 G E W P w i = mI then 0 else (wtS u c0 G E W P w i).toInt.toNat) := rfl
          have et : twN (wtS u c0 G E W P w) (i + 1) = twN (wtS u c0 G E W P w) i + (if wtS u c0 G E W P w i = mI then 1 else 0) := rfl
          by_cases hz : wtS u c0 G E W P w i = mI
          · rw [if_pos (show wtS u c0 G E W P w i = (-1 : Int32) from hz), nI_add, nI_1, nI_1, ← es]
            exact ⟨(_, nI (twN (wtS u c0 G E W P w) i + 1), _), rfl, rfl, by dsimp only; rw [et, if_pos hz], f3, v4⟩
          · rw [if_neg (show ¬ wtS u c0 G E W P w i = (-1 : Int32) from hz), nI_add, nI_1, ← es]
            exact ⟨(_, nI (twN (wtS u c0 G E W P w) i) + 0, _), rfl, rfl, by dsimp only; rw [et, if_neg hz]; exact nI_add _ 0, f3, v4⟩) (by omega) ⟨rfl, rfl, Fr.rf, fun c hc => by omega⟩
    dsimp only at k1 k2 k3 k4 k5
    subst k2 k3
    exact ⟨N, k1, k4, k5⟩
  obtain ⟨N1, l1, l2, l3⟩ := L1
  unfold f_X0_pass_L24
  rw [show (0 : Int32) = nI 0 from rfl, l1, Option.bind_some]
  dsimp only
  unfold f_X0_pass_B96
  have hN1 : CV u N1 D G P E C W c0 c1 c2 := h1.fr (R := fun _ _ => false) l2.fa offW offR_0
  have hSN1 : StS N1 s := hS1.f l2
  have hVN1 : SV w N1 s G E C := hV1.fr (R := fun _ _ => false) hS1 l2.fa (fun j i hj => psW j i (by omega))
  rw [gr67_0 hN1.hc, Option.bind_some, gr68_0 hN1.hc, Option.bind_some, iS hSN1, Option.bind_some, hVN1.1, show (21 : Int32) = nI 21 from rfl, st69 hN1.hc (by decide), Option.bind_some]
  have f21 : Fr (pBr s) q0 N1 (wrI N1 69 21 (w 0)) := Fr.rf.wi (by unfold pBr pRn; simp)
  have v21 : (wrI N1 69 21 (w 0)).2.1 69 21 = w 0 := wrI_eq
  have w21 : ∀ j i, j ≤ 5 → (wrI N1 69 21 (w 0)).2.1 (s + j) i = N1.2.1 (s + j) i := fun j i hj => wrI_ne (by omega)
  generalize wrI N1 69 21 (w 0) = N2 at *
  -- cars are brought
  have L2 : ∃ N, sItr (fun a : (Int32 × sMem) => f_X0_pass_K113 67 s (nI (smN (wtS u c0 G E W P w) C)) (nI (twN (wtS u c0 G E W P w) C)) a.1 a.2) sFuel (nI 0, N2) = some N ∧ Fr (pBr s) q0 N1 N ∧ N.2.1 69 21 = w 0 ∧ ∀ c, c < C → ∀ j, j < 3 → N.2.1 (s + 2 + j) c = carS w c2 (wtS u c0 G E W P w c) c j := by
    obtain ⟨N, k1, k2, k3, k4⟩ := itr_g (f := fun a : (Int32 × sMem) => f_X0_pass_K113 67 s (nI (smN (wtS u c0 G E W P w) C)) (nI (twN (wtS u c0 G E W P w) C)) a.1 a.2) (fun k (x : sMem) => (nI k, x))
      (fun i N => Fr (pBr s) q0 N1 N ∧ N.2.1 69 21 = w 0 ∧ ∀ c, c < C → ∀ j, j < 3 → N.2.1 (s + 2 + j) c = if c < i then carS w c2 (wtS u c0 G E W P w c) c j else w (12 + 3 * c + j))
      (fun N => Fr (pBr s) q0 N1 N ∧ N.2.1 69 21 = w 0 ∧ ∀ c, c < C → ∀ j, j < 3 → N.2.1 (s + 2 + j) c = carS w c2 (wtS u c0 G E W P w c) c j) C (by omega) (i := 0) (s := N2) (by
        rintro i N hi ⟨hF, v1, v2⟩
        try dsimp only
        have hN : CV u N D G P E C W c0 c1 c2 := hN1.fr (R := fun _ _ => false) hF.fa (offD_br hs) offR_0
        have hSN : StS N s := hSN1.f hF
        unfold f_X0_pass_K113 f_X0_pass_B146
        rw [hN.p67, Option.bind_some, hN.g5, Option.bind_some, hN.nC, Option.bind_some]
        by_cases hiC : C ≤ i
        · right
          obtain rfl : i = C := by omega
          exact ⟨_, by rw [if_pos (nI_le hiC (by omega))], hF, v1, fun c hc j hj => by rw [v2 c hc j hj, if_pos hc]⟩
        · left
          refine ⟨by omega, ?_⟩
          have p75 : ∀ k, pBr s 75 k = false := fun k => by
            have e1 : (75 == s + 2) = false := beq_eq_false_iff_ne.mpr (by omega)
            have e2 : (75 == s + 3) = false := beq_eq_false_iff_ne.mpr (by omega)
            have e3 : (75 == s + 4) = false := beq_eq_false_iff_ne.mpr (by omega)
            unfold pBr; rw [e1, e2, e3]; rfl
          rw [if_neg (nI_ge (by omega) (by omega)), gr67_6 hN.hc, Option.bind_some, ld75 hN.hc (by omega), Option.bind_some, hF.i (p75 i), l3 i (by omega)]
          rcases hf i with hz | ⟨n, hn, hz⟩
          · rw [if_pos (show wtS u c0 G E W P w i = (-1 : Int32) from hz), nI_1]
            refine ⟨N, rfl, hF, v1, fun c hc j hj => ?_⟩
            rw [v2 c hc j hj]
            by_cases hci : c = i
            · subst hci
              rw [if_neg (by omega), if_pos (by omega)]; unfold carS; rw [if_pos hz]
            · by_cases hlt : c < i
              · rw [if_pos hlt, if_pos (by omega)]
              · rw [if_neg hlt, if_neg (by omega)]
          · have hne : ¬ wtS u c0 G E W P w i = mI := by rw [hz, cneg (by omega)]; exact id
            rw [if_neg (show ¬ wtS u c0 G E W P w i = (-1 : Int32) from hne)]
            have k4 : N.2.1 (s + 4) i = w (14 + 3 * i) := by
              have := v2 i (by omega) 2 (by omega)
              rw [if_neg (by omega), show s + 2 + 2 = s + 4 by omega, show 12 + 3 * i + 2 = 14 + 3 * i by omega] at this
              exact this
            obtain ⟨N3, b1, b2, b3, b4, b5, b6, b7⟩ := c_bring (c := i) (n := n) hN hu hSN hs hw (by omega) hn (by rw [hF.i (p75 i), l3 i (by omega), hz]) v1 k4
            rw [b1, Option.bind_some, nI_1]
            refine ⟨N3, rfl, hF.tr b2, b6, fun c hc j hj => ?_⟩
            by_cases hci : c = i
            · subst hci
              rw [if_pos (by omega)]
              unfold carS
              rw [if_neg hne]
              have j3 : j = 0 ∨ j = 1 ∨ j = 2 := by omega
              rcases j3 with rfl | rfl | rfl
              · rw [if_pos rfl, show s + 2 + 0 = s + 2 by omega, b4]
                have := v2 c (by omega) 1 (by omega)
                rw [if_neg (by omega), show s + 2 + 1 = s + 3 by omega, show 12 + 3 * c + 1 = 13 + 3 * c by omega] at this
                exact this
              · rw [if_neg (by decide), if_pos rfl, show s + 2 + 1 = s + 3 by omega, b5]
                have := v2 c (by omega) 0 (by omega)
                rw [if_neg (by omega), show s + 2 + 0 = s + 2 by omega, show 12 + 3 * c + 0 = 12 + 3 * c by omega] at this
                exact this
              · rw [if_neg (by decide), if_neg (by decide), show s + 2 + 2 = s + 4 by omega, b3, hz, nI_i (by omega)]
            · have := b7 (2 + j) c hci (by omega) (by omega)
              rw [show s + (2 + j) = s + 2 + j by omega] at this
              rw [this, v2 c hc j hj]
              by_cases hlt : c < i
              · rw [if_pos hlt, if_pos (by omega)]
              · rw [if_neg hlt, if_neg (by omega)]) (by omega) ⟨f21, v21, fun c hc j hj => by
          rw [if_neg (by omega), show s + 2 + j = s + (2 + j) by omega, w21 (2 + j) c (by omega)]
          obtain ⟨z1, z2, z3⟩ := hVN1.2.2.2 c hc
          have j3 : j = 0 ∨ j = 1 ∨ j = 2 := by omega
          rcases j3 with rfl | rfl | rfl
          · exact z1
          · rw [show 12 + 3 * c + 1 = 13 + 3 * c by omega]; exact z2
          · rw [show 12 + 3 * c + 2 = 14 + 3 * c by omega]; exact z3⟩
    try dsimp only at k1
    exact ⟨N, k1, k2, k3, k4⟩
  obtain ⟨N3, m1, m2, m3, m4⟩ := L2
  unfold f_X0_pass_L113
  rw [show (0 : Int32) = nI 0 from rfl, m1, Option.bind_some]
  unfold f_X0_pass_B152
  have hN3 : CV u N3 D G P E C W c0 c1 c2 := hN1.fr (R := fun _ _ => false) m2.fa (offD_br hs) offR_0
  have hSN3 : StS N3 s := hSN1.f m2
  have pbr : ∀ j i, j = 0 ∨ j = 1 ∨ j = 5 → pBr s (s + j) i = false := fun j i hj => by
    have e1 : (s + j == s + 2) = false := beq_eq_false_iff_ne.mpr (by omega)
    have e2 : (s + j == s + 3) = false := beq_eq_false_iff_ne.mpr (by omega)
    have e3 : (s + j == s + 4) = false := beq_eq_false_iff_ne.mpr (by omega)
    have e4 : (s + j == 69) = false := beq_eq_false_iff_ne.mpr (by omega)
    have e5 : (s + j == 72) = false := beq_eq_false_iff_ne.mpr (by omega)
    have e6 : (s + j == 68) = false := beq_eq_false_iff_ne.mpr (by omega)
    unfold pBr pRn; rw [e1, e2, e3, e4, e5, e6]; rfl
  have pbr0 : ∀ i, pBr s s i = false := fun i => pbr 0 i (by omega)
  have psW0 : ∀ i, pWt s i = false := fun i => psW 0 i (by omega)
  have k3 : N3.2.1 s 7 = nI kc := by rw [m2.i (pbr0 7), l2.i (psW0 7)]; exact e7
  obtain ⟨N4, n1, n2, n3, n4⟩ := c_keep hSN3 hkc k3 (nI (smN (wtS u c0 G E W P w) C)) (nI (twN (wtS u c0 G E W P w) C))
  rw [n1, Option.bind_some]
  have hN4 : CV u N4 D G P E C W c0 c1 c2 := hN3.fr (R := fun _ _ => false) n2.fa (offD_kp hs) offR_0
  have hSN4 : StS N4 s := hSN3.f n2
  have pkp : ∀ j i, 1 ≤ j → j ≤ 4 → pKp s (s + j) i = false := fun j i h1 h2 => by
    have e1 : (s + j == s + 5) = false := beq_eq_false_iff_ne.mpr (by omega)
    have e2 : (s + j == s) = false := beq_eq_false_iff_ne.mpr (by omega)
    unfold pKp; rw [e1, e2]; rfl
  have pkp0 : pKp s s 0 = false := by
    have e1 : (s == s + 5) = false := beq_eq_false_iff_ne.mpr (by omega)
    unfold pKp; rw [e1]; simp
  have pkp1 : pKp s s 1 = false := by
    have e1 : (s == s + 5) = false := beq_eq_false_iff_ne.mpr (by omega)
    unfold pKp; rw [e1]; simp
  have pkp69 : pKp s 69 21 = false := by
    have e1 : (69 == s + 5) = false := beq_eq_false_iff_ne.mpr (by omega)
    have e2 : (69 == s) = false := beq_eq_false_iff_ne.mpr (by omega)
    unfold pKp; rw [e1, e2]; rfl
  obtain ⟨N5, o1, o2, o3⟩ := c_delay (sm := smN (wtS u c0 G E W P w) C) hN4 hu hSN4 hs hw (by omega) (by rw [n2.i pkp69]; exact m3) (fun e he => by rw [n2.i (pkp 1 e (by omega) (by omega)), m2.i (pbr 1 e (by omega)), l2.i (psW 1 e (by omega))]; exact hV1.2.2.1 e he)
  have hSN5 : StS N5 s := hSN4.f o2
  have pdl : ∀ j i, j ≤ 5 → j ≠ 1 → pDl s (s + j) i = false := fun j i h1 h2 => by
    have e1 : (s + j == s + 1) = false := beq_eq_false_iff_ne.mpr (by omega)
    have e4 : (s + j == 69) = false := beq_eq_false_iff_ne.mpr (by omega)
    have e5 : (s + j == 72) = false := beq_eq_false_iff_ne.mpr (by omega)
    have e6 : (s + j == 68) = false := beq_eq_false_iff_ne.mpr (by omega)
    unfold pDl pRn; rw [e1, e4, e5, e6]; rfl
  have pdl0 : ∀ i, pDl s s i = false := fun i => pdl 0 i (by omega) (by omega)
  have e0 : N5.2.1 s 0 = w 0 := by rw [o2.i (pdl0 0), n2.i pkp0, m2.i (pbr0 0)]; exact hVN1.1
  rw [o1, Option.bind_some, iS hSN5, Option.bind_some, pS hSN5, Option.bind_some, e0]
  refine ⟨_, rfl, ?_, ?_, ?_, ?_, ?_⟩
  · have g1 : Fr (pPs s) q0 M1 N5 := by
      refine ((l2.mono (fun a k z => ?_) (fun _ _ z => z)).tr ((m2.mono (fun a k z => ?_) (fun _ _ z => z)))).tr ((n2.mono (fun a k z => ?_) (fun _ _ z => z)).tr (o2.mono (fun a k z => ?_) (fun _ _ z => z)))
      · unfold pPs at z; unfold pWt; revert z; cases (a == 81) <;> cases (a == 75) <;> simp
      · unfold pPs at z
        simp only [Bool.or_eq_false_iff, Bool.and_eq_false_iff, decide_eq_false_iff_not] at z
        unfold pBr
        have e1 : (a == s + 2) = false := beq_eq_false_iff_ne.mpr (by omega)
        have e2 : (a == s + 3) = false := beq_eq_false_iff_ne.mpr (by omega)
        have e3 : (a == s + 4) = false := beq_eq_false_iff_ne.mpr (by omega)
        rw [rn_row z.1.1.1.1, e1, e2, e3]; rfl
      · unfold pPs at z
        simp only [Bool.or_eq_false_iff, Bool.and_eq_false_iff, decide_eq_false_iff_not] at z
        unfold pKp
        have e1 : (a == s + 5) = false := beq_eq_false_iff_ne.mpr (by omega)
        rw [e1, Bool.false_or, Bool.and_eq_false_iff]
        rcases z.2 with z2 | z2
        · exact Or.inl z2
        · exact Or.inr z2.2
      · unfold pPs at z
        simp only [Bool.or_eq_false_iff, Bool.and_eq_false_iff, decide_eq_false_iff_not] at z
        unfold pDl
        have e1 : (a == s + 1) = false := beq_eq_false_iff_ne.mpr (by omega)
        rw [rn_row z.1.1.1.1, e1]; rfl
    refine ((a2.mono (fun a k z => ?_) (fun _ _ z => z) (fun _ _ z => z)).tr (g1.fb.mono (fun _ _ z => z) (fun _ _ _ => rfl) (fun _ _ z => z))).wi (by unfold pPs; simp)
    unfold pPs at z; revert z; cases pRow a k <;> simp
  · have g2 : Fr (fun a k => pWt a k || pBr s a k || pKp s a k || pDl s a k || (a == s && k == 0)) q0 M1 (wrI N5 s 0 (w 0 + 1)) := by
      refine (((l2.mono (fun a k z => ?_) (fun _ _ z => z)).tr ((m2.mono (fun a k z => ?_) (fun _ _ z => z)))).tr ((n2.mono (fun a k z => ?_) (fun _ _ z => z)).tr (o2.mono (fun a k z => ?_) (fun _ _ z => z)))).wi (by simp)
      · simp only [Bool.or_eq_false_iff] at z; exact z.1.1.1.1
      · simp only [Bool.or_eq_false_iff] at z; exact z.1.1.1.2
      · simp only [Bool.or_eq_false_iff] at z; exact z.1.1.2
      · simp only [Bool.or_eq_false_iff] at z; exact z.1.2
    refine a3.fr (R := fun _ _ => false) h1.hc g2.fb (fun k => ?_) (fun _ _ _ => rfl) (fun _ => rfl)
    have e1 : (78 == s + 2) = false := beq_eq_false_iff_ne.mpr (by omega)
    have e2 : (78 == s + 3) = false := beq_eq_false_iff_ne.mpr (by omega)
    have e3 : (78 == s + 4) = false := beq_eq_false_iff_ne.mpr (by omega)
    have e4 : (78 == s + 5) = false := beq_eq_false_iff_ne.mpr (by omega)
    have e5 : (78 == s + 1) = false := beq_eq_false_iff_ne.mpr (by omega)
    have e6 : (78 == s) = false := beq_eq_false_iff_ne.mpr (by omega)
    unfold pWt pBr pKp pDl pRn
    rw [e1, e2, e3, e4, e5, e6]; rfl
  · refine ⟨by rw [wrI_eq, day_0], ?_, fun e he => ?_, fun c hc => ⟨?_, ?_, ?_⟩⟩
    · rw [wrI_ne (by omega), o2.i (pdl0 1), n2.i pkp1, m2.i (pbr0 1), hVN1.2.1, upF_cong (fun g hg => day_g (by omega))]
    · rw [wrI_ne (by omega), o3 e he, day_e he (by omega)]
    · rw [wrI_ne (by omega), o2.i (pdl 2 c (by omega) (by omega)), n2.i (pkp 2 c (by omega) (by omega)), show 12 + 3 * c = 12 + 3 * c + 0 by omega, day_c hc (by omega) (show 0 < 3 by decide)]
      exact m4 c hc 0 (by omega)
    · rw [wrI_ne (by omega), o2.i (pdl 3 c (by omega) (by omega)), n2.i (pkp 3 c (by omega) (by omega)), show 13 + 3 * c = 12 + 3 * c + 1 by omega, day_c hc (by omega) (show 1 < 3 by decide)]
      exact m4 c hc 1 (by omega)
    · rw [wrI_ne (by omega), o2.i (pdl 4 c (by omega) (by omega)), n2.i (pkp 4 c (by omega) (by omega)), show 14 + 3 * c = 12 + 3 * c + 2 by omega, day_c hc (by omega) (show 2 < 3 by decide)]
      exact m4 c hc 2 (by omega)
  · rw [wrI_ne (by omega), o2.i (pdl0 7)]; exact n3
  · intro k hk2
    rw [wrI_ne (by omega), o2.i (pdl 5 k (by omega) (by omega)), n4 k hk2, m2.i (pbr0 0), hVN1.1]
    have : N3.2.1 (s + 5) = M.2.1 (s + 5) := by funext k; rw [m2.i (pbr 5 k (by omega)), l2.i (psW 5 k (by omega))]; exact e5 k
    rw [this]
end CP
