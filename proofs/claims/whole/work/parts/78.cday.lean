/-! THE CLASS: a day's parts -/
theorem cp_of {M : sMem} {a b n0 n1 sp dp n : Nat} (ha : M.1[a]? = some (14, n0)) (hb : M.1[b]? = some (14, n1)) (h1 : sp + n ≤ n0) (h2 : dp + n ≤ n1) (hn0 : n0 < 100000) (hn1 : n1 < 100000) : ∃ N, cpI M a (nI sp) b (nI dp) (nI n) = some N ∧ Fr (fun x _ => x == b) q0 M N ∧ ∀ j, N.2.1 b j = if dp ≤ j ∧ j < dp + n then M.2.1 a (sp + (j - dp)) else M.2.1 b j := by
  unfold cpI
  rw [sAr_of ha, Option.bind_some, sAr_of hb, Option.bind_some, nI_clamp (by omega), nI_clamp (by omega), nI_clamp (by omega), if_pos ⟨nI_pos (by omega), nI_pos (by omega), nI_pos (by omega), h1, h2⟩]
  refine ⟨_, rfl, ⟨rfl, rfl, fun x k hx => ?_, fun _ _ _ => rfl⟩, fun j => ?_⟩
  · show up1 M.2.1 b _ x k = _
    unfold up1
    rw [if_neg (beq_eq_false_iff_ne.mp hx)]
  · show up1 M.2.1 b _ b j = _
    unfold up1
    rw [if_pos rfl]
    by_cases h : dp ≤ j ∧ j < dp + n
    · rw [if_pos h, pk_cpy_in h.1 h.2]
    · rw [if_neg h, pk_cpy_out (by omega)]
def pBr (s : Nat) : Nat → Nat → Bool := fun a k => pRn a k || a == s + 2 || a == s + 3 || a == s + 4
def pDl (s : Nat) : Nat → Nat → Bool := fun a k => pRn a k || a == s + 1
def pKp (s : Nat) : Nat → Nat → Bool := fun a k => a == s + 5 || (a == s && k == 7)
theorem rn_pR1 {a k : Nat} (h : pRn a k = false) : pR1 a k = false := by
  unfold pRn at h; unfold pR1; revert h; cases (a == 69) <;> cases (a == 72) <;> cases (a == 68) <;> cases (k == 4) <;> simp
section CD
variable {u : Nat → Nat → Int32} {M N : sMem} {D G P E C W k e c s : Nat} {c0 c1 c2 cs : List Nat} {w : Nat → Int32} {wt : Int32}
theorem br_rn {a k : Nat} (h : pBr s a k = false) : pRn a k = false := by unfold pBr at h; revert h; cases pRn a k <;> simp
theorem dl_rn {a k : Nat} (h : pDl s a k = false) : pRn a k = false := by unfold pDl at h; revert h; cases pRn a k <;> simp
theorem offD_br (hs : s = 54 ∨ s = 60) : offD (pBr s) := by
  intro a k h
  unfold pBr pRn at h
  simp only [Bool.or_eq_true, Bool.and_eq_true, beq_iff_eq] at h
  omega
theorem offD_dl (hs : s = 54 ∨ s = 60) : offD (pDl s) := by
  intro a k h
  unfold pDl pRn at h
  simp only [Bool.or_eq_true, Bool.and_eq_true, beq_iff_eq] at h
  omega
theorem offD_kp (hs : s = 54 ∨ s = 60) : offD (pKp s) := by
  intro a k h
  unfold pKp at h
  simp only [Bool.or_eq_true, Bool.and_eq_true, beq_iff_eq] at h
  omega
theorem envK_rg (hw : WG w G P E C) (hc : c < C) {v : Int} (hv : 0 ≤ v ∧ v ≤ 200) : -1000000 ≤ envK w v c k ∧ envK w v c k ≤ 1000000 := by
  obtain ⟨d, d1, d2⟩ := hw.1
  obtain ⟨n, n1, n2⟩ := (hw.2.2.2 c hc).2.2.2.2.2
  unfold envK
  by_cases h6 : k = 6
  · rw [if_pos h6, d2, nI_i (by omega)]; omega
  · rw [if_neg h6]
    by_cases h7 : k = 7
    · rw [if_pos h7]; omega
    · rw [if_neg h7]
      by_cases h8 : k = 8
      · rw [if_pos h8, n2, nI_i (by omega)]; omega
      · rw [if_neg h8]; decide
theorem envL_rg (hu : DU u G P E C W c0 c1 c2) (hw : WG w G P E C) (he : e < E) {v : Int} (hv : 0 ≤ v ∧ v ≤ 1000) : -1000000 ≤ envL u w v e k ∧ envL u w v e k ≤ 1000000 := by
  obtain ⟨d, d1, d2⟩ := hw.1
  have hl := hw.2.2.1 e he
  obtain ⟨a1, a2, a3, a4, a5, a6⟩ := hu.2.2.2.2.1 e he
  unfold envL
  by_cases h2 : k = 2
  · rw [if_pos h2]; omega
  · rw [if_neg h2]
    by_cases h3 : k = 3
    · rw [if_pos h3]; omega
    · rw [if_neg h3]
      by_cases h5 : k = 5
      · rw [if_pos h5, hl.1, nI_i (by omega)]; omega
      · rw [if_neg h5]
        by_cases h6 : k = 6
        · rw [if_pos h6, d2, nI_i (by omega)]; omega
        · rw [if_neg h6]
          by_cases h7 : k = 7
          · rw [if_pos h7]; omega
          · rw [if_neg h7]; decide
/-- a car is there -/
theorem c_bring (h : CV u M D G P E C W c0 c1 c2) (hu : DU u G P E C W c0 c1 c2) (hS : StS M s) (hs : s = 54 ∨ s = 60) (hw : WG w G P E C) (hc : c < C) {n : Nat} (hn : n < 200) (ht : M.2.1 75 c = nI n) (hd : M.2.1 69 21 = w 0) (hk : M.2.1 (s + 4) c = w (14 + 3 * c)) :
    ∃ N, f_X0_bringCar 67 s (nI c) M = some N ∧ Fr (pBr s) q0 M N ∧ N.2.1 (s + 4) c = knF w c2 n c ∧ N.2.1 (s + 2) c = M.2.1 (s + 3) c ∧ N.2.1 (s + 3) c = M.2.1 (s + 2) c ∧ N.2.1 69 21 = w 0 ∧ ∀ j c', c' ≠ c → 2 ≤ j → j ≤ 4 → N.2.1 (s + j) c' = M.2.1 (s + j) c' := by
  have hb := hu.2.1
  have hcc := h.hc
  have hD := h.hD
  have c5 : c < 5 := by omega
  unfold f_X0_bringCar f_X0_bringCar_B91
  have s69 : ∀ j, j ≤ 5 → s + j ≠ 69 := fun j hj => by omega
  simp only [sr67 hcc, gr67_0 hcc, gr68_0 hcc, gr67_6 hcc, ld75 hcc c5, Option.bind_some, ht, show (22 : Int32) = nI 22 from rfl, st69 hcc (show 22 < 33 by decide)]
  have hcA : ClsS (wrI M 69 22 (nI n)).1 (wrI M 69 22 (nI n)).2.2.2 := hcc
  have hSA : StS (wrI M 69 22 (nI n)) s := hS
  simp only [gr67_0 hcA, gr68_0 hcA, gS5 hSA, lS4 hSA c5, Option.bind_some, show (23 : Int32) = nI 23 from rfl, st69 hcA (show 23 < 33 by decide)]
  have ek : (wrI M 69 22 (nI n)).2.1 (s + 4) c = w (14 + 3 * c) := by rw [wrI_ne (by omega)]; exact hk
  rw [ek]
  have fB : Fr pRn q0 M (wrI (wrI M 69 22 (nI n)) 69 23 (w (14 + 3 * c))) := (Fr.rf.wi (a := 69) rfl).wi (a := 69) rfl
  have v21 : (wrI (wrI M 69 22 (nI n)) 69 23 (w (14 + 3 * c))).2.1 69 21 = w 0 := by rw [wrI_ne (by omega), wrI_ne (by omega)]; exact hd
  have v22 : (wrI (wrI M 69 22 (nI n)) 69 23 (w (14 + 3 * c))).2.1 69 22 = nI n := by rw [wrI_ne (by omega), wrI_eq]
  have v23 : (wrI (wrI M 69 22 (nI n)) 69 23 (w (14 + 3 * c))).2.1 69 23 = w (14 + 3 * c) := wrI_eq
  have vs : ∀ j i, j ≤ 5 → (wrI (wrI M 69 22 (nI n)) 69 23 (w (14 + 3 * c))).2.1 (s + j) i = M.2.1 (s + j) i := fun j i hj => by have := s69 j hj; rw [wrI_ne (by omega), wrI_ne (by omega)]
  generalize wrI (wrI M 69 22 (nI n)) 69 23 (w (14 + 3 * c)) = M1 at *
  have h1 : CV u M1 D G P E C W c0 c1 c2 := h.fr (R := fun _ _ => false) fB.fa offD_rn offR_0
  have hS1 : StS M1 s := hS.f fB
  have ht0 := hu.told (by omega)
  have hgood := (hu.cod (by omega)).2.2.2
  obtain ⟨q, pn, b1, b2⟩ := (h1.2.2.2.2.2.2.2 ht0).2.2
  obtain ⟨kn, kn1, kn2⟩ := (hw.2.2.2 c hc).2.2.2.2.2
  have hn' : (0 : Int) ≤ (n : Int) ∧ (n : Int) ≤ 200 := by omega
  obtain ⟨r, M2, r1, r2, r3, r4⟩ := c_sum (M := M1) (env := envK w n c) h1.hc b1 (by omega) (by omega) (no60_2 hgood) (fun k => envK_rg hw hc hn') (fun x hx a b => by
    have := okc2 (hgood.2 x hx)
    have hk3 : x - 40 = 6 ∨ x - 40 = 7 ∨ x - 40 = 8 := by omega
    rcases hk3 with q | q | q <;> rw [q]
    · exact congrArg Int32.toInt v21
    · show (M1.2.1 69 22).toInt = (n : Int)
      rw [v22, nI_i (by omega)]
    · exact congrArg Int32.toInt v23) hgood.1
  have hS2 : StS M2 s := hS1.f r4
  have ps : ∀ j i, j ≤ 5 → pR1 (s + j) i = false := fun j i hj => by
    have e1 : (s + j == 72) = false := beq_eq_false_iff_ne.mpr (by omega)
    have e2 : (s + j == 68) = false := beq_eq_false_iff_ne.mpr (by omega)
    unfold pR1; rw [e1, e2]; rfl
  simp only [gS5 hS1, lS4 hS1 c5, Option.bind_some, gr67_0 h1.hc, h1.p67, h1.g8, r1]
  have ek1 : M1.2.1 (s + 4) c = nI kn := by rw [vs 4 c (by omega), hk, kn2]
  obtain ⟨y, y1, y2⟩ := mm_of (M := M2) (m := 999) (by decide) (M1.2.1 (s + 4) c + r)
  have eadd : (M1.2.1 (s + 4) c + r).toInt = (w (14 + 3 * c)).toInt + evV (envK w n c) c2 := by
    have e1 : (M1.2.1 (s + 4) c).toInt = kn := by rw [ek1, nI_i (by omega)]
    rw [add_i (by omega) (by omega), r2, e1, kn2, nI_i (by omega)]
  rw [eadd] at y2
  simp only [gS5 hS2, Option.bind_some, show (999 : Int32) = nI 999 from rfl, y1, y2, tS4 hS2 c5]
  have hS3 : StS (wrI M2 (s + 4) c (nI (clm 999 ((w (14 + 3 * c)).toInt + evV (envK w n c) c2)).toNat)) s := hS2
  simp only [gS3 hS3, lS2 hS3 c5, gS4 hS3, lS3 hS3 c5, tS2 hS3 c5, Option.bind_some]
  have hS4 : ∀ x, StS (wrI (wrI M2 (s + 4) c (nI (clm 999 ((w (14 + 3 * c)).toInt + evV (envK w n c) c2)).toNat)) (s + 2) c x) s := fun _ => hS2
  simp only [gS4 (hS4 _), tS3 (hS4 _) c5, Option.bind_some]
  refine ⟨_, rfl, ?_, ?_, ?_, ?_, ?_, ?_⟩
  · exact (((fB.tr (r4.mono (fun _ _ z => rn_pR1 z) (fun _ _ z => z))).mono (fun _ _ z => br_rn z) (fun _ _ z => z)).wi (by unfold pBr; simp)).wi (by unfold pBr; simp) |>.wi (by unfold pBr; simp)
  · rw [wrI_ne (by omega), wrI_ne (by omega), wrI_eq]; rfl
  · rw [wrI_ne (by omega), wrI_eq, wrI_ne (by omega), r4.i (ps 3 c (by omega)), vs 3 c (by omega)]
  · rw [wrI_eq, wrI_ne (by omega), r4.i (ps 2 c (by omega)), vs 2 c (by omega)]
  · rw [wrI_ne (by omega), wrI_ne (by omega), wrI_ne (by omega), r4.i rfl, v21]
  · intro j c' h1 h2 h3
    rw [wrI_ne (by omega), wrI_ne (by omega), wrI_ne (by omega), r4.i (ps j c' (by omega)), vs j c' (by omega)]
/-- eras are late -/
theorem c_delay (h : CV u M D G P E C W c0 c1 c2) (hu : DU u G P E C W c0 c1 c2) (hS : StS M s) (hs : s = 54 ∨ s = 60) (hw : WG w G P E C) {sm : Nat} (hsm : sm ≤ 1000) (hd : M.2.1 69 21 = w 0) (hl : ∀ e, e < E → M.2.1 (s + 1) e = w (7 + e)) :
    ∃ N, f_X0_delayEras 67 s (nI sm) M = some N ∧ Fr (pDl s) q0 M N ∧ ∀ e, e < E → N.2.1 (s + 1) e = ltF u w c1 sm e := by
  have hb := hu.2.1
  have hcc := h.hc
  have hD := h.hD
  unfold f_X0_delayEras f_X0_delayEras_L13
  simp only [sr67 hcc, gr67_0 hcc, gr68_0 hcc, Option.bind_some, show (22 : Int32) = nI 22 from rfl, st69 hcc (show 22 < 33 by decide), nl 0]
  obtain ⟨N, k1, k2, k3⟩ := itr_g (f := fun a : (Int32 × sMem) => f_X0_delayEras_K13 67 s a.1 a.2) (fun k (x : sMem) => (nI k, x))
    (fun i N => Fr (pDl s) q0 M N ∧ N.2.1 69 21 = w 0 ∧ N.2.1 69 22 = nI sm ∧ (∀ e, e < E → N.2.1 (s + 1) e = if e < i then ltF u w c1 sm e else w (7 + e)))
    (fun N => Fr (pDl s) q0 M N ∧ ∀ e, e < E → N.2.1 (s + 1) e = ltF u w c1 sm e) E (by omega) (i := 0) (s := wrI M 69 22 (nI sm)) (by
      rintro i N hi ⟨hF, hv1, hv2, hv3⟩
      try dsimp only
      have hN : CV u N D G P E C W c0 c1 c2 := h.fr (R := fun _ _ => false) hF.fa (offD_dl hs) offR_0
      have hSN : StS N s := hS.f hF
      have hcN := hN.hc
      unfold f_X0_delayEras_K13 f_X0_delayEras_B116
      rw [hN.p67, Option.bind_some, hN.g4, Option.bind_some, hN.nE, Option.bind_some]
      by_cases hiE : E ≤ i
      · right
        obtain rfl : i = E := by omega
        exact ⟨N, by rw [if_pos (nI_le hiE (by omega))], hF, fun e he => by rw [hv3 e he, if_pos he]⟩
      · left
        have i5 : i < 5 := by omega
        refine ⟨by omega, ?_⟩
        rw [if_neg (nI_ge (by omega) (by omega))]
        have el : N.2.1 (s + 1) i = w (7 + i) := by rw [hv3 i (by omega), if_neg (by omega)]
        simp only [gr67_0 hcN, gr68_0 hcN, gS2 hSN, lS1 hSN i5, el, Option.bind_some, show (15 : Int32) = nI 15 from rfl, st69 hcN (show 15 < 33 by decide), show (0 : Int32) = nI 0 from rfl]
        have fA : Fr pRn q0 N (wrI N 69 15 (w (7 + i))) := Fr.rf.wi (a := 69) rfl
        have hA : CV u (wrI N 69 15 (w (7 + i))) D G P E C W c0 c1 c2 := hN.fr (R := fun _ _ => false) fA.fa offD_rn offR_0
        have a0 := hA.cE hu (e := i) (by omega) (j := 0) (by omega)
        rw [show 15 + 3 * i + 0 = 15 + 3 * i by omega] at a0
        simp only [gr67_0 hA.hc, gr68_0 hA.hc, hA.p67, hA.g4, a0, Option.bind_some, show (10 : Int32) = nI 10 from rfl, st69 hA.hc (show 10 < 33 by decide), show (1 : Int32) = nI 1 from rfl]
        have fB : Fr pRn q0 N (wrI (wrI N 69 15 (w (7 + i))) 69 10 (u 135 (15 + 3 * i))) := fA.wi (a := 69) rfl
        have hB : CV u (wrI (wrI N 69 15 (w (7 + i))) 69 10 (u 135 (15 + 3 * i))) D G P E C W c0 c1 c2 := hN.fr (R := fun _ _ => false) fB.fa offD_rn offR_0
        have a1 := hB.cE hu (e := i) (by omega) (j := 1) (by omega)
        rw [show 15 + 3 * i + 1 = 16 + 3 * i by omega] at a1
        simp only [gr67_0 hB.hc, gr68_0 hB.hc, hB.p67, hB.g4, a1, Option.bind_some, show (11 : Int32) = nI 11 from rfl, st69 hB.hc (show 11 < 33 by decide)]
        have fC : Fr pRn q0 N (wrI (wrI (wrI N 69 15 (w (7 + i))) 69 10 (u 135 (15 + 3 * i))) 69 11 (u 135 (16 + 3 * i))) := fB.wi (a := 69) rfl
        have c15 : (wrI (wrI (wrI N 69 15 (w (7 + i))) 69 10 (u 135 (15 + 3 * i))) 69 11 (u 135 (16 + 3 * i))).2.1 69 15 = w (7 + i) := by rw [wrI_ne (by omega), wrI_ne (by omega), wrI_eq]
        have c10 : (wrI (wrI (wrI N 69 15 (w (7 + i))) 69 10 (u 135 (15 + 3 * i))) 69 11 (u 135 (16 + 3 * i))).2.1 69 10 = u 135 (15 + 3 * i) := by rw [wrI_ne (by omega), wrI_eq]
        have c11 : (wrI (wrI (wrI N 69 15 (w (7 + i))) 69 10 (u 135 (15 + 3 * i))) 69 11 (u 135 (16 + 3 * i))).2.1 69 11 = u 135 (16 + 3 * i) := wrI_eq
        have c21 : (wrI (wrI (wrI N 69 15 (w (7 + i))) 69 10 (u 135 (15 + 3 * i))) 69 11 (u 135 (16 + 3 * i))).2.1 69 21 = w 0 := by rw [wrI_ne (by omega), wrI_ne (by omega), wrI_ne (by omega)]; exact hv1
        have c22 : (wrI (wrI (wrI N 69 15 (w (7 + i))) 69 10 (u 135 (15 + 3 * i))) 69 11 (u 135 (16 + 3 * i))).2.1 69 22 = nI sm := by rw [wrI_ne (by omega), wrI_ne (by omega), wrI_ne (by omega)]; exact hv2
        generalize wrI (wrI (wrI N 69 15 (w (7 + i))) 69 10 (u 135 (15 + 3 * i))) 69 11 (u 135 (16 + 3 * i)) = N1 at *
        have hN1 : CV u N1 D G P E C W c0 c1 c2 := hN.fr (R := fun _ _ => false) fC.fa offD_rn offR_0
        have hS1 : StS N1 s := hSN.f fC
        have ht0 := hu.told (by omega)
        have hgood := (hu.cod (by omega)).2.2.1
        obtain ⟨q, pn, b1, b2⟩ := (hN1.2.2.2.2.2.2.2 ht0).2.1
        have hsm' : (0 : Int) ≤ (sm : Int) ∧ (sm : Int) ≤ 1000 := by omega
        obtain ⟨r, N2, r1, r2, r3, r4⟩ := c_sum (M := N1) (env := envL u w sm i) hN1.hc b1 (by omega) (by omega) (no60_1 hgood) (fun k => envL_rg hu hw (by omega) hsm') (fun x hx a b => by
          have := okc1 (hgood.2 x hx)
          have hk3 : x - 40 = 2 ∨ x - 40 = 3 ∨ x - 40 = 5 ∨ x - 40 = 6 ∨ x - 40 = 7 := by omega
          rcases hk3 with q | q | q | q | q <;> rw [q]
          · exact congrArg Int32.toInt c10
          · exact congrArg Int32.toInt c11
          · exact congrArg Int32.toInt c15
          · exact congrArg Int32.toInt c21
          · show (N1.2.1 69 22).toInt = (sm : Int)
            rw [c22, nI_i (by omega)]) hgood.1
        obtain ⟨y, y1, y2⟩ := mm_of (M := N2) (m := 99) (by decide) r
        rw [r2] at y2
        have hS2 : StS N2 s := hS1.f r4
        simp only [gS2 hS1, gr67_0 hN1.hc, hN1.p67, hN1.g7, r1, Option.bind_some, show (99 : Int32) = nI 99 from rfl, y1]
        rw [show nI 0 = (0 : Int32) from rfl, y2, Option.bind_some, tS1 hS2 i5, Option.bind_some, nI_add]
        have fN2 : Fr pRn q0 N N2 := fC.tr (r4.mono (fun _ _ z => rn_pR1 z) (fun _ _ z => z))
        have pe : ∀ j, pRn (s + 1) j = false := fun j => by
          have e1 : (s + 1 == 69) = false := beq_eq_false_iff_ne.mpr (by omega)
          have e2 : (s + 1 == 72) = false := beq_eq_false_iff_ne.mpr (by omega)
          have e3 : (s + 1 == 68) = false := beq_eq_false_iff_ne.mpr (by omega)
          unfold pRn; rw [e1, e2, e3]; rfl
        refine ⟨_, rfl, (hF.tr (fN2.mono (fun _ _ z => dl_rn z) (fun _ _ z => z))).wi (by unfold pDl; simp), ?_, ?_, fun e he => ?_⟩
        · rw [wrI_ne (by omega), r4.i rfl]; exact c21
        · rw [wrI_ne (by omega), r4.i rfl]; exact c22
        · rw [wrI_get]
          by_cases hei : e = i
          · subst hei
            rw [if_pos ⟨rfl, rfl⟩, if_pos (by omega)]; rfl
          · rw [if_neg (fun z => hei z.2), fN2.i (pe e), hv3 e he]
            by_cases h2 : e < i
            · rw [if_pos h2, if_pos (by omega)]
            · rw [if_neg h2, if_neg (by omega)]) (by omega) ⟨Fr.rf.wi (by unfold pDl pRn; simp), by rw [wrI_ne (by omega)]; exact hd, wrI_eq, fun e he => by rw [wrI_ne (by omega), if_neg (by omega)]; exact hl e he⟩
  try dsimp only at k1
  rw [k1]
  exact ⟨N, rfl, k2, k3⟩
/-- what is kept -/
theorem c_keep (hS : StS M s) {kc : Nat} (hkc : kc ≤ 40) (hk : M.2.1 s 7 = nI kc) (a b : Int32) :
    ∃ N, f_X8_keep s a b M = some N ∧ Fr (pKp s) q0 M N ∧ N.2.1 s 7 = nI (kpN kc) ∧ ∀ k, k < 3 * kpN kc → N.2.1 (s + 5) k = kpF kc (M.2.1 (s + 5)) (M.2.1 s 0) a b k := by
  have B34 : ∀ (M1 : sMem) (k1 : Nat), StS M1 s → M1.2.1 s 7 = nI k1 → k1 < 40 → ∃ N, f_X8_keep_B34 s a b M1 = some N ∧ Fr (pKp s) q0 M1 N ∧ N.2.1 s 7 = nI (k1 + 1) ∧ ∀ k, N.2.1 (s + 5) k = if k = 3 * k1 then M1.2.1 s 0 else if k = 3 * k1 + 1 then a else if k = 3 * k1 + 2 then b else M1.2.1 (s + 5) k := by
    intro M1 k1 hS1 h7 hk1
    unfold f_X8_keep_B34
    have e3 : nI k1 * (3 : Int32) = nI (3 * k1) := by rw [nl 3, pk_mul, Nat.mul_comm]
    simp only [gS6 hS1, iS hS1, h7, e3, tS5 hS1 (show 3 * k1 < 120 by omega), Option.bind_some]
    have hS2 : StS (wrI M1 (s + 5) (3 * k1) (M1.2.1 s 0)) s := hS1
    have h72 : (wrI M1 (s + 5) (3 * k1) (M1.2.1 s 0)).2.1 s 7 = nI k1 := by rw [wrI_ne (by omega)]; exact h7
    simp only [gS6 hS2, iS hS2, h72, e3, nI_1, tS5 hS2 (show 3 * k1 + 1 < 120 by omega), Option.bind_some]
    have hS3 : StS (wrI (wrI M1 (s + 5) (3 * k1) (M1.2.1 s 0)) (s + 5) (3 * k1 + 1) a) s := hS1
    have h73 : (wrI (wrI M1 (s + 5) (3 * k1) (M1.2.1 s 0)) (s + 5) (3 * k1 + 1) a).2.1 s 7 = nI k1 := by rw [wrI_ne (by omega), wrI_ne (by omega)]; exact h7
    simp only [gS6 hS3, iS hS3, h73, e3, show nI (3 * k1) + (2 : Int32) = nI (3 * k1 + 2) from nI_add _ 2, tS5 hS3 (show 3 * k1 + 2 < 120 by omega), Option.bind_some]
    have hS4 : StS (wrI (wrI (wrI M1 (s + 5) (3 * k1) (M1.2.1 s 0)) (s + 5) (3 * k1 + 1) a) (s + 5) (3 * k1 + 2) b) s := hS1
    have h74 : (wrI (wrI (wrI M1 (s + 5) (3 * k1) (M1.2.1 s 0)) (s + 5) (3 * k1 + 1) a) (s + 5) (3 * k1 + 2) b).2.1 s 7 = nI k1 := by rw [wrI_ne (by omega), wrI_ne (by omega), wrI_ne (by omega)]; exact h7
    simp only [iS hS4, h74, pS hS4, nI_1, Option.bind_some]
    refine ⟨_, rfl, (((Fr.rf.wi (by unfold pKp; simp)).wi (by unfold pKp; simp)).wi (by unfold pKp; simp)).wi (by unfold pKp; simp), wrI_eq, fun k => ?_⟩
    rw [wrI_ne (by omega), wrI_get, wrI_get, wrI_get]
    by_cases z0 : k = 3 * k1
    · rw [if_neg (by omega), if_neg (by omega), if_pos ⟨rfl, z0⟩, if_pos z0]
    · rw [if_neg z0]
      by_cases z1 : k = 3 * k1 + 1
      · rw [if_neg (by omega), if_pos ⟨rfl, z1⟩, if_pos z1]
      · rw [if_neg z1]
        by_cases z2 : k = 3 * k1 + 2
        · rw [if_pos ⟨rfl, z2⟩, if_pos z2]
        · rw [if_neg (by omega), if_neg (by omega), if_neg (by omega), if_neg z2]
  unfold f_X8_keep
  rw [sRc_of hS.1.1, iS hS, Option.bind_some, hk]
  by_cases h40 : kc = 40
  · subst h40
    rw [if_pos (show nI 40 = (40 : Int32) from rfl)]
    simp only [gS6 hS, Option.bind_some]
    obtain ⟨M1, a1, a2, a3⟩ := cp_of (M := M) (a := s + 5) (b := s + 5) (sp := 3) (dp := 0) (n := 117) hS.1.2.2.2.2.2 hS.1.2.2.2.2.2 (by decide) (by decide) (by decide) (by decide)
    have hS1 : StS M1 s := hS.f a2
    have p0 : ∀ k, (fun x (_ : Nat) => x == s + 5) s k = false := fun k => beq_eq_false_iff_ne.mpr (by omega)
    have f1 : Fr (pKp s) q0 M M1 := a2.mono (fun x k z => by unfold pKp at z; revert z; cases (x == s + 5) <;> simp) (fun _ _ z => z)
    rw [show cpI M (s + 5) 3 (s + 5) 0 117 = some M1 from a1, Option.bind_some, iS hS1, Option.bind_some, a2.i (p0 7), hk, pS hS1, Option.bind_some, show nI 40 - (1 : Int32) = nI 39 from rfl]
    obtain ⟨N, b1, b2, b3, b4⟩ := B34 (wrI M1 s 7 (nI 39)) 39 hS1 wrI_eq (by decide)
    refine ⟨N, b1, (f1.wi (by unfold pKp; simp)).tr b2, b3, fun k hk2 => ?_⟩
    rw [b4 k]
    have e0 : (wrI M1 s 7 (nI 39)).2.1 s 0 = M.2.1 s 0 := by rw [wrI_ne (by omega), a2.i (p0 0)]
    have hk3 : k < 120 := hk2
    have e5 : k < 117 → (wrI M1 s 7 (nI 39)).2.1 (s + 5) k = M.2.1 (s + 5) (k + 3) := fun z => by
      rw [wrI_ne (by omega), a3 k, if_pos (by omega), show 3 + (k - 0) = k + 3 by omega]
    unfold kpF
    rw [e0, show kpN 40 = 40 from rfl]
    by_cases z0 : k = 117
    · rw [if_pos z0, if_pos z0]
    · rw [if_neg z0, if_neg z0]
      by_cases z1 : k = 118
      · rw [if_pos z1, if_pos z1]
      · rw [if_neg z1, if_neg z1]
        by_cases z2 : k = 119
        · rw [if_pos z2, if_pos z2]
        · rw [if_neg z2, if_neg z2, if_pos rfl, e5 (by omega)]
  · rw [if_neg (by rw [nl 40, nI_eq (by omega) (by omega)]; exact h40)]
    obtain ⟨N, b1, b2, b3, b4⟩ := B34 M kc hS hk (by omega)
    have ek : kpN kc = kc + 1 := if_neg h40
    refine ⟨N, b1, b2, by rw [ek]; exact b3, fun k hk2 => ?_⟩
    rw [b4 k]
    unfold kpF
    rw [ek, show 3 * (kc + 1) - 3 = 3 * kc by omega, show 3 * (kc + 1) - 2 = 3 * kc + 1 by omega, show 3 * (kc + 1) - 1 = 3 * kc + 2 by omega, if_neg h40]
end CD
