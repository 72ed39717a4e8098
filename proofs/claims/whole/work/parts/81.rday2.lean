/-! THE REFERENCE: a day -/
def pDy : Nat → Nat → Bool := fun a k => (a == 94 && (k == 122 || k == 58 || k == 61 || k == 62 || k == 63 || k == 64 || k == 71)) || a == 140 || a == 144 || a == 145
def qDy : Nat → Nat → Bool := fun a k => a == 185 || (a == 94 && k == 65)
def pD2 : Nat → Nat → Bool := fun a k => (a == 94 && (k == 122 || k == 58 || k == 63)) || a == 140 || a == 145
theorem dy_130 {a k : Nat} (h : 130 ≤ a) (h2 : a ≤ 139) : pDy a k = false := by
  have e1 : (a == 94) = false := beq_eq_false_iff_ne.mpr (by omega)
  have e2 : (a == 140) = false := beq_eq_false_iff_ne.mpr (by omega)
  have e3 : (a == 144) = false := beq_eq_false_iff_ne.mpr (by omega)
  have e4 : (a == 145) = false := beq_eq_false_iff_ne.mpr (by omega)
  unfold pDy; rw [e1, e2, e3, e4]; rfl
theorem dy_d2 {a k : Nat} (h : pDy a k = false) : pD2 a k = false := by
  unfold pDy at h; unfold pD2; revert h
  cases (a == 94) <;> cases (a == 140) <;> cases (a == 144) <;> cases (a == 145) <;> cases (k == 122) <;> cases (k == 58) <;> cases (k == 63) <;> simp
theorem dy_lay {a k : Nat} (h : pDy a k = false) : pLay a k = false := by
  unfold pDy at h; unfold pLay pSh; revert h
  cases (a == 94) <;> cases (a == 140) <;> cases (a == 144) <;> cases (a == 145) <;> cases (k == 122) <;> cases (k == 58) <;> cases (k == 61) <;> cases (k == 62) <;> cases (k == 63) <;> cases (k == 64) <;> simp
theorem d2_ar {a k : Nat} (h : pD2 a k = false) : pAr a k = false := by
  unfold pD2 at h; unfold pAr pR3; revert h
  cases (a == 94) <;> cases (a == 140) <;> cases (a == 145) <;> cases (k == 122) <;> cases (k == 58) <;> cases (k == 63) <;> simp
theorem d2_dr {a k : Nat} (h : pD2 a k = false) : pDr a k = false := by
  unfold pD2 at h; unfold pDr; revert h; cases (a == 145) <;> simp
section RG
variable {u : Nat → Nat → Int32} {M N : sMem} {D G P E C W k e c s : Nat} {c0 c1 c2 cs : List Nat} {w : Nat → Int32}
/-- the cars of a day -/
theorem r_cars (hR : RV u M) (hu : DU u G P E C W c0 c1 c2) (hLd : Laid u M G E c0 (LF w)) (hw : WG w G P E C) (hn : ∀ i, i < 27 → M.2.1 140 i = w i) :
    ∃ N, sItr (fun a : (Int32 × Int32 × Int32 × sMem) => f_X12_dayGoes_K10 94 a.1 a.2.1 a.2.2.1 a.2.2.2) sFuel (nI 0, nI 0, nI 0, M) = some (nI (smN (wtS u c0 G E W P w) C), nI (twN (wtS u c0 G E W P w) C), N) ∧ Fr pD2 qDy M N ∧ (∀ i, i < 12 ∨ 12 + 3 * C ≤ i → N.2.1 140 i = M.2.1 140 i) ∧ ∀ c j, c < C → j < 3 → N.2.1 140 (12 + 3 * c + j) = carS w c2 (wtS u c0 G E W P w c) c j := by
  have hb := hu.2.1
  have hf : ∀ c, wtS u c0 G E W P w c = mI ∨ ∃ n, n < 200 ∧ wtS u c0 G E W P w c = nI n := fun c => wt_rg
  have p130 : ∀ a k : Nat, 130 ≤ a → a ≤ 139 → pD2 a k = false := fun a k h1 h2 => dy_d2 (dy_130 h1 h2)
  obtain ⟨⟨x, y, N⟩, k1, k2, k3, k4, k5, k6⟩ := itr_g (f := fun a : (Int32 × Int32 × Int32 × sMem) => f_X12_dayGoes_K10 94 a.1 a.2.1 a.2.2.1 a.2.2.2) (fun k (x : Int32 × Int32 × sMem) => (x.1, x.2.1, nI k, x.2.2))
    (fun i x => x.1 = nI (smN (wtS u c0 G E W P w) i) ∧ x.2.1 = nI (twN (wtS u c0 G E W P w) i) ∧ Fr pD2 qDy M x.2.2 ∧ (∀ i, i < 12 ∨ 12 + 3 * C ≤ i → x.2.2.2.1 140 i = M.2.1 140 i) ∧ ∀ c j, c < C → j < 3 → x.2.2.2.1 140 (12 + 3 * c + j) = if c < i then carS w c2 (wtS u c0 G E W P w c) c j else w (12 + 3 * c + j))
    (fun x => x.1 = nI (smN (wtS u c0 G E W P w) C) ∧ x.2.1 = nI (twN (wtS u c0 G E W P w) C) ∧ Fr pD2 qDy M x.2.2 ∧ (∀ i, i < 12 ∨ 12 + 3 * C ≤ i → x.2.2.2.1 140 i = M.2.1 140 i) ∧ ∀ c j, c < C → j < 3 → x.2.2.2.1 140 (12 + 3 * c + j) = carS w c2 (wtS u c0 G E W P w c) c j) C (by omega) (i := 0) (s := (nI 0, nI 0, M)) (by
      rintro i ⟨x, y, N⟩ hi ⟨v1, v2, hF, v3, v4⟩
      dsimp only at v1 v2 hF v3 v4 ⊢
      subst v1 v2
      have hRN : RV u N := hR.fr hF p130
      unfold f_X12_dayGoes_K10 f_X12_dayGoes_B49
      rw [(r_many hRN.1).2.2.2.1, Option.bind_some, hRN.2 131 _ (by decide) (by decide), hu.1.2.2.2.1]
      by_cases hiC : C ≤ i
      · right
        obtain rfl : i = C := by omega
        exact ⟨_, by rw [if_pos (nI_le hiC (by omega))], rfl, rfl, hF, v3, fun c j hc hj => by rw [v4 c j hc hj, if_pos hc]⟩
      · left
        refine ⟨by omega, ?_⟩
        have g : ∀ j, j < 3 → N.2.1 140 (12 + 3 * i + j) = w (12 + 3 * i + j) := fun j hj => by rw [v4 i j (by omega) hj, if_neg (by omega)]
        have g1 := g 1 (by omega)
        rw [show 12 + 3 * i + 1 = 13 + 3 * i by omega] at g1
        obtain ⟨N2, b1, b2⟩ := r_wait (c := i) (w := w) hRN hu (fun g m hg hm => by rw [hF.i rfl]; exact hLd g m hg hm) hw (fun j h1 h2 => by rw [v3 j (by omega)]; exact hn j (by omega)) ⟨g 0 (by omega), g1⟩ (by omega)
        rw [if_neg (nI_ge (by omega) (by omega)), b1]
        dsimp only [Option.bind_some]
        have f2 : Fr pD2 qDy M N2 := hF.tr (b2.mono (fun _ _ z => d2_dr z) (fun _ _ _ => rfl))
        have e140 : ∀ j, N2.2.1 140 j = N.2.1 140 j := fun j => b2.i rfl
        have es : smN (wtS u c0 G E W P w) (i + 1) = smN (wtS u c0 G E W P w) i + (if wtS u c0 G E W P w i = mI then 0 else (wtS u c0 G E W P w i).toInt.toNat) := rfl
        have et : twN (wtS u c0 G E W P w) (i + 1) = twN (wtS u c0 G E W P w) i + (if wtS u c0 G E W P w i = mI then 1 else 0) := rfl
        rcases hf i with hz | ⟨n, hnn, hz⟩
        · rw [if_pos (show wtS u c0 G E W P w i = (-1 : Int32) from hz), nI_1, nI_1]
          refine ⟨(_, nI (twN (wtS u c0 G E W P w) i + 1), N2), rfl, ?_, ?_, f2, fun j hj => ?_, fun c j hc hj => ?_⟩
          · dsimp only; rw [es, if_pos hz, Nat.add_zero]; rfl
          · dsimp only; rw [et, if_pos hz]
          · dsimp only; rw [e140]; exact v3 j hj
          · dsimp only
            rw [e140, v4 c j hc hj]
            by_cases hci : c = i
            · subst hci
              rw [if_neg (by omega), if_pos (by omega)]; unfold carS; rw [if_pos hz]
            · by_cases hlt : c < i
              · rw [if_pos hlt, if_pos (by omega)]
              · rw [if_neg hlt, if_neg (by omega)]
        · have hne : ¬ wtS u c0 G E W P w i = mI := by rw [hz, cneg (by omega)]; exact id
          rw [if_neg (show ¬ wtS u c0 G E W P w i = (-1 : Int32) from hne), hz]
          obtain ⟨N3, d1, d2, d3, d4, d5, d6⟩ := r_arrives (c := i) (n := n) (w := w) (hR.fr f2 p130) hu hw (by omega) hnn (by rw [e140, v3 0 (by omega)]; exact hn 0 (by omega)) (fun j hj => by rw [e140]; exact g j hj)
          rw [d1, Option.bind_some, nI_add, nI_1]
          refine ⟨(nI (smN (wtS u c0 G E W P w) i + n), nI (twN (wtS u c0 G E W P w) i), N3), rfl, ?_, ?_, f2.tr (d2.mono (fun _ _ z => d2_ar z) (fun a k z => z)), fun j hj => ?_, fun c j hc hj => ?_⟩
          · dsimp only; rw [es, if_neg hne, hz, nI_i (by omega), Int.toNat_natCast]
          · dsimp only; rw [et, if_neg hne, Nat.add_zero]
          · dsimp only; rw [d6 j (by omega), e140]; exact v3 j hj
          · dsimp only
            by_cases hci : c = i
            · subst hci
              rw [if_pos (by omega)]
              unfold carS
              rw [if_neg hne]
              have j3 : j = 0 ∨ j = 1 ∨ j = 2 := by omega
              rcases j3 with rfl | rfl | rfl
              · rw [if_pos rfl, show 12 + 3 * c + 0 = 12 + 3 * c by omega, d3]
              · rw [if_neg (by decide), if_pos rfl, show 12 + 3 * c + 1 = 13 + 3 * c by omega, d4]
              · rw [if_neg (by decide), if_neg (by decide), show 12 + 3 * c + 2 = 14 + 3 * c by omega, d5, hz, nI_i (by omega)]
            · rw [d6 _ (by omega), e140, v4 c j hc hj]
              by_cases hlt : c < i
              · rw [if_pos hlt, if_pos (by omega)]
              · rw [if_neg hlt, if_neg (by omega)]) (by omega) ⟨rfl, rfl, Fr.rf, fun _ _ => rfl, fun c j hc hj => by rw [if_neg (by omega)]; exact hn _ (by omega)⟩
  dsimp only at k1 k2 k3 k4 k5 k6
  subst k2 k3
  exact ⟨N, k1, k4, k5, k6⟩
/-- the eras of a day -/
theorem r_eras (hR : RV u M) (hu : DU u G P E C W c0 c1 c2) (hw : WG w G P E C) {sm : Nat} (hsm : sm ≤ 1000) (hJ : (M.2.2.1 94 65).toInt = sm) (h0 : M.2.1 140 0 = w 0) (hn : ∀ e, e < E → M.2.1 140 (7 + e) = w (7 + e)) (v1 v2 : Int32) :
    ∃ N, sItr (fun a : (Int32 × sMem) => f_X12_dayGoes_K63 94 v1 v2 a.1 a.2) sFuel (nI 0, M) = some N ∧ Fr pD2 qR2 M N ∧ (∀ i, i < 7 ∨ 7 + E ≤ i → N.2.1 140 i = M.2.1 140 i) ∧ ∀ e, e < E → N.2.1 140 (7 + e) = ltF u w c1 sm e := by
  have hb := hu.2.1
  have p130 : ∀ a k : Nat, 130 ≤ a → a ≤ 139 → pD2 a k = false := fun a k h1 h2 => dy_d2 (dy_130 h1 h2)
  have hsm' : (0 : Int) ≤ (sm : Int) ∧ (sm : Int) ≤ 1000 := by omega
  obtain ⟨N, k1, k2, k3, k4⟩ := itr_g (f := fun a : (Int32 × sMem) => f_X12_dayGoes_K63 94 v1 v2 a.1 a.2) (fun k (x : sMem) => (nI k, x))
    (fun i N => Fr pD2 qR2 M N ∧ (∀ i, i < 7 ∨ 7 + E ≤ i → N.2.1 140 i = M.2.1 140 i) ∧ ∀ e, e < E → N.2.1 140 (7 + e) = if e < i then ltF u w c1 sm e else w (7 + e))
    (fun N => Fr pD2 qR2 M N ∧ (∀ i, i < 7 ∨ 7 + E ≤ i → N.2.1 140 i = M.2.1 140 i) ∧ ∀ e, e < E → N.2.1 140 (7 + e) = ltF u w c1 sm e) E (by omega) (i := 0) (s := M) (by
      rintro i N hi ⟨hF, g1, g2⟩
      try dsimp only
      have hRN : RV u N := hR.fr hF p130
      have hs := hRN.1
      unfold f_X12_dayGoes_K63
      rw [(r_many hs).2.2.1, Option.bind_some, hRN.2 131 _ (by decide) (by decide), hu.1.2.2.1]
      by_cases hiE : E ≤ i
      · right
        obtain rfl : i = E := by omega
        exact ⟨N, by rw [if_pos (nI_le hiE (by omega))], hF, g1, fun e he => by rw [g2 e he, if_pos he]⟩
      · have hgood := (hu.cod (by omega)).2.2.1
        have e137 : N.2.1 137 (3 + 1) = u 137 (3 + 1) := hRN.2 137 _ (by decide) (by decide)
        rw [if_neg (nI_ge (by omega) (by omega)), show (1 : Int32) = nI 1 from rfl, r_told hs (by decide), Option.bind_some, e137]
        rcases (hu.cod (by omega)).1.2.1 with ⟨d1, d2⟩ | ⟨fr, d1, d2, d3, d4⟩
        · right
          rw [bI_f (fun z => z d1), if_pos rfl]
          refine ⟨N, rfl, hF, g1, fun e he => ?_⟩
          have hl : ltF u w c1 sm e = w (7 + e) := by
            have hwl := hw.2.2.1 e he
            unfold ltF
            rw [d2, ev_l, hwl.1, nI_i (by omega)]
            unfold clm
            rw [if_neg (by omega), if_neg (by omega), Int.toNat_natCast]
          rw [g2 e he, hl]; split <;> rfl
        · left
          refine ⟨by omega, ?_⟩
          rw [bI_t (show u 137 (3 + 1) ≠ mI by rw [d1]; intro z; rw [cneg (by omega)] at z; exact z), if_neg (by decide), pi94 hs, Option.bind_some]
          have hs2 : RefS (wrI N 94 63 (nI i)).1 (wrI N 94 63 (nI i)).2.2.2 := hs
          have i5 : i < 5 := by omega
          have h140 : ∀ j, (wrI N 94 63 (nI i)).2.1 140 j = N.2.1 140 j := fun j => wrI_ne (by omega)
          have hR2 : ∀ a k, 130 ≤ a → a ≤ 139 → (wrI N 94 63 (nI i)).2.1 a k = u a k := fun a k h1 h2 => by rw [wrI_ne (by omega)]; exact hRN.2 a k h1 h2
          have v63 : (wrI N 94 63 (nI i)).2.1 94 63 = nI i := wrI_eq
          have vJ : ((wrI N 94 63 (nI i)).2.2.1 94 65).toInt = sm := by rw [wrI_lg, hF.j rfl]; exact hJ
          have fA : Fr pD2 qR2 M (wrI N 94 63 (nI i)) := hF.wi rfl
          generalize wrI N 94 63 (nI i) = N1 at *
          have henv2 : ∀ x ∈ c1, 40 ≤ x → x < 60 → envR N1.2.1 sm i 0 (x - 40) = envL u w sm i (x - 40) := by
            intro x hx a1 a2
            have := okc1 (hgood.2 x hx)
            have hk3 : x - 40 = 2 ∨ x - 40 = 3 ∨ x - 40 = 5 ∨ x - 40 = 6 ∨ x - 40 = 7 := by omega
            rcases hk3 with q | q | q | q | q <;> rw [q]
            · rw [envR_2, envL_2, hR2 135 _ (by decide) (by decide)]
            · rw [envR_3, envL_3, hR2 135 _ (by decide) (by decide)]
            · rw [envR_5, envL_5, h140, g2 i (by omega), if_neg (by omega)]
            · rw [envR_6, envL_6, h140, g1 0 (by omega), h0]
            · rw [envR_7, envL_7]
          obtain ⟨x, N2, t1, t2, t3, t4⟩ := r_tell (M := N1) (cs := c1) (b := false) (wh := 1) (car := 0) (e := i) (fr := fr) (wt := sm) (sh := z0) (dr := z0) hs2 (by decide) ((hR2 137 _ (by decide) (by decide)).trans d1) ((hR2 138 _ (by decide) (by decide)).trans d2) d3 (fun j hj => (hR2 139 _ (by decide) (by decide)).trans (d4 j hj)) (by decide) (fun y hy z => ⟨v63, i5⟩) vJ.symm
            (env_any (fun y hy a1 a2 => by rw [henv2 y hy a1 (by omega)]; exact envL_rg hu hw (by omega) hsm') (no60_1 hgood)) hgood.1 (no60_1 hgood)
          rw [evA_cong (env' := envL u w sm i) (sh' := z0) (dr' := z0) (fun y hy => ⟨henv2 y hy, no60_1 hgood y hy⟩)] at t2
          have hxv : x.toInt = evV (envL u w sm i) c1 := by unfold evV; rw [t2]; rfl
          have f2 : Fr pD2 qR2 M N2 := fA.tr (t4.mono (fun a k z => by unfold pD2 at z; unfold pR3; revert z; cases (a == 94) <;> cases (k == 122) <;> cases (k == 58) <;> simp) (fun _ _ z => z))
          have hs3 := f2.hs hR.1
          rw [gr94_59 hs2, Option.bind_some, show (0 : Int32) = nI 0 from rfl, t1]
          dsimp only [Option.bind_some]
          rw [show (99 : Int32) = nI 99 from rfl, cut_of (by decide), Option.bind_some, show (7 : Int32) + nI i = nI (7 + i) from nI_add 7 i, st140 hs3 (by omega), Option.bind_some, nI_add, hxv]
          have e140 : ∀ j, N2.2.1 140 j = N.2.1 140 j := fun j => by rw [t4.i rfl]; exact h140 j
          refine ⟨_, rfl, f2.wi rfl, fun j hj => ?_, fun e he => ?_⟩
          · rw [wrI_ne (by omega), e140]; exact g1 j hj
          · rw [wrI_get]
            by_cases hei : e = i
            · subst hei
              rw [if_pos ⟨rfl, rfl⟩, if_pos (by omega)]; rfl
            · rw [if_neg (by omega), e140, g2 e he]
              by_cases hlt : e < i
              · rw [if_pos hlt, if_pos (by omega)]
              · rw [if_neg hlt, if_neg (by omega)]) (by omega) ⟨Fr.rf, fun _ _ => rfl, fun e he => by rw [if_neg (by omega)]; exact hn e he⟩
  try dsimp only at k1
  exact ⟨N, k1, k2, k3, k4⟩
end RG
