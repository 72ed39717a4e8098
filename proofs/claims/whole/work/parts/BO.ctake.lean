/-! THE CLASS takes a district over: days, state -/
section CTK
variable {M N : sMem} {D n : Nat}
theorem cls_wr {a k : Nat} {x : Option Nat} (hc : ClsS M.1 M.2.2.2) (h : ∀ q ∈ clsRf, ¬ (q.1 = a ∧ q.2.1 = k)) : ClsS (wrR M a k x).1 (wrR M a k x).2.2.2 := ⟨hc.1, fun q hq => by rw [wrR_get, if_neg (h q hq)]; exact hc.2 q hq⟩
theorem ref_wr {a k : Nat} {x : Option Nat} (hs : RefS M.1 M.2.2.2) (h : a ≠ 94) : RefS (wrR M a k x).1 (wrR M a k x).2.2.2 := ⟨hs.1, fun q hq => by rw [wrR_get, if_neg (by omega)]; exact hs.2 q hq⟩
theorem c_take (hc : ClsS M.1 M.2.2.2) : ∃ N, f_X0_take 67 D M = some N ∧ ClsS N.1 N.2.2.2 ∧ N.1 = M.1 ∧ N.2.2.1 = M.2.2.1 ∧ (∀ a k, N.2.2.2 a k = if (a = 67 ∧ k = 3) ∨ (a = 80 ∧ k = 1) ∨ (a = 76 ∧ k = 1) then some D else M.2.2.2 a k) ∧ (∀ a k, a ≠ 78 → N.2.1 a k = M.2.1 a k) ∧ ∀ k, k < 500 → N.2.1 78 k = 0 := by
  unfold f_X0_take f_X4_take
  obtain ⟨M1, m1⟩ : ∃ M1, M1 = wrR M 67 3 (some D) := ⟨_, rfl⟩
  have c1 : ClsS M1.1 M1.2.2.2 := by rw [m1]; exact cls_wr hc (by decide)
  obtain ⟨M2, m2⟩ : ∃ M2, M2 = wrR M1 80 1 (some D) := ⟨_, rfl⟩
  have c2 : ClsS M2.1 M2.2.2.2 := by rw [m2]; exact cls_wr c1 (by decide)
  obtain ⟨M3, m3⟩ : ∃ M3, M3 = wrR M2 76 1 (some D) := ⟨_, rfl⟩
  have c3 : ClsS M3.1 M3.2.2.2 := by rw [m3]; exact cls_wr c2 (by decide)
  obtain ⟨N, f1, f2, f3⟩ := fillI (cs78 c3) (by decide) 0
  rw [sr67 hc, pR_of (cs67 hc), Option.bind_some, ← m1, gr67_2 c1, Option.bind_some, pR_of (cs80 c1), Option.bind_some, ← m2, gr67_1 c2, Option.bind_some, sr76 c2, pR_of (cs76 c2), Option.bind_some, ← m3, gr76_3 c3, Option.bind_some, f1]
  have e1 : M3.1 = M.1 := by rw [m3, m2, m1]; rfl
  have e2 : M3.2.1 = M.2.1 := by rw [m3, m2, m1]; rfl
  have e3 : M3.2.2.1 = M.2.2.1 := by rw [m3, m2, m1]; rfl
  refine ⟨N, rfl, f2.hc c3, f2.1.trans e1, ?_, fun a k => ?_, fun a k ha => ?_, f3⟩
  · funext a k; rw [f2.j rfl, e3]
  · rw [f2.2.1, m3, wrR_get, m2, wrR_get, m1, wrR_get]
    by_cases q1 : a = 76 ∧ k = 1
    · rw [if_pos q1, if_pos (by omega)]
    · rw [if_neg q1]
      by_cases q2 : a = 80 ∧ k = 1
      · rw [if_pos q2, if_pos (by omega)]
      · rw [if_neg q2]
        by_cases q3 : a = 67 ∧ k = 3
        · rw [if_pos q3, if_pos (by omega)]
        · rw [if_neg q3, if_neg (by omega)]
  · rw [f2.i (show (a == 78) = false from beq_eq_false_iff_ne.mpr ha), e2]
/-- the cars' cells, also of cars that are not there -/
theorem cell_any (hc : ClsS M.1 M.2.2.2) (hD : D = 10 ∨ D = 32) (hn : M.2.1 (D + 13) 3 = nI n) (hn5 : n ≤ 5) {a k : Nat} (ha : a < 5) (hk : k < 4) : f_X9_cell (D + 13) (nI a) (nI k) M = some (if a < n then M.2.1 (D + 15) (4 * a + k) else -1) := by
  obtain ⟨h1, h2, h3, h4, h5⟩ := dTb (kd := 3) hc hD (by decide)
  by_cases q : a < n
  · rw [if_pos q]
    exact cell_n (mx := 5) h1 h3 h5 hn hn5 (by decide) q hk
  · rw [if_neg q]
    unfold f_X9_cell f_X9_cell_B25 f_X9_cell_B26
    rw [sRc_of (show M.1[D + 13]? = some (9, 4) from h1), if_neg (by rw [show (0 : Int32) = nI 0 from rfl, clt (by omega) (by decide)]; omega), gI_of (show M.1[D + 13]? = some (9, 4) from h1), Option.bind_some, hn, if_pos (by rw [cle (by omega) (by omega)]; omega), if_pos rfl]
theorem c_begin (hc : ClsS M.1 M.2.2.2) (hD : D = 10 ∨ D = 32) (hn : M.2.1 (D + 13) 3 = nI n) (hn5 : n ≤ 5) : ∃ N, f_X8_start 54 D M = some N ∧ N.1 = M.1 ∧ N.2.2 = M.2.2 ∧ (∀ a k, ¬ (54 ≤ a ∧ a ≤ 58) → N.2.1 a k = M.2.1 a k) ∧ (N.2.1 54 0 = 0 ∧ N.2.1 54 1 = 0 ∧ N.2.1 54 7 = 0) ∧ (∀ k, k < 5 → N.2.1 55 k = 0 ∧ N.2.1 58 k = 0) ∧ ∀ c, c < n → N.2.1 56 c = M.2.1 (D + 15) (4 * c + 0) ∧ N.2.1 57 c = M.2.1 (D + 15) (4 * c + 1) := by
  unfold f_X8_start
  obtain ⟨M1, m1⟩ : ∃ M1, M1 = wrI (wrI (wrI M 54 0 0) 54 1 0) 54 7 0 := ⟨_, rfl⟩
  have c1 : ClsS M1.1 M1.2.2.2 := by rw [m1]; exact hc
  have v1 : ∀ a k, M1.2.1 a k = if a = 54 ∧ k = 7 then 0 else if a = 54 ∧ k = 1 then 0 else if a = 54 ∧ k = 0 then 0 else M.2.1 a k := fun a k => by rw [m1, wrI_get, wrI_get, wrI_get]
  obtain ⟨M2, f1, f2, f3⟩ := fillI (cs55 c1) (by decide) 0
  have c2 := f2.hc c1
  obtain ⟨M3, g1, g2, g3⟩ := fillI (cs58 c2) (by decide) 0
  have c3 := g2.hc c2
  rw [sr54 hc, pI_of (cs54 hc), Option.bind_some, pI_of (M := wrI M 54 0 0) (cs54 hc), Option.bind_some, pI_of (M := wrI (wrI M 54 0 0) 54 1 0) (cs54 hc), Option.bind_some, ← m1, gr54_2 c1, Option.bind_some, f1, Option.bind_some, gr54_5 c2, Option.bind_some, g1, Option.bind_some]
  have v3 : ∀ a k, a ≠ 55 → a ≠ 58 → M3.2.1 a k = M1.2.1 a k := fun a k h1 h2 => by rw [g2.i (show (a == 58) = false from beq_eq_false_iff_ne.mpr h2), f2.i (show (a == 55) = false from beq_eq_false_iff_ne.mpr h1)]
  have hb : M3.1 = M.1 ∧ M3.2.2.2 = M.2.2.2 := ⟨by rw [g2.1, f2.1, m1]; rfl, by rw [g2.2.1, f2.2.1, m1]; rfl⟩
  have hj : M3.2.2.1 = M.2.2.1 := by funext a k; rw [g2.j rfl, f2.j rfl, m1]; rfl
  unfold f_X8_start_L33
  obtain ⟨r, r1, r2, r3, r4, r5, r6⟩ := itr_g (f := fun a : Int32 × sMem => f_X8_start_K33 54 D a.1 a.2) (fun k s => (nI k, s)) (fun k s => s.1 = M.1 ∧ s.2.2.2 = M.2.2.2 ∧ s.2.2.1 = M.2.2.1 ∧ (∀ a j, ¬ (a = 56 ∨ a = 57) → s.2.1 a j = M3.2.1 a j) ∧ ∀ c, c < k → c < n → s.2.1 56 c = M.2.1 (D + 15) (4 * c + 0) ∧ s.2.1 57 c = M.2.1 (D + 15) (4 * c + 1)) (fun s => s.1 = M.1 ∧ s.2.2.2 = M.2.2.2 ∧ s.2.2.1 = M.2.2.1 ∧ (∀ a j, ¬ (a = 56 ∨ a = 57) → s.2.1 a j = M3.2.1 a j) ∧ ∀ c, c < n → s.2.1 56 c = M.2.1 (D + 15) (4 * c + 0) ∧ s.2.1 57 c = M.2.1 (D + 15) (4 * c + 1)) 5 (by decide) (fun k s hk hI => by
    obtain ⟨i1, i2, i3, i4, i5⟩ := hI
    have hcs : ClsS s.1 s.2.2.2 := by rw [i1, i2]; exact hc
    dsimp only
    unfold f_X8_start_K33
    by_cases q : k < 5
    · left
      refine ⟨q, ?_⟩
      have vD : ∀ a j, D + 13 ≤ a → a ≤ D + 15 → s.2.1 a j = M.2.1 a j := fun a j h1 h2 => by rw [i4 _ _ (by omega), v3 _ _ (by omega) (by omega), v1, if_neg (by omega), if_neg (by omega), if_neg (by omega)]
      have hns : s.2.1 (D + 13) 3 = nI n := by rw [vD _ _ (by omega) (by omega)]; exact hn
      obtain ⟨S1, t1⟩ : ∃ S1, S1 = wrI s 56 k (if k < n then s.2.1 (D + 15) (4 * k + 0) else -1) := ⟨_, rfl⟩
      have hcs1 : ClsS S1.1 S1.2.2.2 := by rw [t1]; exact hcs
      have hns1 : S1.2.1 (D + 13) 3 = nI n := by rw [t1, wrI_ne (by omega)]; exact hns
      rw [if_neg (by rw [show (5 : Int32) = nI 5 from rfl, cle (by decide) (by omega)]; omega), gr54_3 hcs, Option.bind_some, grD_5 hcs hD, Option.bind_some, show (0 : Int32) = nI 0 from rfl, cell_any hcs hD hns hn5 q (by decide), Option.bind_some, stI_n (cs56 hcs) q (by decide), Option.bind_some, ← t1, gr54_4 hcs1, Option.bind_some, grD_5 hcs1 hD, Option.bind_some, show f_X9_cell (D + 13) (nI k) 1 S1 = _ from cell_any (k := 1) hcs1 hD hns1 hn5 q (by decide), Option.bind_some, stI_n (cs57 hcs1) q (by decide), Option.bind_some, nI_1]
      refine ⟨_, rfl, by rw [show (wrI S1 57 k _).1 = S1.1 from rfl, t1]; exact i1, by rw [t1]; exact i2, by rw [t1]; exact i3, fun a j h => ?_, fun c hck hcn => ?_⟩
      · rw [wrI_ne (by omega), t1, wrI_ne (by omega)]; exact i4 a j h
      · by_cases w : c = k
        · subst w
          refine ⟨?_, ?_⟩
          · rw [wrI_ne (by omega), t1, wrI_eq, if_pos hcn, vD _ _ (by omega) (by omega)]
          · rw [wrI_eq, if_pos hcn, t1, wrI_ne (by omega), vD _ _ (by omega) (by omega)]
        · rw [wrI_ne (by omega), wrI_ne (by omega), t1, wrI_ne (by omega), wrI_ne (by omega)]
          exact i5 c (by omega) hcn
    · right
      have hkn : k = 5 := by omega
      subst hkn
      rw [if_pos (by decide)]
      exact ⟨s, rfl, i1, i2, i3, i4, fun c hcn => i5 c (by omega) hcn⟩) (i := 0) (s := M3) (by decide) ⟨hb.1, hb.2, hj, fun a j _ => rfl, fun c h => by omega⟩
  replace r1 : sItr (fun a : Int32 × sMem => f_X8_start_K33 54 D a.1 a.2) sFuel (0, M3) = some r := r1
  rw [r1]
  have k54 : ∀ j, r.2.1 54 j = M1.2.1 54 j := fun j => by rw [r5 _ _ (by omega), v3 _ _ (by omega) (by omega)]
  refine ⟨r, rfl, r2, Prod.ext r4 r3, fun a k h => ?_, ⟨?_, ?_, ?_⟩, fun k hk => ⟨?_, ?_⟩, r6⟩
  · rw [r5 _ _ (by omega), v3 _ _ (by omega) (by omega), v1, if_neg (by omega), if_neg (by omega), if_neg (by omega)]
  · rw [k54, v1, if_neg (by omega), if_neg (by omega), if_pos (by omega)]
  · rw [k54, v1, if_neg (by omega), if_pos (by omega)]
  · rw [k54, v1, if_pos (by omega)]
  · rw [r5 _ _ (by omega), g2.i rfl, f3 k hk]
  · rw [r5 _ _ (by omega), g3 k hk]
end CTK
