/-! THE CLASS's readers of a district -/
theorem cell_n {M : sMem} {t q mx n a k : Nat} (hT : M.1[t]? = some (9, 4)) (hr : M.2.2.2 t 2 = some q) (hq : M.1[q]? = some (14, 4 * mx)) (hn : M.2.1 t 3 = nI n) (hnm : n ≤ mx) (hmx : mx ≤ 100) (ha : a < n) (hk : k < 4) : f_X9_cell t (nI a) (nI k) M = some (M.2.1 q (4 * a + k)) := by
  have e1 : (nI a).toInt = a := nI_i (by omega)
  have e2 : (nI k).toInt = k := nI_i (by omega)
  have e3 : (nI n).toInt = n := nI_i (by omega)
  rw [cell_of hT hr hq (mx := mx) (by rw [hn, e3]; omega) hmx (by rw [hn, e1, e3]; omega) (by rw [e2]; omega), e1, e2]
  congr 1
section CV
variable {u : Nat → Nat → Int32} {M N : sMem} {D G P E C W g k e c j : Nat} {c0 c1 c2 : List Nat}
theorem CV.hc (h : CV u M D G P E C W c0 c1 c2) : ClsS M.1 M.2.2.2 := h.1.1
theorem CV.hD (h : CV u M D G P E C W c0 c1 c2) : D = 10 ∨ D = 32 := h.1.2.1
theorem CV.ln (h : CV u M D G P E C W c0 c1 c2) : 187 ≤ M.1.length := h.1.2.2
theorem CV.p0 (h : CV u M D G P E C W c0 c1 c2) : gR 11 20 2 M 0 = some D := gR_of (cs0 h.hc) h.2.1.1
theorem CV.p67 (h : CV u M D G P E C W c0 c1 c2) : gR 0 7 3 M 67 = some D := gR_of (cs67 h.hc) h.2.1.2.1
theorem CV.p76 (h : CV u M D G P E C W c0 c1 c2) : gR 4 5 1 M 76 = some D := gR_of (cs76 h.hc) h.2.1.2.2.1
theorem CV.p80 (h : CV u M D G P E C W c0 c1 c2) : gR 7 2 1 M 80 = some D := gR_of (cs80 h.hc) h.2.1.2.2.2
theorem CV.mi (h : CV u M D G P E C W c0 c1 c2) : gI 1 10 0 M D = some (u 130 2) := by rw [giD h.hc h.hD, h.2.2.1.1]
theorem CV.pg (h : CV u M D G P E C W c0 c1 c2) : gI 1 10 9 M D = some (u 130 3) := by rw [giD h.hc h.hD, h.2.2.1.2.1]
theorem CV.nG (h : CV u M D G P E C W c0 c1 c2) : gI 9 4 3 M (D + 1) = some (nI G) := by rw [giD1 h.hc h.hD, h.2.2.1.2.2.1]
theorem CV.nP (h : CV u M D G P E C W c0 c1 c2) : gI 9 4 3 M (D + 4) = some (nI P) := by rw [giD4 h.hc h.hD, h.2.2.1.2.2.2.1]
theorem CV.nW (h : CV u M D G P E C W c0 c1 c2) : gI 9 4 3 M (D + 7) = some (nI W) := by rw [giD7 h.hc h.hD, h.2.2.1.2.2.2.2.1]
theorem CV.nE (h : CV u M D G P E C W c0 c1 c2) : gI 9 4 3 M (D + 10) = some (nI E) := by rw [giD10 h.hc h.hD, h.2.2.1.2.2.2.2.2.1]
theorem CV.nC (h : CV u M D G P E C W c0 c1 c2) : gI 9 4 3 M (D + 13) = some (nI C) := by rw [giD13 h.hc h.hD, h.2.2.1.2.2.2.2.2.2]
theorem CV.g1 (h : CV u M D G P E C W c0 c1 c2) : gR 1 10 1 M D = some (D + 1) := grD_1 h.hc h.hD
theorem CV.g2 (h : CV u M D G P E C W c0 c1 c2) : gR 1 10 2 M D = some (D + 4) := grD_2 h.hc h.hD
theorem CV.g3 (h : CV u M D G P E C W c0 c1 c2) : gR 1 10 3 M D = some (D + 7) := grD_3 h.hc h.hD
theorem CV.g4 (h : CV u M D G P E C W c0 c1 c2) : gR 1 10 4 M D = some (D + 10) := grD_4 h.hc h.hD
theorem CV.g5 (h : CV u M D G P E C W c0 c1 c2) : gR 1 10 5 M D = some (D + 13) := grD_5 h.hc h.hD
theorem CV.g6 (h : CV u M D G P E C W c0 c1 c2) : gR 1 10 6 M D = some (D + 16) := grD_6 h.hc h.hD
theorem CV.g7 (h : CV u M D G P E C W c0 c1 c2) : gR 1 10 7 M D = some (D + 18) := grD_7 h.hc h.hD
theorem CV.g8 (h : CV u M D G P E C W c0 c1 c2) : gR 1 10 8 M D = some (D + 20) := grD_8 h.hc h.hD
theorem rOf {c n k a q : Nat} (h : gR c n k M a = some q) (hs : M.1[a]? = some (c, n)) : M.2.2.2 a k = some q := by
  unfold gR at h; rw [if_pos hs] at h; exact h
theorem CV.cG (h : CV u M D G P E C W c0 c1 c2) (hu : DU u G P E C W c0 c1 c2) (hg : g < G) : f_X9_cell (D + 1) (nI g) (nI 0) M = some (u 133 (6 + g)) := by
  have hb := hu.2.1
  rw [cell_n (q := D + 3) (mx := 6) (n := G) (dsh1 h.hc h.hD) (rOf (grD1_2 h.hc h.hD) (dsh1 h.hc h.hD)) (dsh3 h.hc h.hD) h.2.2.1.2.2.1 (by omega) (by omega) hg (by omega), h.2.2.2.1 g hg]
theorem CV.cW (h : CV u M D G P E C W c0 c1 c2) (hu : DU u G P E C W c0 c1 c2) (hg : k < W) (hj : j < 4) : f_X9_cell (D + 7) (nI k) (nI j) M = some (u 134 (48 + 4 * k + j)) := by
  have hb := hu.2.1
  rw [cell_n (q := D + 9) (mx := 12) (n := W) (dsh7 h.hc h.hD) (rOf (grD7_2 h.hc h.hD) (dsh7 h.hc h.hD)) (dsh9 h.hc h.hD) h.2.2.1.2.2.2.2.1 (by omega) (by omega) hg (by omega), h.2.2.2.2.1 k j hg hj]
theorem CV.cE (h : CV u M D G P E C W c0 c1 c2) (hu : DU u G P E C W c0 c1 c2) (hg : e < E) (hj : j < 3) : f_X9_cell (D + 10) (nI e) (nI j) M = some (u 135 (15 + 3 * e + j)) := by
  have hb := hu.2.1
  rw [cell_n (q := D + 12) (mx := 5) (n := E) (dsh10 h.hc h.hD) (rOf (grD10_2 h.hc h.hD) (dsh10 h.hc h.hD)) (dsh12 h.hc h.hD) h.2.2.1.2.2.2.2.2.1 (by omega) (by omega) hg (by omega), h.2.2.2.2.2.1 e j hg hj]
theorem CV.cC (h : CV u M D G P E C W c0 c1 c2) (hu : DU u G P E C W c0 c1 c2) (hg : c < C) (hj : j < 3) : f_X9_cell (D + 13) (nI c) (nI j) M = some (u 136 (15 + 3 * c + j)) := by
  have hb := hu.2.1
  rw [cell_n (q := D + 15) (mx := 5) (n := C) (dsh13 h.hc h.hD) (rOf (grD13_2 h.hc h.hD) (dsh13 h.hc h.hD)) (dsh15 h.hc h.hD) h.2.2.1.2.2.2.2.2.2 (by omega) (by omega) hg (by omega), h.2.2.2.2.2.2.1 c j hg hj]
theorem CV.tG (h : CV u M D G P E C W c0 c1 c2) (a : Int32) : f_X9_isThere (D + 1) a M = some (bI (0 ≤ a.toInt ∧ a.toInt < (nI G).toInt)) := by
  rw [isThere_of (dsh1 h.hc h.hD), h.2.2.1.2.2.1]
theorem CV.tP (h : CV u M D G P E C W c0 c1 c2) (a : Int32) : f_X9_isThere (D + 4) a M = some (bI (0 ≤ a.toInt ∧ a.toInt < (nI P).toInt)) := by
  rw [isThere_of (dsh4 h.hc h.hD), h.2.2.1.2.2.2.1]
theorem CV.tE (h : CV u M D G P E C W c0 c1 c2) (a : Int32) : f_X9_isThere (D + 10) a M = some (bI (0 ≤ a.toInt ∧ a.toInt < (nI E).toInt)) := by
  rw [isThere_of (dsh10 h.hc h.hD), h.2.2.1.2.2.2.2.2.1]
theorem CV.tC (h : CV u M D G P E C W c0 c1 c2) (a : Int32) : f_X9_isThere (D + 13) a M = some (bI (0 ≤ a.toInt ∧ a.toInt < (nI C).toInt)) := by
  rw [isThere_of (dsh13 h.hc h.hD), h.2.2.1.2.2.2.2.2.2]
/-- static places that the districts don't have -/
def offD (X : Nat → Nat → Bool) : Prop := ∀ a k, X a k = true → (a < 10 ∨ 54 ≤ a) ∧ a < 187
def offR (R : Nat → Nat → Bool) : Prop := (∀ q ∈ clsRf, R q.1 q.2.1 = false) ∧ R 0 2 = false ∧ R 67 3 = false ∧ R 76 1 = false ∧ R 80 1 = false ∧ (∀ a, 10 ≤ a → a < 54 → R a 0 = false) ∧ ∀ q ∈ refRf, R 94 q.1 = false
theorem offD.no {X : Nat → Nat → Bool} (h : offD X) {a k : Nat} (ha : (10 ≤ a ∧ a < 54) ∨ 187 ≤ a) : X a k = false := by
  cases hx : X a k with
  | false => rfl
  | true => have := h a k hx; omega
theorem Prg.fr {X Q R : Nat → Nat → Bool} {p q n : Nat} {cs : List Nat} (h : Prg M p q n cs) (hF : FrA X Q R M N) (hp : X p 1 = false) (hq : ∀ i, X q i = false) (hr : R p 0 = false) : Prg N p q n cs := by
  obtain ⟨a1, a2, a3, a4, a5, a6, a7⟩ := h
  exact ⟨hF.1 _ _ a1, by rw [hF.2.2.2 _ _ (lt_of_sh a1) hr]; exact a2, hF.1 _ _ a3, by rw [hF.2.1 _ _ (lt_of_sh a1) hp]; exact a4, a5, a6, fun i hi => by rw [hF.2.1 _ _ (lt_of_sh a3) (hq i)]; exact a7 i hi⟩
theorem CV.fr {X Q R : Nat → Nat → Bool} (h : CV u M D G P E C W c0 c1 c2) (hF : FrA X Q R M N) (hX : offD X) (hR : offR R) : CV u N D G P E C W c0 c1 c2 := by
  have hc := h.hc
  have hD := h.hD
  have hl : 94 ≤ M.1.length := lt_of_sh (cs93 hc)
  have hD' : 10 ≤ D ∧ D + 22 ≤ 54 := by clear h; omega
  obtain ⟨z1, ⟨a1, a2, a3, a4⟩, ⟨b1, b2, b3, b4, b5, b6, b7⟩, b8, b9, b10, b11, b12⟩ := h
  have i1 : ∀ a k, 10 ≤ a → a < 54 → N.2.1 a k = M.2.1 a k := fun a k ha hb => hF.2.1 a k (by omega) (hX.no (Or.inl ⟨ha, hb⟩))
  refine ⟨⟨hF.hc hR.1 hc, hD, Nat.le_trans z1.2.2 hF.len⟩, ⟨?_, ?_, ?_, ?_⟩, ⟨?_, ?_, ?_, ?_, ?_, ?_, ?_⟩, ?_, ?_, ?_, ?_, fun ht => ?_⟩
  · rw [hF.2.2.2 0 2 (by omega) hR.2.1]; exact a1
  · rw [hF.2.2.2 67 3 (by omega) hR.2.2.1]; exact a2
  · rw [hF.2.2.2 76 1 (by omega) hR.2.2.2.1]; exact a3
  · rw [hF.2.2.2 80 1 (by omega) hR.2.2.2.2.1]; exact a4
  · rw [i1 _ _ (by omega) (by omega)]; exact b1
  · rw [i1 _ _ (by omega) (by omega)]; exact b2
  · rw [i1 _ _ (by omega) (by omega)]; exact b3
  · rw [i1 _ _ (by omega) (by omega)]; exact b4
  · rw [i1 _ _ (by omega) (by omega)]; exact b5
  · rw [i1 _ _ (by omega) (by omega)]; exact b6
  · rw [i1 _ _ (by omega) (by omega)]; exact b7
  · intro g hg; rw [i1 _ _ (by omega) (by omega)]; exact b8 g hg
  · intro k j hk hj; rw [i1 _ _ (by omega) (by omega)]; exact b9 k j hk hj
  · intro e j he hj; rw [i1 _ _ (by omega) (by omega)]; exact b10 e j he hj
  · intro c j hc hj; rw [i1 _ _ (by omega) (by omega)]; exact b11 c j hc hj
  · obtain ⟨⟨q0, n0, d1, d2⟩, ⟨q1, n1, d3, d4⟩, ⟨q2, n2, d5, d6⟩⟩ := b12 ht
    exact ⟨⟨q0, n0, d1.fr hF (hX.no (by omega)) (fun i => hX.no (by omega)) (hR.2.2.2.2.2.1 _ (by omega) (by omega)), d2⟩, ⟨q1, n1, d3.fr hF (hX.no (by omega)) (fun i => hX.no (by omega)) (hR.2.2.2.2.2.1 _ (by omega) (by omega)), d4⟩, ⟨q2, n2, d5.fr hF (hX.no (by omega)) (fun i => hX.no (by omega)) (hR.2.2.2.2.2.1 _ (by omega) (by omega)), d6⟩⟩
theorem CV.fb {X Q R : Nat → Nat → Bool} (h : CV u M D G P E C W c0 c1 c2) (hF : FrB X Q R M N) (hX : offD X) (hR : offR R) : CV u N D G P E C W c0 c1 c2 := h.fr hF.1 hX hR
/-- the head, by the class -/
theorem c_headOf (h : CV u M D G P E C W c0 c1 c2) (hu : DU u G P E C W c0 c1 c2) (he : e < E) (l m : Int32) : f_X4_headOf 76 (nI e) l m M = some (hdU u e l m) := by
  unfold f_X4_headOf f_X4_headOf_B69 f_X4_headOf_B70
  have hc := h.hc
  have e2 := h.cE hu he (j := 2) (by omega)
  have e1 := h.cE hu he (j := 1) (by omega)
  have e0 := h.cE hu he (j := 0) (by omega)
  rw [show 15 + 3 * e + 2 = 17 + 3 * e by omega] at e2
  rw [show 15 + 3 * e + 1 = 16 + 3 * e by omega] at e1
  rw [show 15 + 3 * e + 0 = 15 + 3 * e by omega] at e0
  simp (disch := first | assumption | (simp only [wrI_sh, wrI_rf, wrJ_sh, wrJ_rf]; assumption) | omega | rfl | decide) only [gi76, gj76, pi76, pj76, pr76, sr76, gr76_0, gr76_2, gr76_3, gr76_4, h.p76, h.g4, e2, e1, e0, h.mi, cle, clt, ceq, cneg, cneg', nlit, nneg, nI_add, pk_mul, nsub, Option.bind_some, if_true, if_false, Nat.reduceEqDiff, Nat.reduceLeDiff, Nat.reduceLT, Nat.reduceAdd, Nat.reduceMul, Nat.reduceSub]
  unfold hdU
  generalize (m - u 135 (17 + 3 * e) - l) = x
  by_cases h1 : x < nI 0
  · rw [if_pos h1, if_pos h1]
  · rw [if_neg h1, if_neg h1]
    by_cases h2 : u 130 2 < x * u 135 (16 + 3 * e) - u 135 (15 + 3 * e)
    · rw [if_pos h2, if_neg (Int32.not_le.mpr h2)]
    · rw [if_neg h2, if_pos (Int32.not_lt.mp h2)]
end CV
