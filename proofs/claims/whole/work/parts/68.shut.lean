/-! WHEN AN ERA SHUTS A GATE -/
def z0 : Int → Int := fun _ => 0
def envS (u : Nat → Nat → Int32) (e g : Nat) (l m : Int32) (k : Nat) : Int := if k = 0 then (u 133 (6 + g) - hdU u e l m).toInt else if k = 1 then (hdU u e l m - u 135 (15 + 3 * e) - u 133 (6 + g)).toInt else if k = 2 then (u 135 (15 + 3 * e)).toInt else if k = 3 then (u 135 (16 + 3 * e)).toInt else m.toInt
def shutS (u : Nat → Nat → Int32) (c0 : List Nat) (e g : Nat) (l m : Int32) : Bool := decide (hdU u e l m ≠ mI ∧ evA (envS u e g l m) z0 z0 c0 [] = [1])
/-- the reference's memory holds the data u -/
def RV (u : Nat → Nat → Int32) (M : sMem) : Prop := RefS M.1 M.2.2.2 ∧ ∀ a k, 130 ≤ a → a ≤ 139 → M.2.1 a k = u a k
theorem okc0 {c : Nat} (h : okCode 0 c = true) : c < 40 ∨ 1000 ≤ c ∨ (40 ≤ c ∧ c < 45) := by
  unfold okCode okPart at h
  simp only [if_true, Bool.or_eq_true, Bool.and_eq_true, decide_eq_true_eq] at h
  omega
theorem okc1 {c : Nat} (h : okCode 1 c = true) : c < 40 ∨ 1000 ≤ c ∨ c = 42 ∨ c = 43 ∨ c = 45 ∨ c = 46 ∨ c = 47 := by
  unfold okCode okPart at h
  simp only [if_neg (show ¬ (1 : Nat) = 0 by decide), if_true, Bool.or_eq_true, Bool.and_eq_true, decide_eq_true_eq, beq_iff_eq] at h
  omega
theorem okc2 {c : Nat} (h : okCode 2 c = true) : c < 40 ∨ 1000 ≤ c ∨ c = 46 ∨ c = 47 ∨ c = 48 := by
  unfold okCode okPart at h
  simp only [if_neg (show ¬ (2 : Nat) = 0 by decide), if_neg (show ¬ (2 : Nat) = 1 by decide), if_true, Bool.or_eq_true, Bool.and_eq_true, decide_eq_true_eq, beq_iff_eq] at h
  omega
theorem env_any {env : Nat → Int} {sh dr : Int → Int} {cs : List Nat} (h : ∀ c ∈ cs, 40 ≤ c → c < 53 → -1000000 ≤ env (c - 40) ∧ env (c - 40) ≤ 1000000) (h6 : ∀ c ∈ cs, c < 60 ∨ 1000 ≤ c) : Env env sh dr cs :=
  fun c hc => ⟨h c hc, fun a b => by have := h6 c hc; omega⟩
section SH
variable {u : Nat → Nat → Int32} {M N : sMem} {D G P E C W g k e c l m : Nat} {c0 c1 c2 : List Nat}
theorem hd_rg (hu : DU u G P E C W c0 c1 c2) (he : e < E) (hl : l < 100) (hm : m < 200) : hdU u e (nI l) (nI m) = mI ∨ (0 ≤ (hdU u e (nI l) (nI m)).toInt ∧ (hdU u e (nI l) (nI m)).toInt ≤ 90) := by
  obtain ⟨a1, a2, a3, a4, a5, a6⟩ := hu.2.2.2.2.1 e he
  have hmi := hu.2.2.1
  have em : (nI m).toInt = m := nI_i (by omega)
  have el : (nI l).toInt = l := nI_i (by omega)
  unfold hdU
  have hx : (nI m - u 135 (17 + 3 * e) - nI l).toInt = m - (u 135 (17 + 3 * e)).toInt - l := by
    have : (nI m - u 135 (17 + 3 * e)).toInt = m - (u 135 (17 + 3 * e)).toInt := by rw [sub_i (by omega) (by omega), em]
    rw [sub_i (by omega) (by omega), this, el]
  generalize hxx : nI m - u 135 (17 + 3 * e) - nI l = x at *
  by_cases h1 : x < nI 0
  · rw [if_pos h1]; exact Or.inl rfl
  · rw [if_neg h1]
    have h1' : ¬ x.toInt < (nI 0).toInt := fun q => h1 (lt_i.mpr q)
    rw [show (nI 0).toInt = 0 from rfl] at h1'
    have hb : (x.toInt * (u 135 (16 + 3 * e)).toInt).natAbs ≤ 200 * 9 := by
      rw [Int.natAbs_mul]
      exact Nat.mul_le_mul (by omega) (by omega)
    have hb0 : 0 ≤ x.toInt * (u 135 (16 + 3 * e)).toInt := Int.mul_nonneg (by omega) (by omega)
    have hp : (x * u 135 (16 + 3 * e)).toInt = x.toInt * (u 135 (16 + 3 * e)).toInt := mul_i (by omega) (by omega)
    by_cases h2 : x * u 135 (16 + 3 * e) - u 135 (15 + 3 * e) ≤ u 130 2
    · rw [if_pos h2]
      have h2' := le_i.mp h2
      rw [sub_i (by omega) (by omega)] at h2'
      right
      omega
    · rw [if_neg h2]; exact Or.inl rfl
theorem envS_ok (hu : DU u G P E C W c0 c1 c2) (he : e < E) (hg : g < G) (hl : l < 100) (hm : m < 200) (hh : hdU u e (nI l) (nI m) ≠ mI) (hk : k < 5) : -1000000 ≤ envS u e g (nI l) (nI m) k ∧ envS u e g (nI l) (nI m) k ≤ 1000000 := by
  obtain ⟨a1, a2, a3, a4, a5, a6⟩ := hu.2.2.2.2.1 e he
  have b := hu.2.2.2.1 g hg
  have c := (hd_rg hu he hl hm).resolve_left hh
  unfold envS
  by_cases h0 : k = 0
  · rw [if_pos h0, sub_i (by omega) (by omega)]; omega
  · rw [if_neg h0]
    by_cases h1 : k = 1
    · have : (hdU u e (nI l) (nI m) - u 135 (15 + 3 * e)).toInt = (hdU u e (nI l) (nI m)).toInt - (u 135 (15 + 3 * e)).toInt := sub_i (by omega) (by omega)
      rw [if_pos h1, sub_i (by omega) (by omega)]; omega
    · rw [if_neg h1]
      by_cases h2 : k = 2
      · rw [if_pos h2]; omega
      · rw [if_neg h2]
        by_cases h3 : k = 3
        · rw [if_pos h3]; omega
        · rw [if_neg h3, nI_i (by omega)]; omega
theorem no60 (h : GoodC 0 c0) : ∀ c ∈ c0, c < 60 ∨ 1000 ≤ c := fun c hc => by have := okc0 (h.2 c hc); omega
/-- without a statement of it -/
theorem ev_dfl {env : Nat → Int} {sh dr : Int → Int} : evA env sh dr (dfl 0) [] = [(if env 0 < 3 then 1 else 0) * (if env 1 < 1 then 1 else 0)] := by
  simp only [dfl, evA, evS, if_true, if_pos (show 1000 ≤ 1003 by decide), if_pos (show 1000 ≤ 1001 by decide), if_neg (show ¬ 1000 ≤ 40 by decide), if_neg (show ¬ 1000 ≤ 41 by decide), if_neg (show ¬ 1000 ≤ 7 by decide), if_neg (show ¬ 1000 ≤ 10 by decide), if_neg (show ¬ 60 ≤ 40 by decide), if_neg (show ¬ 60 ≤ 41 by decide), if_neg (show ¬ 60 ≤ 7 by decide), if_neg (show ¬ 60 ≤ 10 by decide), if_pos (show 40 ≤ 40 by decide), if_pos (show 40 ≤ 41 by decide), if_neg (show ¬ 40 ≤ 7 by decide), if_neg (show ¬ 40 ≤ 10 by decide), if_neg (show ¬ 7 = 13 by decide), if_neg (show ¬ 10 = 13 by decide), if_neg (show ¬ 7 = 12 by decide), if_neg (show ¬ 10 = 12 by decide), op_7, op_10]
  rfl
def pSh : Nat → Nat → Bool := fun a k => a == 94 && (k == 122 || k == 58 || k == 61 || k == 62 || k == 63 || k == 64)
theorem r_doesShut (hR : RV u M) (hu : DU u G P E C W c0 c1 c2) (he : e < E) (hg : g < G) (hl : l < 100) (hm : m < 200) : ∃ N, f_X12_doesShut 94 (nI e) (nI l) (nI g) (nI m) M = some (bI (shutS u c0 e g (nI l) (nI m) = true), N) ∧ Fr pSh qR2 M N := by
  have hs := hR.1
  have hb := hu.2.1
  have hhd : hdU M.2.1 e (nI l) (nI m) = hdU u e (nI l) (nI m) := by
    unfold hdU
    rw [hR.2 135 _ (by decide) (by decide), hR.2 135 _ (by decide) (by decide), hR.2 135 _ (by decide) (by decide), hR.2 130 _ (by decide) (by decide)]
  unfold f_X12_doesShut f_X12_doesShut_B78
  rw [sr94 hs, r_headOf hs (by omega), Option.bind_some, hhd]
  by_cases h1 : hdU u e (nI l) (nI m) = mI
  · rw [if_pos (show hdU u e (nI l) (nI m) = (-1 : Int32) from h1)]
    refine ⟨M, ?_, Fr.rf⟩
    rw [bI_f (fun q => by unfold shutS at q; exact (of_decide_eq_true q).1 h1)]
  · rw [if_neg (show ¬ hdU u e (nI l) (nI m) = (-1 : Int32) from h1)]
    have hsh : shutS u c0 e g (nI l) (nI m) = true ↔ evA (envS u e g (nI l) (nI m)) z0 z0 c0 [] = [1] := by
      unfold shutS; rw [decide_eq_true_eq]; exact ⟨fun q => q.2, fun q => ⟨h1, q⟩⟩
    generalize hH : hdU u e (nI l) (nI m) = H at *
    rw [r_mileOf hs (by omega), Option.bind_some, pi94 hs, Option.bind_some]
    have hs1 : RefS (wrI M 94 61 (M.2.1 133 (6 + g) - H)).1 (wrI M 94 61 (M.2.1 133 (6 + g) - H)).2.2.2 := hs
    rw [gr94_50 hs1, Option.bind_some, nl 15, nl 3, pk_mul, nI_add, ld135 hs1 (by omega), Option.bind_some, r_mileOf hs1 (by omega), Option.bind_some, pi94 hs1, Option.bind_some, wrI_ne (by omega), wrI_ne (by omega)]
    have hs2 : RefS (wrI (wrI M 94 61 (M.2.1 133 (6 + g) - H)) 94 62 (H - M.2.1 135 (15 + 3 * e) - M.2.1 133 (6 + g))).1 (wrI (wrI M 94 61 (M.2.1 133 (6 + g) - H)) 94 62 (H - M.2.1 135 (15 + 3 * e) - M.2.1 133 (6 + g))).2.2.2 := hs
    have f2 : Fr pSh qR2 M (wrI (wrI M 94 61 (M.2.1 133 (6 + g) - H)) 94 62 (H - M.2.1 135 (15 + 3 * e) - M.2.1 133 (6 + g))) := (Fr.rf.wi (a := 94) (k := 61) rfl).wi rfl
    have v61 : (wrI (wrI M 94 61 (M.2.1 133 (6 + g) - H)) 94 62 (H - M.2.1 135 (15 + 3 * e) - M.2.1 133 (6 + g))).2.1 94 61 = M.2.1 133 (6 + g) - H := by rw [wrI_ne (by omega), wrI_eq]
    have v62 : (wrI (wrI M 94 61 (M.2.1 133 (6 + g) - H)) 94 62 (H - M.2.1 135 (15 + 3 * e) - M.2.1 133 (6 + g))).2.1 94 62 = H - M.2.1 135 (15 + 3 * e) - M.2.1 133 (6 + g) := wrI_eq
    generalize wrI (wrI M 94 61 (M.2.1 133 (6 + g) - H)) 94 62 (H - M.2.1 135 (15 + 3 * e) - M.2.1 133 (6 + g)) = M2 at *
    have k3 : nI (3 + 0) = (3 : Int32) := rfl
    unfold f_X12_isTold
    rw [sr94 hs2, gr94_52 hs2, Option.bind_some, show (3 : Int32) + 0 = nI 3 from rfl, ld137 hs2 (by decide), Option.bind_some, f2.2.2.1 137 _ rfl, hR.2 137 _ (by decide) (by decide)]
    have e61 : (M.2.1 133 (6 + g) - H).toInt = envS u e g (nI l) (nI m) 0 := by
      unfold envS; rw [if_pos rfl, hR.2 133 _ (by decide) (by decide), hH]
    have e62 : (H - M.2.1 135 (15 + 3 * e) - M.2.1 133 (6 + g)).toInt = envS u e g (nI l) (nI m) 1 := by
      unfold envS; rw [if_neg (by decide), if_pos rfl, hR.2 133 _ (by decide) (by decide), hR.2 135 _ (by decide) (by decide), hH]
    rcases (hu.cod (by omega)).1.1 with ⟨hn, hd⟩ | ⟨fr, d1, d2, d3, d4⟩
    · rw [show u 137 3 = (-1 : Int32) from hn, if_pos rfl, Option.bind_some, if_pos rfl, gi94 hs2, Option.bind_some, gi94 hs2, Option.bind_some, v61, v62]
      have hev : evA (envS u e g (nI l) (nI m)) z0 z0 c0 [] = [(if envS u e g (nI l) (nI m) 0 < 3 then 1 else 0) * (if envS u e g (nI l) (nI m) 1 < 1 then 1 else 0)] := by rw [hd]; exact ev_dfl
      rw [hev] at hsh
      have i3 : (nI 3).toInt = 3 := rfl
      have i1 : (1 : Int32).toInt = 1 := rfl
      rw [← e61, ← e62] at hsh
      by_cases h3 : nI 3 ≤ M.2.1 133 (6 + g) - H
      · have h3' := le_i.mp h3
        rw [if_pos h3]
        refine ⟨M2, ?_, f2⟩
        rw [bI_f (fun q => by have := hsh.mp q; rw [if_neg (by omega)] at this; simp at this)]
      · rw [if_neg h3]
        have h3' : ¬ (nI 3).toInt ≤ (M.2.1 133 (6 + g) - H).toInt := fun q => h3 (le_i.mpr q)
        by_cases h4 : (1 : Int32) ≤ H - M.2.1 135 (15 + 3 * e) - M.2.1 133 (6 + g)
        · have h4' := le_i.mp h4
          rw [if_pos h4]
          refine ⟨M2, ?_, f2⟩
          rw [bI_f (fun q => by have := hsh.mp q; rw [if_pos (by omega), if_neg (by omega)] at this; simp at this)]
        · have h4' : ¬ (1 : Int32).toInt ≤ (H - M.2.1 135 (15 + 3 * e) - M.2.1 133 (6 + g)).toInt := fun q => h4 (le_i.mpr q)
          rw [if_neg h4]
          refine ⟨M2, ?_, f2⟩
          rw [bI_t (hsh.mpr (by rw [if_pos (by omega), if_pos (by omega)]; rfl))]
    · have hne : ¬ u 137 3 = (-1 : Int32) := by
        intro q
        change u 137 3 = mI at q
        rw [show u 137 3 = nI fr from d1, cneg (by omega)] at q
        exact q
      rw [if_neg hne, Option.bind_some, if_neg (by decide), pi94 hs2, Option.bind_some]
      have hs3 : RefS (wrI M2 94 63 (nI e)).1 (wrI M2 94 63 (nI e)).2.2.2 := hs2
      rw [pi94 hs3, Option.bind_some]
      have hs4 : RefS (wrI (wrI M2 94 63 (nI e)) 94 64 (nI m)).1 (wrI (wrI M2 94 63 (nI e)) 94 64 (nI m)).2.2.2 := hs2
      have f4 : Fr pSh qR2 M (wrI (wrI M2 94 63 (nI e)) 94 64 (nI m)) := (f2.wi (a := 94) (k := 63) rfl).wi rfl
      have w61 : (wrI (wrI M2 94 63 (nI e)) 94 64 (nI m)).2.1 94 61 = M.2.1 133 (6 + g) - H := by rw [wrI_ne (by omega), wrI_ne (by omega)]; exact v61
      have w62 : (wrI (wrI M2 94 63 (nI e)) 94 64 (nI m)).2.1 94 62 = H - M.2.1 135 (15 + 3 * e) - M.2.1 133 (6 + g) := by rw [wrI_ne (by omega), wrI_ne (by omega)]; exact v62
      have w63 : (wrI (wrI M2 94 63 (nI e)) 94 64 (nI m)).2.1 94 63 = nI e := by rw [wrI_ne (by omega), wrI_eq]
      have w64 : (wrI (wrI M2 94 63 (nI e)) 94 64 (nI m)).2.1 94 64 = nI m := wrI_eq
      generalize wrI (wrI M2 94 63 (nI e)) 94 64 (nI m) = M4 at *
      have hgood := (hu.cod (by omega)).2.1
      have henv : ∀ c ∈ c0, 40 ≤ c → c < 60 → envR M4.2.1 (M4.2.2.1 94 65).toInt e 0 (c - 40) = envS u e g (nI l) (nI m) (c - 40) := by
        intro c hc a1 a2
        have hk5 : c - 40 = 0 ∨ c - 40 = 1 ∨ c - 40 = 2 ∨ c - 40 = 3 ∨ c - 40 = 4 := by have := okc0 (hgood.2 c hc); omega
        rcases hk5 with q | q | q | q | q <;> rw [q]
        · exact (congrArg Int32.toInt w61).trans e61
        · exact (congrArg Int32.toInt w62).trans e62
        · show (M4.2.1 135 (15 + 3 * e)).toInt = (u 135 (15 + 3 * e)).toInt
          rw [f4.2.2.1 135 _ rfl, hR.2 135 _ (by decide) (by decide)]
        · show (M4.2.1 135 (16 + 3 * e)).toInt = (u 135 (16 + 3 * e)).toInt
          rw [f4.2.2.1 135 _ rfl, hR.2 135 _ (by decide) (by decide)]
        · show (M4.2.1 94 64).toInt = (nI m).toInt
          rw [w64]
      obtain ⟨x, N, t1, t2, t3, t4⟩ := r_tell (M := M4) (cs := c0) (b := true) (wh := 0) (car := 0) (e := e) (fr := fr) (sh := z0) (dr := z0) hs4 (by decide) (by rw [f4.2.2.1 137 _ rfl, hR.2 137 _ (by decide) (by decide)]; exact d1) (by rw [f4.2.2.1 138 _ rfl, hR.2 138 _ (by decide) (by decide)]; exact d2) d3 (fun i hi => by rw [f4.2.2.1 139 _ rfl, hR.2 139 _ (by decide) (by decide)]; exact d4 i hi) (by decide) (fun c _ _ => ⟨w63, by omega⟩) rfl (env_any (fun c hc a1 a2 => by
          rw [henv c hc a1 (by omega)]
          exact envS_ok hu he hg hl hm (by rw [hH]; exact h1) (by have := okc0 (hgood.2 c hc); omega)) (no60 hgood)) hgood.1 (no60 hgood)
      rw [evA_cong (env' := envS u e g (nI l) (nI m)) (sh' := z0) (dr' := z0) (fun c hc => ⟨henv c hc, no60 hgood c hc⟩)] at t2
      rw [show (0 : Int32) = nI 0 from rfl, t1]
      have f5 : Fr pSh qR2 M N := f4.tr (t4.mono (fun a k q => by unfold pSh at q; unfold pR3; revert q; cases (a == 94) <;> cases (k == 122) <;> cases (k == 58) <;> simp) (fun a k q => q))
      refine ⟨N, ?_, f5⟩
      rw [t2] at hsh
      have o1 : (1 : Int64).toInt = 1 := rfl
      dsimp only [Option.bind_some]
      by_cases hx : x = 1
      · rw [if_pos hx, bI_t (hsh.mpr (by rw [hx]; rfl))]
      · rw [if_neg hx, bI_f (fun q => hx (eq_j.mpr (by have := hsh.mp q; injection this)))]
        rfl
end SH
