/-! THE STATEMENTS: what they tell, and the class's tables -/
abbrev Flt : Type := Int32 × Int32
abbrev Row : Type := List Nat × List Int32
abbrev Ds : Type := (Int32 × Int32) × (Nat → List Row) × (Nat → Option (List Nat))
def mxK (kd : Nat) : Nat := [6, 7, 5, 5, 12].getD kd 0
def ofK (kd : Nat) : Nat := [1, 4, 10, 13, 7].getD kd 0
def sb {α β : Type} (r : Flt ⊕ (α × Nat)) (f : α → Nat → Flt ⊕ β) : Flt ⊕ β := match r with | .inl e => .inl e | .inr q => f q.1 q.2
def aW (T : Tk) (w t : Nat) : Flt ⊕ (Unit × Nat) := if T 3 t = 1 ∧ T 6 t = nI w then .inr ((), t + 1) else .inl (1, T 4 t)
def fnd (rows : List Row) (L : List Nat) : Option Nat := rows.findIdx? fun r => r.1 == L
def fdI (rows : List Row) (L : List Nat) : Int32 := match fnd rows L with | some i => nI i | none => -1
def addD (d : Ds) (kd : Nat) (r : Row) : Ds := (d.1, fun k => if k = kd then d.2.1 k ++ [r] else d.2.1 k, d.2.2)
def nwR (b : Nat → Int32) (T : Tk) (sa sz : Nat → Nat) (d : Ds) (t : Nat) : Flt ⊕ (List Nat × Nat) := sb (nameR b T sa sz t) fun L t1 => if fnd (d.2.1 0) L = none ∧ fnd (d.2.1 1) L = none ∧ fnd (d.2.1 2) L = none ∧ fnd (d.2.1 3) L = none then .inr (L, t1) else .inl (3, T 4 t)
def odR (b : Nat → Int32) (T : Tk) (sa sz : Nat → Nat) (rows : List Row) (but : Int32) (t : Nat) : Flt ⊕ (Int32 × Nat) := sb (nameR b T sa sz t) fun L t1 => if fdI rows L = -1 ∨ fdI rows L = but then .inl (3, T 4 t) else .inr (fdI rows L, t1)
def fullR (d : Ds) (kd : Nat) (at' : Int32) (t : Nat) : Flt ⊕ (Unit × Nat) := if (d.2.1 kd).length = mxK kd then .inl (5, at') else .inr ((), t)
def TbC (M : sMem) (D kd : Nat) (rows : List Row) : Prop := M.2.1 (D + ofK kd) 3 = nI rows.length ∧ rows.length ≤ mxK kd ∧ ∀ (i : Nat) (h : i < rows.length), M.2.1 (D + ofK kd + 1) i = nI (nv rows[i].1 6) ∧ ∀ j, j < 4 → M.2.1 (D + ofK kd + 2) (4 * i + j) = rows[i].2.getD j 0
def TbW (M : sMem) (D kd : Nat) : Prop := M.2.1 (D + ofK kd) 0 = nI (mxK kd) ∧ ∃ c, c ≤ mxK kd ∧ M.2.1 (D + ofK kd) 3 = nI c
def GdD (d : Ds) : Prop := (∀ kd, kd < 4 → ∀ r ∈ d.2.1 kd, GdN r.1) ∧ (∀ kd, kd < 4 → ((d.2.1 kd).map Prod.fst).Nodup) ∧ ∀ kd, kd < 5 → (d.2.1 kd).length ≤ mxK kd
def nxt {α : Type} (s : Cs) (g : Nat → Flt ⊕ (α × Nat)) : Cs := cbd s fun t => match g t with | .inl q => .inl q | .inr q => .inr q.2
def stX (D : Nat) : Nat → Nat → Bool := fun a k => tpX a k || (decide (D ≤ a) && decide (a ≤ D + 15))
section ST2
variable {b : Nat → Int32} {n e t c D kd : Nat} {T : Tk} {sa sz : Nat → Nat} {M N : sMem} {s : Cs} {d : Ds} {rows : List Row} {L : List Nat}
theorem CV2.nx {α : Type} {g : Nat → Flt ⊕ (α × Nat)} {v : α} (h : CV2 e N s g v) : CS e N (nxt s g) ∧ ∀ t a t', s = .inr t → g t = .inr (a, t') → v = a := by
  unfold CV2 at h
  match s, h with
  | .inl q, h => exact ⟨h, fun t a t' z => by cases z⟩
  | .inr t, h =>
    dsimp only at h
    have e1 : nxt (.inr t) g = (match g t with | .inl q => .inl q | .inr q => .inr q.2) := rfl
    rw [e1]
    match z : g t with
    | .inl q => rw [z] at h; exact ⟨h, fun t' a t2 w w2 => by obtain rfl := Sum.inr.inj w; rw [z] at w2; cases w2⟩
    | .inr q => rw [z] at h; exact ⟨h.2, fun t' a t2 w w2 => by obtain rfl := Sum.inr.inj w; rw [z] at w2; obtain rfl := Sum.inr.inj w2; exact h.1⟩
theorem up_st (h : Fr tpX q0 M N) : Fr (stX D) q0 M N := h.mono (fun a k z => by unfold stX at z; revert z; cases tpX a k <;> simp) (fun _ _ z => z)
theorem dTb (hc : ClsS M.1 M.2.2.2) (hD : D = 10 ∨ D = 32) (hk : kd < 5) : M.1[D + ofK kd]? = some (9, 4) ∧ M.2.2.2 (D + ofK kd) 1 = some (D + ofK kd + 1) ∧ M.2.2.2 (D + ofK kd) 2 = some (D + ofK kd + 2) ∧ M.1[D + ofK kd + 1]? = some (14, mxK kd) ∧ M.1[D + ofK kd + 2]? = some (14, 4 * mxK kd) := by
  match kd, hk with
  | 0, _ => exact ⟨dsh1 hc hD, rOf (grD1_1 hc hD) (dsh1 hc hD), rOf (grD1_2 hc hD) (dsh1 hc hD), dsh2 hc hD, dsh3 hc hD⟩
  | 1, _ => exact ⟨dsh4 hc hD, rOf (grD4_1 hc hD) (dsh4 hc hD), rOf (grD4_2 hc hD) (dsh4 hc hD), dsh5 hc hD, dsh6 hc hD⟩
  | 2, _ => exact ⟨dsh10 hc hD, rOf (grD10_1 hc hD) (dsh10 hc hD), rOf (grD10_2 hc hD) (dsh10 hc hD), dsh11 hc hD, dsh12 hc hD⟩
  | 3, _ => exact ⟨dsh13 hc hD, rOf (grD13_1 hc hD) (dsh13 hc hD), rOf (grD13_2 hc hD) (dsh13 hc hD), dsh14 hc hD, dsh15 hc hD⟩
  | 4, _ => exact ⟨dsh7 hc hD, rOf (grD7_1 hc hD) (dsh7 hc hD), rOf (grD7_2 hc hD) (dsh7 hc hD), dsh8 hc hD, dsh9 hc hD⟩
theorem mx_le (hk : kd < 5) : mxK kd ≤ 12 ∧ 5 ≤ mxK kd ∧ 1 ≤ ofK kd ∧ ofK kd + 2 ≤ 15 := by
  have : ∀ kd, kd < 5 → mxK kd ≤ 12 ∧ 5 ≤ mxK kd ∧ 1 ≤ ofK kd ∧ ofK kd + 2 ≤ 15 := by decide
  exact this kd hk
theorem of_ne {k1 k2 : Nat} (h1 : k1 < 5) (h2 : k2 < 5) (h : k1 ≠ k2) (i j : Nat) (hi : i ≤ 2) (hj : j ≤ 2) : ofK k1 + i ≠ ofK k2 + j := by
  have : ∀ k1, k1 < 5 → ∀ k2, k2 < 5 → k1 ≠ k2 → ∀ i, i < 3 → ∀ j, j < 3 → ofK k1 + i ≠ ofK k2 + j := by decide
  exact this k1 h1 k2 h2 h i (by omega) j (by omega)
/-- a table's row of that name -/
theorem c_findW (hc : ClsS M.1 M.2.2.2) (hD : D = 10 ∨ D = 32) (hk : kd < 5) (hW : TbW M D kd) (v : Int32) : ∃ x, f_X9_find (D + ofK kd) v M = some x := by
  obtain ⟨h1, h2, h3, h4, h5⟩ := dTb hc hD hk
  obtain ⟨m1, m2, m3, m4⟩ := mx_le hk
  obtain ⟨w1, k, w2, w3⟩ := hW
  unfold f_X9_find f_X9_find_L2
  rw [sRc_of h1]
  obtain ⟨r, k1, k2⟩ := itr_up0 (f := fun x : Int32 => f_X9_find_K2 (D + ofK kd) v x M) (fun _ => True) (fun _ => True) k (by omega) (i := 0) (by
    rintro j hj _
    try dsimp only
    unfold f_X9_find_K2
    rw [gI_of h1, Option.bind_some, w3]
    by_cases q : k ≤ j
    · exact Or.inr ⟨_, by rw [if_pos (by rw [cle (by omega) (by omega)]; exact q)], trivial⟩
    · rw [if_neg (by rw [cle (by omega) (by omega)]; exact q), gR_of h1 h2, Option.bind_some, ldI_n h4 (by omega) (by omega), Option.bind_some]
      by_cases q2 : M.2.1 (D + ofK kd + 1) j = v
      · exact Or.inr ⟨_, by rw [if_pos q2], trivial⟩
      · exact Or.inl ⟨by omega, by rw [if_neg q2, nI_1], trivial⟩) (Nat.zero_le _) trivial
  try dsimp only at k1
  rw [show (0 : Int32) = nI 0 from rfl, k1]
  exact ⟨r, rfl⟩
theorem c_find (hc : ClsS M.1 M.2.2.2) (hD : D = 10 ∨ D = 32) (hk : kd < 5) (hT : TbC M D kd rows) (hg : ∀ r ∈ rows, GdN r.1) (hL : GdN L) : f_X9_find (D + ofK kd) (nI (nv L 6)) M = some (fdI rows L) := by
  obtain ⟨h1, h2, h3, h4, h5⟩ := dTb hc hD hk
  obtain ⟨m1, m2, m3, m4⟩ := mx_le hk
  obtain ⟨t1, t2, t3⟩ := hT
  have b6 : ∀ A, GdN A → nv A 6 < 2147483648 := fun A hA => by
    have := nv_lt hA.2.2 6
    have e : 27 ^ 6 = 387420489 := by decide
    omega
  unfold f_X9_find f_X9_find_L2
  rw [sRc_of h1]
  obtain ⟨r, k1, k2⟩ := itr_up0 (f := fun x : Int32 => f_X9_find_K2 (D + ofK kd) (nI (nv L 6)) x M) (fun k => ∀ (i : Nat) (h : i < rows.length), i < k → rows[i].1 ≠ L) (fun r => r = fdI rows L) rows.length (by omega) (i := 0) (by
    rintro j hj hI
    try dsimp only
    unfold f_X9_find_K2
    rw [gI_of h1, Option.bind_some, t1]
    by_cases q : rows.length ≤ j
    · right
      refine ⟨_, by rw [if_pos (by rw [cle (by omega) (by omega)]; exact q)], ?_⟩
      have : fnd rows L = none := by
        unfold fnd
        rw [List.findIdx?_eq_none_iff]
        intro r hr
        obtain ⟨i, i1, i2⟩ := List.mem_iff_getElem.mp hr
        have := hI i i1 (by omega)
        rw [i2] at this
        exact beq_eq_false_iff_ne.mpr this
      unfold fdI; rw [this]
    · rw [if_neg (by rw [cle (by omega) (by omega)]; exact q), gR_of h1 h2, Option.bind_some, ldI_n h4 (by omega) (by omega), Option.bind_some, (t3 j (by omega)).1]
      have hgj := hg _ (List.getElem_mem (show j < rows.length by omega))
      by_cases q2 : rows[j].1 = L
      · right
        refine ⟨_, by rw [if_pos (by rw [q2])], ?_⟩
        have : fnd rows L = some j := by
          unfold fnd
          rw [List.findIdx?_eq_some_iff_getElem]
          refine ⟨by omega, beq_iff_eq.mpr q2, fun i hi => ?_⟩
          have := hI i (by omega) hi
          simpa using this
        unfold fdI; rw [this]
      · left
        rw [if_neg (fun z => q2 ((nm_eq6 hgj hL).mp ((nI_eq (b6 _ hgj) (b6 _ hL)).mp z))), nI_1]
        refine ⟨by omega, rfl, fun i hi hij => ?_⟩
        by_cases q3 : i = j
        · subst q3; exact q2
        · exact hI i hi (by omega)) (Nat.zero_le _) (fun i hi h => by omega)
  try dsimp only at k1
  rw [show (0 : Int32) = nI 0 from rfl, k1, Option.bind_some, k2]
/-- a row more -/
theorem c_tadd (hc : ClsS M.1 M.2.2.2) (hD : D = 10 ∨ D = 32) (hk : kd < 5) (hW : TbW M D kd) (v x y z w : Int32) : ∃ N, f_X9_add (D + ofK kd) v x y z w M = some N ∧ Fr (fun a _ => decide (D + ofK kd ≤ a) && decide (a ≤ D + ofK kd + 2)) q0 M N ∧ TbW N D kd ∧ ∀ rows L, TbC M D kd rows → rows.length < mxK kd → v = nI (nv L 6) → TbC N D kd (rows ++ [(L, [x, y, z, w])]) := by
  obtain ⟨h1, h2, h3, h4, h5⟩ := dTb hc hD hk
  obtain ⟨m1, m2, m3, m4⟩ := mx_le hk
  obtain ⟨w1, k, w2, w3⟩ := hW
  unfold f_X9_add
  rw [sRc_of h1, gI_of h1, Option.bind_some, gI_of h1, Option.bind_some, w1, w3]
  by_cases q : mxK kd ≤ k
  · rw [if_pos (by rw [cle (by omega) (by omega)]; exact q)]
    refine ⟨M, rfl, Fr.rf, ⟨w1, k, w2, w3⟩, fun rows L hT hl _ => ?_⟩
    have := hT.1
    rw [w3] at this
    have := (nI_eq (by omega) (by omega)).mp this
    omega
  · have e4 : ∀ j, j < 4 → nI k * (4 : Int32) + nI j = nI (4 * k + j) := fun j hj => by rw [show (4 : Int32) = nI 4 from rfl, pk_mul, nI_add, show k * 4 + j = 4 * k + j by omega]
    have e0 : nI k * (4 : Int32) = nI (4 * k + 0) := by rw [show (4 : Int32) = nI 4 from rfl, pk_mul, show k * 4 = 4 * k + 0 by omega]
    rw [if_neg (by rw [cle (by omega) (by omega)]; exact q), gR_of h1 h2, Option.bind_some, Option.bind_some, stI_n h4 (by omega) (by omega), Option.bind_some]
    generalize hA : D + ofK kd = A at *
    have i3 : ∀ a j x, (wrI M a j x).1[A]? = some (9, 4) := fun _ _ _ => h1
    simp only [gR_of (M := wrI M (A + 1) k v) h1 h3, gI_of (M := wrI M (A + 1) k v) h1, Option.bind_some, wrI_ne (M := M) (a := A + 1) (k := k) (b := A) (j := 3) (x := v) (by omega), w3, e0, stI_n (M := wrI M (A + 1) k v) h5 (show 4 * k + 0 < 4 * mxK kd by omega) (by omega)]
    have hM2 : ∃ M2, M2 = wrI (wrI M (A + 1) k v) (A + 2) (4 * k + 0) x := ⟨_, rfl⟩
    obtain ⟨M2, hM2⟩ := hM2
    rw [← hM2]
    have s2 : M2.1[A]? = some (9, 4) ∧ M2.2.2.2 A 2 = some (A + 2) ∧ M2.1[A + 2]? = some (14, 4 * mxK kd) ∧ M2.2.1 A 3 = nI k := by rw [hM2]; exact ⟨h1, h3, h5, by rw [wrI_ne (by omega), wrI_ne (by omega)]; exact w3⟩
    rw [gR_of s2.1 s2.2.1, Option.bind_some, gI_of s2.1, Option.bind_some, s2.2.2.2, show nI k * (4 : Int32) + (1 : Int32) = nI (4 * k + 1) from e4 1 (by decide), stI_n s2.2.2.1 (by omega) (by omega), Option.bind_some]
    obtain ⟨M3, hM3⟩ : ∃ M3, M3 = wrI M2 (A + 2) (4 * k + 1) y := ⟨_, rfl⟩
    rw [← hM3]
    have s3 : M3.1[A]? = some (9, 4) ∧ M3.2.2.2 A 2 = some (A + 2) ∧ M3.1[A + 2]? = some (14, 4 * mxK kd) ∧ M3.2.1 A 3 = nI k := by rw [hM3]; exact ⟨s2.1, s2.2.1, s2.2.2.1, by rw [wrI_ne (by omega)]; exact s2.2.2.2⟩
    rw [gR_of s3.1 s3.2.1, Option.bind_some, gI_of s3.1, Option.bind_some, s3.2.2.2, show nI k * (4 : Int32) + (2 : Int32) = nI (4 * k + 2) from e4 2 (by decide), stI_n s3.2.2.1 (by omega) (by omega), Option.bind_some]
    obtain ⟨M4, hM4⟩ : ∃ M4, M4 = wrI M3 (A + 2) (4 * k + 2) z := ⟨_, rfl⟩
    rw [← hM4]
    have s4 : M4.1[A]? = some (9, 4) ∧ M4.2.2.2 A 2 = some (A + 2) ∧ M4.1[A + 2]? = some (14, 4 * mxK kd) ∧ M4.2.1 A 3 = nI k := by rw [hM4]; exact ⟨s3.1, s3.2.1, s3.2.2.1, by rw [wrI_ne (by omega)]; exact s3.2.2.2⟩
    rw [gR_of s4.1 s4.2.1, Option.bind_some, gI_of s4.1, Option.bind_some, s4.2.2.2, show nI k * (4 : Int32) + (3 : Int32) = nI (4 * k + 3) from e4 3 (by decide), stI_n s4.2.2.1 (by omega) (by omega), Option.bind_some]
    obtain ⟨M5, hM5⟩ : ∃ M5, M5 = wrI M4 (A + 2) (4 * k + 3) w := ⟨_, rfl⟩
    rw [← hM5]
    have s5 : M5.1[A]? = some (9, 4) ∧ M5.2.1 A 3 = nI k := by rw [hM5]; exact ⟨s4.1, by rw [wrI_ne (by omega)]; exact s4.2.2.2⟩
    unfold f_X9_add_B77
    rw [gI_of s5.1, Option.bind_some, s5.2, show nI k + (1 : Int32) = nI (k + 1) from nI_add k 1, pI_of s5.1, Option.bind_some]
    have v2 : ∀ i, M5.2.1 (A + 2) i = if i = 4 * k + 3 then w else if i = 4 * k + 2 then z else if i = 4 * k + 1 then y else if i = 4 * k + 0 then x else M.2.1 (A + 2) i := by
      intro i
      rw [hM5, wrI_get, hM4, wrI_get, hM3, wrI_get, hM2, wrI_get, wrI_ne (by omega)]
      simp only [true_and]
    have v1 : ∀ i, M5.2.1 (A + 1) i = if i = k then v else M.2.1 (A + 1) i := by
      intro i
      rw [hM5, wrI_ne (by omega), hM4, wrI_ne (by omega), hM3, wrI_ne (by omega), hM2, wrI_ne (by omega), wrI_get]
      simp only [true_and]
    have v0 : M5.2.1 A 0 = nI (mxK kd) := by rw [hM5, wrI_ne (by omega), hM4, wrI_ne (by omega), hM3, wrI_ne (by omega), hM2, wrI_ne (by omega), wrI_ne (by omega)]; exact w1
    refine ⟨_, rfl, ?_, ⟨by rw [hA, wrI_ne (by omega)]; exact v0, k + 1, by omega, by rw [hA]; exact wrI_eq⟩, fun rows L hT hl hv => ?_⟩
    · have t : ∀ a, A ≤ a → a ≤ A + 2 → ∀ k, (fun (a : Nat) (_ : Nat) => decide (A ≤ a) && decide (a ≤ A + 2)) a k = true := fun a p q _ => by simp [p, q]
      rw [hM5, hM4, hM3, hM2]
      exact (((((Fr.rf.wi (t (A + 1) (by omega) (by omega) k)).wi (t (A + 2) (by omega) (by omega) (4 * k + 0))).wi (t (A + 2) (by omega) (by omega) (4 * k + 1))).wi (t (A + 2) (by omega) (by omega) (4 * k + 2))).wi (t (A + 2) (by omega) (by omega) (4 * k + 3))).wi (t A (by omega) (by omega) 3)
    · obtain ⟨t1, t2, t3⟩ := hT
      rw [hA] at t1 t3
      have ek : k = rows.length := by
        rw [w3] at t1
        exact (nI_eq (by omega) (by omega)).mp t1
      refine ⟨by rw [hA, wrI_eq, List.length_append, List.length_singleton, ek], by rw [List.length_append, List.length_singleton]; omega, fun i hi => ?_⟩
      rw [List.length_append, List.length_singleton] at hi
      rw [hA]
      by_cases q : i = k
      · have eg : (rows ++ [(L, [x, y, z, w])])[i] = (L, [x, y, z, w]) := by rw [List.getElem_append_right (by omega)]; simp
        rw [eg]
        refine ⟨by rw [wrI_ne (by omega), v1, if_pos q]; exact hv, fun j hj => ?_⟩
        rw [wrI_ne (by omega), v2]
        match j, hj with
        | 0, _ => rw [if_neg (by omega), if_neg (by omega), if_neg (by omega), if_pos (by omega)]; rfl
        | 1, _ => rw [if_neg (by omega), if_neg (by omega), if_pos (by omega)]; rfl
        | 2, _ => rw [if_neg (by omega), if_pos (by omega)]; rfl
        | 3, _ => rw [if_pos (by omega)]; rfl
      · rw [List.getElem_append_left (by omega)]
        obtain ⟨p1, p2⟩ := t3 i (by omega)
        refine ⟨by rw [wrI_ne (by omega), v1, if_neg q]; exact p1, fun j hj => ?_⟩
        rw [wrI_ne (by omega), v2, if_neg (by omega), if_neg (by omega), if_neg (by omega), if_neg (by omega)]
        exact p2 j hj
end ST2
