/-! CALLS: see -/
def sgT (t : Nat → Nat) (G i : Nat) : Prop := t (3 * i) < 200 ∧ t (3 * i + 1) < G ∧ t (3 * i + 2) ≤ 1
section SEE
variable {M N : sMem} {D Do G P E C W k e c g m s n pc pn r : Nat} {c0 c1 c2 : List Nat} {t : Nat → Nat}
theorem c_flag {v : Nat} (hv : v < 256) : f_X11_isFlag (nI v) M = some (bI (v ≤ 1)) := by
  unfold f_X11_isFlag f_X11_isFlag_B9
  by_cases q0 : v = 0
  · subst q0; rw [if_pos (show nI 0 = (0 : Int32) from rfl), bI_t (by decide)]
  · rw [if_neg (show ¬ nI v = (0 : Int32) from fun z => q0 ((nI_eq (by omega) (by decide)).mp z))]
    by_cases q1 : v = 1
    · subst q1; rw [if_pos (show nI 1 = (1 : Int32) from rfl), bI_t (by decide)]
    · rw [if_neg (show ¬ nI v = (1 : Int32) from fun z => q1 ((nI_eq (by omega) (by decide)).mp z)), bI_f (by omega)]
theorem c_sight (h : KI M D G P E C W c0 c1 c2) (hC : CT (fun i => nI (t i)) n M) (ht : ∀ i, i < n → t i < 256) {i : Nat} (hi : 3 * i + 2 < n) : ∃ r, f_X11_isSight 0 (nI (3 * i)) M = some r ∧ ((r = 1 ∧ sgT t G i) ∨ (r = 0 ∧ ¬ sgT t G i)) := by
  have hc := h.hc
  have hb := h.n.2
  have b0 := c_byteAt hC (k := 3 * i) (by omega)
  have b1 := c_byteAt hC (k := 3 * i + 1) (by omega)
  have b2 := c_byteAt hC (k := 3 * i + 2) (by omega)
  have t0 := ht (3 * i) (by omega)
  have t1 := ht (3 * i + 1) (by omega)
  have t2 := ht (3 * i + 2) (by omega)
  unfold f_X11_isSight sgT
  simp only [sr0 hc, gr0_0 hc, Option.bind_some, b0, c_isMin, h.cv.p0, h.cv.g1, show nI (3 * i) + (1 : Int32) = nI (3 * i + 1) from nI_add _ 1, show nI (3 * i) + (2 : Int32) = nI (3 * i + 2) from nI_add _ 2, b1, b2, h.tG, c_flag t2]
  rw [nI_i (show t (3 * i) < 2147483648 by omega), nI_i (show t (3 * i + 1) < 2147483648 by omega)]
  by_cases q0 : t (3 * i) < 200
  · rw [if_neg (bI_y (by omega))]
    by_cases q1 : t (3 * i + 1) < G
    · rw [if_neg (bI_y (by omega))]
      by_cases q2 : t (3 * i + 2) ≤ 1
      · rw [if_neg (bI_y q2)]; exact ⟨1, rfl, Or.inl ⟨rfl, q0, q1, q2⟩⟩
      · rw [if_pos (bI_0.mpr q2)]; exact ⟨0, rfl, Or.inr ⟨rfl, fun z => q2 z.2.2⟩⟩
    · rw [if_pos (bI_0.mpr (by omega))]; exact ⟨0, rfl, Or.inr ⟨rfl, fun z => q1 z.2.1⟩⟩
  · rw [if_pos (bI_0.mpr (by omega))]; exact ⟨0, rfl, Or.inr ⟨rfl, fun z => q0 z.1⟩⟩
/-- the class's test of all rows -/
theorem c_seeT (h : KI M D G P E C W c0 c1 c2) (hC : CT (fun i => nI (t i)) n M) (ht : ∀ i, i < n → t i < 256) (hr : 3 * r = n) : ∃ x, sItr (fun a : (Int32 × Int32) => f_X11_see_K42 0 (nI r) a.1 a.2 M) sFuel (1, 0) = some x ∧ ((x = 1 ∧ ∀ i, i < r → sgT t G i) ∨ (x = 0 ∧ ∃ i, i < r ∧ ¬ sgT t G i)) := by
  have hn := hC.2.2.1
  obtain ⟨b, b1, b2⟩ := itr_g (f := fun a : (Int32 × Int32) => f_X11_see_K42 0 (nI r) a.1 a.2 M) (fun j (s : Int32) => (s, nI j)) (fun j s => (s = 1 ∧ ∀ i, i < j → sgT t G i) ∨ (s = 0 ∧ ∃ i, i < r ∧ ¬ sgT t G i)) (fun x => (x = 1 ∧ ∀ i, i < r → sgT t G i) ∨ (x = 0 ∧ ∃ i, i < r ∧ ¬ sgT t G i)) r (by omega) (by
    rintro j s hj hI
    dsimp only
    unfold f_X11_see_K42
    rcases hI with ⟨rfl, hI⟩ | ⟨rfl, hI⟩
    · rw [if_neg (by decide)]
      by_cases q : j = r
      · right
        subst q
        rw [if_pos (nI_le (Nat.le_refl _) (by omega))]
        exact ⟨_, rfl, Or.inl ⟨rfl, hI⟩⟩
      · left
        obtain ⟨x, x1, x2⟩ := c_sight h hC ht (i := j) (by omega)
        rw [if_neg (nI_ge (by omega) (by omega)), show nI j * (3 : Int32) = nI (3 * j) from (by rw [show (3 : Int32) = nI 3 from rfl, pk_mul, Nat.mul_comm]), x1, Option.bind_some, nI_1]
        refine ⟨by omega, x, rfl, ?_⟩
        rcases x2 with ⟨x2, x3⟩ | ⟨x2, x3⟩
        · left
          refine ⟨x2, fun i hi => ?_⟩
          by_cases w : i = j
          · rw [w]; exact x3
          · exact hI i (by omega)
        · exact Or.inr ⟨x2, j, by omega, x3⟩
    · right
      rw [if_pos rfl]
      exact ⟨_, rfl, Or.inr ⟨rfl, hI⟩⟩) (i := 0) (s := 1) (by omega) (Or.inl ⟨rfl, fun i hi => by omega⟩)
  exact ⟨b, b1, b2⟩
/-- the reference's -/
theorem r_seeT (hs : RefS M.1 M.2.2.2) (hG : M.2.1 131 5 = nI G) (hG6 : G ≤ 6) (hn : n ≤ 1600) (hC : ∀ i, i < n → M.2.1 95 i = nI (t i)) (ht : ∀ i, i < n → t i < 256) (hr : 3 * r = n) : ∃ x, sItr (fun a : (Int32 × Int32) => f_X12_see_K36 94 (nI n) a.1 a.2 M) sFuel (1, 0) = some x ∧ ((x = 1 ∧ ∀ i, i < r → sgT t G i) ∨ (x = 0 ∧ ∃ i, i < r ∧ ¬ sgT t G i)) := by
  obtain ⟨b, b1, b2⟩ := itr_g (f := fun a : (Int32 × Int32) => f_X12_see_K36 94 (nI n) a.1 a.2 M) (fun j (s : Int32) => (s, nI (3 * j))) (fun j s => (s = 1 ∧ ∀ i, i < j → sgT t G i) ∨ (s = 0 ∧ ∃ i, i < r ∧ ¬ sgT t G i)) (fun x => (x = 1 ∧ ∀ i, i < r → sgT t G i) ∨ (x = 0 ∧ ∃ i, i < r ∧ ¬ sgT t G i)) r (by omega) (by
    rintro j s hj hI
    dsimp only
    unfold f_X12_see_K36 f_X12_see_B89 f_X12_see_B90
    by_cases q : j = r
    · right
      rw [if_pos (nI_le (by omega) (by omega))]
      subst q
      exact ⟨_, rfl, hI⟩
    · rw [if_neg (nI_ge (by omega) (by omega))]
      rcases hI with ⟨rfl, hI⟩ | ⟨rfl, hI⟩
      · left
        have t0 := ht (3 * j) (by omega)
        have t1 := ht (3 * j + 1) (by omega)
        have t2 := ht (3 * j + 2) (by omega)
        rw [if_neg (by decide), gr94_0 hs, Option.bind_some, ld95 hs (by omega), Option.bind_some, hC _ (by omega), r_isMin, Option.bind_some, nI_i (show t (3 * j) < 2147483648 by omega), show nI (3 * j) + (1 : Int32) = nI (3 * j + 1) from nI_add _ 1, show nI (3 * j) + (2 : Int32) = nI (3 * j + 2) from nI_add _ 2, show nI (3 * j) + (3 : Int32) = nI (3 * (j + 1)) from nI_add _ 3]
        refine ⟨by omega, ?_⟩
        have no : ¬ sgT t G j → ∃ s', some (Sum.inl ((0 : Int32), nI (3 * (j + 1)))) = (some (Sum.inl (s', nI (3 * (j + 1)))) : Option ((Int32 × Int32) ⊕ Int32)) ∧ ((s' = 1 ∧ ∀ i, i < j + 1 → sgT t G i) ∨ (s' = 0 ∧ ∃ i, i < r ∧ ¬ sgT t G i)) := fun hz => ⟨0, rfl, Or.inr ⟨rfl, j, by omega, hz⟩⟩
        by_cases q0 : t (3 * j) < 200
        · rw [if_neg (bI_y (by omega)), Option.bind_some, ld95 hs (by omega), Option.bind_some, hC _ (by omega), r_isGate hs hG hG6, Option.bind_some, i64, nI_i (show t (3 * j + 1) < 2147483648 by omega)]
          by_cases q1 : t (3 * j + 1) < G
          · rw [if_neg (bI_y (by omega)), Option.bind_some, ld95 hs (by omega), Option.bind_some, hC _ (by omega)]
            by_cases q2 : t (3 * j + 2) ≤ 1
            · rw [if_neg (by rw [show (1 : Int32) = nI 1 from rfl, clt (by decide) (by omega)]; omega)]
              refine ⟨1, rfl, Or.inl ⟨rfl, fun i hi => ?_⟩⟩
              by_cases w : i = j
              · rw [w]; exact ⟨q0, q1, q2⟩
              · exact hI i (by omega)
            · rw [if_pos (by rw [show (1 : Int32) = nI 1 from rfl, clt (by decide) (by omega)]; omega)]
              exact no (fun z => q2 z.2.2)
          · rw [if_pos (bI_0.mpr (by omega))]
            exact no (fun z => q1 z.2.1)
        · rw [if_pos (bI_0.mpr (by omega))]
          exact no (fun z => q0 z.1)
      · right
        rw [if_pos rfl]
        exact ⟨_, rfl, Or.inr ⟨rfl, hI⟩⟩) (i := 0) (s := 1) (by omega) (Or.inl ⟨rfl, fun i hi => by omega⟩)
  exact ⟨b, b1, b2⟩
theorem c_byteNo (hc : ClsS M.1 M.2.2.2) (h1 : M.2.1 1 1 = nI n) (hn : n ≤ 1600) {k : Nat} (hk : n ≤ k) (hk2 : k < 100000) : f_X10_byteAt 1 (nI k) M = some (-1) := by
  unfold f_X10_byteAt
  rw [sr1 hc, if_neg (nI_pos (by omega)), gi1 hc, Option.bind_some, h1, if_pos (nI_le hk (by omega))]
/-- what was seen is taken -/
theorem c_seen (hc : ClsS M.1 M.2.2.2) (hC : CT (fun i => nI (t i)) n M) (hn : n ≤ 48) : ∃ N, sItr (fun a : (Int32 × sMem) => f_X11_see_K71 0 (nI r) 1 a.1 a.2) sFuel (0, M) = some N ∧ Fr (fun a _ => a == 89) q0 M N ∧ ∀ i, i < n → N.2.1 89 i = nI (t i) := by
  obtain ⟨N, b1, b2⟩ := itr_up (f := fun a : (Int32 × sMem) => f_X11_see_K71 0 (nI r) 1 a.1 a.2) (fun j N => Fr (fun a _ => a == 89) q0 M N ∧ ∀ i, i < j → i < n → N.2.1 89 i = nI (t i)) (fun N => Fr (fun a _ => a == 89) q0 M N ∧ ∀ i, i < n → N.2.1 89 i = nI (t i)) 48 (by decide) (by
    rintro j N hj ⟨i1, i2⟩
    dsimp only
    have hcN := i1.hc hc
    have hCN := hC.fr i1 rfl (fun _ => rfl)
    unfold f_X11_see_K71
    rw [gr0_12 hcN, Option.bind_some, al89 hcN, Option.bind_some]
    by_cases q : j = 48
    · right
      subst q
      rw [if_pos (nI_le (Nat.le_refl _) (by decide))]
      exact ⟨N, rfl, i1, fun i hi => i2 i (by omega) hi⟩
    · left
      rw [if_neg (nI_ge (by omega) (by decide)), Option.bind_some, gr0_0 hcN, Option.bind_some]
      by_cases w : j < n
      · have b0 := c_byteAt hCN (k := j) w
        rw [b0, Option.bind_some, st89 hcN (by omega), Option.bind_some, nI_1]
        refine ⟨by omega, _, rfl, i1.wi rfl, fun i hi hin => ?_⟩
        by_cases z : i = j
        · subst z; rw [wrI_eq]
        · rw [wrI_ne (by omega)]; exact i2 i (by omega) hin
      · rw [c_byteNo hcN hCN.2.1 hCN.2.2.1 (by omega) (by omega), Option.bind_some, st89 hcN (by omega), Option.bind_some, nI_1]
        refine ⟨by omega, _, rfl, i1.wi rfl, fun i hi hin => ?_⟩
        rw [wrI_ne (by omega)]; exact i2 i (by omega) hin) (i := 0) (s := M) (by decide) ⟨Fr.rf, fun i hi => by omega⟩
  exact ⟨N, b1, b2⟩
theorem r_seen (hs : RefS M.1 M.2.2.2) (hn : n ≤ 48) (hC : ∀ i, i < n → M.2.1 95 i = nI (t i)) : ∃ N, sItr (fun a : (Int32 × sMem) => f_X12_see_K109 94 (nI n) a.1 a.2) sFuel (0, M) = some N ∧ Fr (fun a _ => a == 153) q0 M N ∧ ∀ i, i < n → N.2.1 153 i = nI (t i) := by
  obtain ⟨N, b1, b2⟩ := itr_up (f := fun a : (Int32 × sMem) => f_X12_see_K109 94 (nI n) a.1 a.2) (fun j N => Fr (fun a _ => a == 153) q0 M N ∧ ∀ i, i < j → N.2.1 153 i = nI (t i)) (fun N => Fr (fun a _ => a == 153) q0 M N ∧ ∀ i, i < n → N.2.1 153 i = nI (t i)) n (by omega) (by
    rintro j N hj ⟨i1, i2⟩
    dsimp only
    have hsN := i1.hs hs
    unfold f_X12_see_K109
    by_cases q : j = n
    · right
      subst q
      rw [if_pos (nI_le (Nat.le_refl _) (by omega))]
      exact ⟨N, rfl, i1, i2⟩
    · left
      rw [if_neg (nI_ge (by omega) (by omega)), gr94_81 hsN, Option.bind_some, gr94_0 hsN, Option.bind_some, ld95 hsN (by omega), Option.bind_some, i1.i rfl, hC j (by omega), st153 hsN (by omega), Option.bind_some, nI_1]
      refine ⟨by omega, _, rfl, i1.wi rfl, fun i hi => ?_⟩
      by_cases z : i = j
      · subst z; rw [wrI_eq]
      · rw [wrI_ne (by omega)]; exact i2 i (by omega)) (i := 0) (s := M) (by omega) ⟨Fr.rf, fun i hi => by omega⟩
  exact ⟨N, b1, b2⟩
theorem ok_see (h : IX M D Do G P E C W c0 c1 c2 n pc pn) : ∃ r M1 M2, f_X11_see 0 M = some (r, M1) ∧ f_X12_see 94 M1 = some (r, M2) ∧ Inv M2 := by
  have k := h.1
  have hc := k.hc
  have hs := k.1
  have hb := k.n.2
  have hl : 187 ≤ M.1.length := k.cv.ln
  obtain ⟨t1, t2, t3, t4⟩ := h.2.1.1
  obtain ⟨_, _, _, s4, ⟨s5, s6, s7, s8⟩, _⟩ := id h
  obtain ⟨t, ht⟩ : ∃ t : Nat → Nat, t = fun i => (M.2.1 95 i).toInt.toNat := ⟨_, rfl⟩
  have tv : ∀ i, i < n → t i < 256 ∧ M.2.1 95 i = nI (t i) ∧ M.2.1 2 i = nI (t i) := fun i hi => by
    obtain ⟨a1, v, v1, v2⟩ := t4 i hi
    have : t i = v := by rw [ht]; dsimp only; rw [v2, nI_i (by omega)]; rfl
    rw [this, a1]; exact ⟨v1, v2, v2⟩
  have hC : CT (fun i => nI (t i)) n M := ⟨hc, t2, t1, fun i hi => (tv i hi).2.2⟩
  have e3 : nI n / (3 : Int32) = nI (n / 3) := pk_div (d := 3) (by omega) (by decide) (by decide)
  have e3r : nI n - nI n / (3 : Int32) * (3 : Int32) = nI (n % 3) := pk_rem (d := 3) (by omega) (by decide) (by decide)
  -- refused
  have cbad : ∀ x : Int32, f_X11_see_B105 0 x 0 M = some (-1, wrI (wrI M 1 1 0) 93 1 (M.2.1 93 1 + 1)) := fun x => by
    unfold f_X11_see_B105
    have e := c_refuse (k := 1) (M := wrI M 1 1 0) hc (by decide)
    rw [wrI_ne (by omega)] at e
    rw [gr0_0 hc, Option.bind_some, pi1 hc, Option.bind_some, if_pos rfl, show f_X11_refuse 0 1 (wrI M 1 1 0) = _ from e]
    rfl
  obtain ⟨B1, hB1⟩ : ∃ B1, B1 = wrI (wrI M 1 1 0) 93 1 (M.2.1 93 1 + 1) := ⟨_, rfl⟩
  have hsB : RefS B1.1 B1.2.2.2 := by rw [hB1]; exact hs
  have vB : ∀ a k, ¬ (a = 1 ∧ k = 1) → a ≠ 93 → B1.2.1 a k = M.2.1 a k := fun a k h1 h2 => by rw [hB1, wrI_ne (by omega), wrI_ne h1]
  have rbad : ∀ x, f_X12_see_B97 94 x 0 (wrI B1 94 1 0) = some (-1, wrI (wrI B1 94 1 0) 96 1 (M.2.1 96 1 + 1)) := fun x => by
    unfold f_X12_see_B97
    have e := r_refuse (k := 1) (M := wrI B1 94 1 0) hsB (by decide)
    rw [wrI_ne (by omega), vB _ _ (by omega) (by decide)] at e
    rw [if_pos rfl, show f_X12_refuses 94 1 (wrI B1 94 1 0) = _ from e]
    rfl
  have bad : Inv (wrI (wrI B1 94 1 0) 96 1 (M.2.1 96 1 + 1)) := by
    have v : ∀ a k, ¬ (a = 1 ∧ k = 1) → a ≠ 93 → ¬ (a = 94 ∧ k = 1) → a ≠ 96 → (wrI (wrI B1 94 1 0) 96 1 (M.2.1 96 1 + 1)).2.1 a k = M.2.1 a k := fun a k h1 h2 h3 h4 => by rw [wrI_ne (by omega), wrI_ne h3, vB _ _ h1 h2]
    have hF : Fr (fun a k => ((a == 1 || a == 94) && k == 1) || a == 93 || a == 96) q0 M (wrI (wrI B1 94 1 0) 96 1 (M.2.1 96 1 + 1)) := by rw [hB1]; exact (((Fr.rf.wi rfl).wi rfl).wi rfl).wi rfl
    refine (h.st (n' := 0) hF (fun a k z => Bool.eq_false_iff.mpr (fun y => by unfold iX at z; simp only [Bool.or_eq_true, Bool.and_eq_true, beq_iff_eq, decide_eq_true_eq] at y z; omega)) (fun _ _ _ => rfl) ⟨by omega, ?_, ?_, fun i hi => by omega⟩ (s4.fr (v _ _ (by omega) (by omega) (by omega) (by omega)) (v _ _ (by omega) (by omega) (by omega) (by omega)) (fun i => v _ _ (by omega) (by omega) (by omega) (by omega)) (fun i => v _ _ (by omega) (by omega) (by omega) (by omega))) (s5.fr (v _ _ (by omega) (by omega) (by omega) (by omega)) (hF.j rfl)) (fun j hj => ?_) (s7.fr (v _ _ (by omega) (by omega) (by omega) (by omega)) (v _ _ (by omega) (by omega) (by omega) (by omega)) (v _ _ (by omega) (by omega) (by omega) (by omega)) (v _ _ (by omega) (by omega) (by omega) (by omega))) (s8.fr (v _ _ (by omega) (by omega) (by omega) (by omega)) (v _ _ (by omega) (by omega) (by omega) (by omega)) (fun i => v _ _ (by omega) (by omega) (by omega) (by omega)) (fun i => v _ _ (by omega) (by omega) (by omega) (by omega)))).inv
    · rw [wrI_ne (by omega), wrI_ne (by omega), hB1, wrI_ne (by omega), wrI_eq]; rfl
    · rw [wrI_ne (by omega), wrI_eq]; rfl
    · by_cases q : j = 1
      · subst q
        rw [wrI_ne (by omega), wrI_ne (by omega), wrI_eq, hB1, wrI_eq, s6 1 (by decide)]
      · rw [wrI_ne (by omega), wrI_ne (by omega), hB1, wrI_ne (by omega), wrI_ne (by omega), wrI_ne (by omega), wrI_ne (by omega), wrI_ne (by omega), wrI_ne (by omega)]
        exact s6 j hj
  -- by its number alone
  have cno : ∀ x, f_X11_see_B38 0 x M = some (-1, B1) := fun x => by
    unfold f_X11_see_B38 f_X11_see_B39 f_X11_see_L42
    have e : sItr (fun a : (Int32 × Int32) => f_X11_see_K42 0 x a.1 a.2 M) sFuel (0, 0) = some 0 := by
      obtain ⟨b, b1, b2⟩ := itr_g (f := fun a : (Int32 × Int32) => f_X11_see_K42 0 x a.1 a.2 M) (fun _ (_ : Unit) => (0, 0)) (fun _ _ => True) (fun b => b = 0) 0 (by decide) (by
        intro j s hj hI
        right
        refine ⟨0, ?_, rfl⟩
        show f_X11_see_K42 0 x 0 0 M = _
        unfold f_X11_see_K42
        rw [if_pos rfl]) (i := 0) (s := ()) (by decide) trivial
      rw [b2] at b1; exact b1
    rw [e, Option.bind_some]
    unfold f_X11_see_B65
    rw [if_pos rfl, cbad, hB1]
  have rno : ∀ x, f_X12_see_B32 94 x (wrI B1 94 1 0) = some (-1, wrI (wrI B1 94 1 0) 96 1 (M.2.1 96 1 + 1)) := fun x => by
    unfold f_X12_see_B32 f_X12_see_B33 f_X12_see_L36
    have e : sItr (fun a : (Int32 × Int32) => f_X12_see_K36 94 x a.1 a.2 (wrI B1 94 1 0)) sFuel (0, 0) = some 0 := by
      obtain ⟨b, b1, b2⟩ := itr_g (f := fun a : (Int32 × Int32) => f_X12_see_K36 94 x a.1 a.2 (wrI B1 94 1 0)) (fun _ (_ : Unit) => (0, 0)) (fun _ _ => True) (fun b => b = 0) 0 (by decide) (by
        intro j s hj hI
        right
        refine ⟨0, ?_, rfl⟩
        show f_X12_see_K36 94 x 0 0 (wrI B1 94 1 0) = _
        unfold f_X12_see_K36
        by_cases z : x ≤ 0
        · rw [if_pos z]
        · rw [if_neg z, if_pos rfl]) (i := 0) (s := ()) (by decide) trivial
      rw [b2] at b1; exact b1
    rw [e, Option.bind_some, rbad]
  have cst : f_X11_see 0 M = if nI (n / 3) < (1 : Int32) then f_X11_see_B38 0 (nI (n / 3)) M else if (16 : Int32) < nI (n / 3) then f_X11_see_B38 0 (nI (n / 3)) M else if nI (n / 3) * (3 : Int32) = nI n then f_X11_see_B39 0 (nI (n / 3)) 1 M else f_X11_see_B38 0 (nI (n / 3)) M := by
    unfold f_X11_see
    rw [sr0 hc, gr0_0 hc, Option.bind_some, gi1 hc, Option.bind_some, t2, e3, Option.bind_some, gi1 hc, Option.bind_some, t2]
  have e33 : nI (n / 3) * (3 : Int32) = nI (3 * (n / 3)) := by rw [show (3 : Int32) = nI 3 from rfl, pk_mul, Nat.mul_comm]
  have rst : ∀ B : sMem, RefS B.1 B.2.2.2 → B.2.1 94 1 = nI n → f_X12_see 94 B = if nI n ≤ (0 : Int32) then f_X12_see_B32 94 (nI n) (wrI B 94 1 0) else if nI (n % 3) = (0 : Int32) then if (16 : Int32) < nI (n / 3) then f_X12_see_B32 94 (nI n) (wrI B 94 1 0) else f_X12_see_B33 94 (nI n) 1 (wrI B 94 1 0) else f_X12_see_B32 94 (nI n) (wrI B 94 1 0) := fun B hsB hB => by
    unfold f_X12_see
    rw [sr94 hsB, gi94 hsB, Option.bind_some, pi94 hsB, Option.bind_some, hB, e3r, e3]
  by_cases q0 : 1 ≤ n / 3 ∧ n / 3 ≤ 16 ∧ 3 * (n / 3) = n
  · obtain ⟨q1, q2, q3⟩ := q0
    have c1 : f_X11_see 0 M = f_X11_see_B39 0 (nI (n / 3)) 1 M := by
      rw [cst, if_neg (by rw [show (1 : Int32) = nI 1 from rfl, clt (by omega) (by decide)]; omega), if_neg (by rw [show (16 : Int32) = nI 16 from rfl, clt (by decide) (by omega)]; omega), if_pos (by rw [e33, q3])]
    have r1 : ∀ B : sMem, RefS B.1 B.2.2.2 → B.2.1 94 1 = nI n → f_X12_see 94 B = f_X12_see_B33 94 (nI n) 1 (wrI B 94 1 0) := fun B hB hB1 => by
      rw [rst B hB hB1, if_neg (by rw [show (0 : Int32) = nI 0 from rfl, cle (by omega) (by decide)]; omega), if_pos (by rw [show n % 3 = 0 by omega]; rfl), if_neg (by rw [show (16 : Int32) = nI 16 from rfl, clt (by decide) (by omega)]; omega)]
    obtain ⟨x, x1, x2⟩ := c_seeT k hC (fun i hi => (tv i hi).1) q3
    rw [c1]
    unfold f_X11_see_B39 f_X11_see_L42
    rw [x1, Option.bind_some]
    unfold f_X11_see_B65
    rcases x2 with ⟨rfl, x2⟩ | ⟨rfl, x2⟩
    · -- all is good
      obtain ⟨N, n1, n2, n3⟩ := c_seen (r := n / 3) hc hC (by omega)
      have hcN := n2.hc hc
      rw [if_neg (by decide)]
      unfold f_X11_see_L71
      rw [n1, Option.bind_some]
      unfold f_X11_see_B100 f_X11_see_B105
      obtain ⟨N2, hN2⟩ : ∃ N2, N2 = wrI (wrI N 0 13 (nI (n / 3))) 1 1 0 := ⟨_, rfl⟩
      have hc2 : ClsS (wrI N 0 13 (nI (n / 3))).1 (wrI N 0 13 (nI (n / 3))).2.2.2 := hcN
      rw [pi0 hcN, Option.bind_some, gr0_0 hc2, Option.bind_some, pi1 hc2, Option.bind_some, if_neg (by decide), ← hN2]
      have hs2 : RefS N2.1 N2.2.2.2 := by rw [hN2]; exact n2.hs hs
      have v2 : ∀ a k, a ≠ 89 → ¬ (a = 0 ∧ k = 13) → ¬ (a = 1 ∧ k = 1) → N2.2.1 a k = M.2.1 a k := fun a k h1 h2 h3 => by rw [hN2, wrI_ne h3, wrI_ne h2, n2.i (beq_eq_false_iff_ne.mpr h1)]
      have hs3 : RefS (wrI N2 94 1 0).1 (wrI N2 94 1 0).2.2.2 := hs2
      have v3 : ∀ a k, a ≠ 89 → ¬ (a = 0 ∧ k = 13) → ¬ (a = 1 ∧ k = 1) → ¬ (a = 94 ∧ k = 1) → (wrI N2 94 1 0).2.1 a k = M.2.1 a k := fun a k h1 h2 h3 h4 => by rw [wrI_ne h4, v2 _ _ h1 h2 h3]
      obtain ⟨y, y1, y2⟩ := r_seeT (M := wrI N2 94 1 0) (t := t) hs3 (by rw [v3 _ _ (by omega) (by omega) (by omega) (by omega)]; exact k.n.1.1) hb.1 t1 (fun i hi => by rw [v3 _ _ (by omega) (by omega) (by omega) (by omega)]; exact (tv i hi).2.1) (fun i hi => (tv i hi).1) q3
      have hy : y = 1 := by
        rcases y2 with z | ⟨_, i, i1, i2⟩
        · exact z.1
        · exact absurd (x2 i i1) i2
      subst hy
      obtain ⟨N3, m1, m2, m3⟩ := r_seen (M := wrI N2 94 1 0) (t := t) hs3 (show n ≤ 48 by omega) (fun i hi => by rw [v3 _ _ (by omega) (by omega) (by omega) (by omega)]; exact (tv i hi).2.1)
      have hs4 := m2.hs hs3
      refine ⟨nI (n / 3), N2, wrI N3 94 80 (nI (n / 3)), rfl, ?_, ?_⟩
      · rw [r1 N2 hs2 (by rw [v2 _ _ (by omega) (by omega) (by omega)]; exact t3)]
        unfold f_X12_see_B33 f_X12_see_L36
        rw [y1, Option.bind_some]
        unfold f_X12_see_B97 f_X12_see_L109
        rw [if_neg (by decide), m1, Option.bind_some]
        unfold f_X12_see_B132
        rw [e3, pi94 hs4, Option.bind_some, gi94 (M := wrI N3 94 80 (nI (n / 3))) hs4, Option.bind_some, wrI_eq]
      · have v : ∀ a k, a ≠ 89 → ¬ (a = 0 ∧ k = 13) → ¬ (a = 1 ∧ k = 1) → ¬ (a = 94 ∧ (k = 1 ∨ k = 80)) → a ≠ 153 → (wrI N3 94 80 (nI (n / 3))).2.1 a k = M.2.1 a k := fun a k h1 h2 h3 h4 h5 => by rw [wrI_ne (by omega), m2.i (beq_eq_false_iff_ne.mpr h5), v3 _ _ h1 h2 h3 (by omega)]
        have hF : Fr (fun a k => a == 89 || a == 153 || (a == 0 && k == 13) || (a == 1 && k == 1) || (a == 94 && (k == 1 || k == 80))) q0 M (wrI N3 94 80 (nI (n / 3))) := by
          refine ⟨?_, ?_, fun a k z => ?_, fun a k _ => ?_⟩
          · show N3.1 = M.1
            rw [m2.1, show (wrI N2 94 1 0).1 = N2.1 from rfl, hN2]; exact n2.1
          · show N3.2.2.2 = M.2.2.2
            rw [m2.2.1, show (wrI N2 94 1 0).2.2.2 = N2.2.2.2 from rfl, hN2]; exact n2.2.1
          · simp only [Bool.or_eq_false_iff, Bool.and_eq_false_iff, beq_eq_false_iff_ne] at z
            exact v a k (by omega) (by omega) (by omega) (by omega) (by omega)
          · show N3.2.2.1 a k = _
            rw [m2.j rfl, show (wrI N2 94 1 0).2.2.1 a k = N2.2.2.1 a k from rfl, hN2]; exact n2.j rfl
        have w89 : ∀ i, i < n → (wrI N3 94 80 (nI (n / 3))).2.1 89 i = nI (t i) := fun i hi => by rw [wrI_ne (by omega), m2.i rfl, wrI_ne (by omega), hN2, wrI_ne (by omega), wrI_ne (by omega)]; exact n3 i hi
        have w153 : ∀ i, i < n → (wrI N3 94 80 (nI (n / 3))).2.1 153 i = nI (t i) := fun i hi => by rw [wrI_ne (by omega)]; exact m3 i hi
        refine (h.st (n' := 0) hF (fun a k z => Bool.eq_false_iff.mpr (fun y => by unfold iX at z; simp only [Bool.or_eq_true, Bool.and_eq_true, beq_iff_eq, decide_eq_true_eq] at y z; omega)) (fun _ _ _ => rfl) ⟨by omega, ?_, ?_, fun i hi => by omega⟩ ⟨n / 3, q2, ?_, wrI_eq, fun i hi => ?_⟩ (s5.fr (v _ _ (by omega) (by omega) (by omega) (by omega) (by omega)) (hF.j rfl)) (s6.fr (fun i => v _ _ (by omega) (by omega) (by omega) (by omega) (by omega)) (fun i => v _ _ (by omega) (by omega) (by omega) (by omega) (by omega))) (s7.fr (v _ _ (by omega) (by omega) (by omega) (by omega) (by omega)) (v _ _ (by omega) (by omega) (by omega) (by omega) (by omega)) (v _ _ (by omega) (by omega) (by omega) (by omega) (by omega)) (v _ _ (by omega) (by omega) (by omega) (by omega) (by omega))) (s8.fr (v _ _ (by omega) (by omega) (by omega) (by omega) (by omega)) (v _ _ (by omega) (by omega) (by omega) (by omega) (by omega)) (fun i => v _ _ (by omega) (by omega) (by omega) (by omega) (by omega)) (fun i => v _ _ (by omega) (by omega) (by omega) (by omega) (by omega)))).inv
        · rw [wrI_ne (by omega), m2.i rfl, wrI_ne (by omega), hN2, wrI_eq]; rfl
        · rw [wrI_ne (by omega), m2.i rfl, wrI_eq]; rfl
        · rw [wrI_ne (by omega), m2.i rfl, wrI_ne (by omega), hN2, wrI_ne (by omega), wrI_eq]
        · obtain ⟨y1, y2, y3⟩ := x2 i hi
          exact ⟨t (3 * i), t (3 * i + 1), t (3 * i + 2), y1, y2, y3, ⟨w153 _ (by omega), w153 _ (by omega), w153 _ (by omega)⟩, w89 _ (by omega), w89 _ (by omega), w89 _ (by omega)⟩
    · -- one isn't
      rw [if_pos rfl, cbad, ← hB1]
      have hB94 : B1.2.1 94 1 = nI n := by rw [vB _ _ (by omega) (by omega)]; exact t3
      obtain ⟨y, y1, y2⟩ := r_seeT (M := wrI B1 94 1 0) (t := t) hsB (by rw [wrI_ne (by omega), vB _ _ (by omega) (by omega)]; exact k.n.1.1) hb.1 t1 (fun i hi => by rw [wrI_ne (by omega), vB _ _ (by omega) (by omega)]; exact (tv i hi).2.1) (fun i hi => (tv i hi).1) q3
      have hy : y = 0 := by
        rcases y2 with z | z
        · obtain ⟨i, i1, i2⟩ := x2
          exact absurd (z.2 i i1) i2
        · exact z.1
      subst hy
      refine ⟨-1, B1, _, rfl, ?_, bad⟩
      rw [r1 B1 hsB hB94]
      unfold f_X12_see_B33 f_X12_see_L36
      rw [y1, Option.bind_some, rbad]
  · refine ⟨-1, B1, _, ?_, ?_, bad⟩
    · rw [cst]
      by_cases z1 : nI (n / 3) < (1 : Int32)
      · rw [if_pos z1, cno]
      · rw [if_neg z1]
        by_cases z2 : (16 : Int32) < nI (n / 3)
        · rw [if_pos z2, cno]
        · rw [if_neg z2, if_neg ?_, cno]
          rw [show (1 : Int32) = nI 1 from rfl, clt (by omega) (by decide)] at z1
          rw [show (16 : Int32) = nI 16 from rfl, clt (by decide) (by omega)] at z2
          rw [e33, ceq (by omega) (by omega)]
          omega
    · have hB94 : B1.2.1 94 1 = nI n := by rw [vB _ _ (by omega) (by omega)]; exact t3
      rw [rst B1 hsB hB94]
      by_cases z1 : nI n ≤ (0 : Int32)
      · rw [if_pos z1, rno]
      · rw [if_neg z1]
        by_cases z2 : nI (n % 3) = (0 : Int32)
        · rw [if_pos z2, if_pos ?_, rno]
          rw [show (0 : Int32) = nI 0 from rfl, cle (by omega) (by decide)] at z1
          have z2' : n % 3 = 0 := (nI_eq (by omega) (by decide)).mp z2
          rw [show (16 : Int32) = nI 16 from rfl, clt (by decide) (by omega)]
          omega
        · rw [if_neg z2, rno]
end SEE
