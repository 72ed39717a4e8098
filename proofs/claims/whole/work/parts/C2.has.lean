/-! QUERIES that change nothing: has, letter -/
def pcn (n : Nat) : Nat := n % 2 + n / 2 % 2 + n / 4 % 2 + n / 8 % 2 + n / 16 % 2 + n / 32 % 2
theorem bc0 : ∀ n, n < 64 → f_J6_bitCount_0f7a4 (nI n) sM0 = some (nI (pcn n)) := by decide +kernel
theorem bits0 : ∀ n, n < 64 → f_X12_bits (nI n) sM0 = some (nI (pcn n)) := by decide +kernel
theorem bc_of {M : sMem} {n : Nat} (h : n < 64) : f_J6_bitCount_0f7a4 (nI n) M = some (nI (pcn n)) := bc0 n h
theorem bits_of {M : sMem} {n : Nat} (h : n < 64) : f_X12_bits (nI n) M = some (nI (pcn n)) := bits0 n h
section HAS
variable {M N : sMem} {D G P E C W k e c g m s kd n : Nat} {c0 c1 c2 : List Nat} {w : Nat → Int32} {L : List Nat}
theorem ok_has (h : KI M D G P E C W c0 c1 c2) (h1 : M.2.1 0 13 = M.2.1 94 80) (h2 : M.2.1 0 7 = M.2.1 94 85) (a : Int32) : ∃ r, f_X11_has 0 a M = some r ∧ f_X12_has 94 a M = some r := by
  have hc := h.hc
  have hs := h.1
  have hb := h.n.2
  obtain ⟨hV, hw⟩ := h.2.2.2.2.1
  obtain ⟨kc, q1, q2, q3⟩ := h.2.2.2.2.2.2.1
  have hS := StS54 hc
  have hl : upF (M.2.1 140) G < 64 := upF_lt64 hb.1
  obtain ⟨r1, r2, r3, r4, r5⟩ := r_many hs
  obtain ⟨n1, n2, n3, n4, n5⟩ := h.n.1
  have z0 : ldI 14 M 130 2 = some (M.2.1 130 2) := ld130 hs (j := 2) (by decide)
  have z1 : ldI 14 M 140 0 = some (M.2.1 140 0) := ld140 hs (j := 0) (by decide)
  have z2 : ldI 14 M 140 27 = some (M.2.1 140 27) := ld140 hs (j := 27) (by decide)
  unfold f_X11_has f_X12_has f_X11_has_B155
  simp only [sr0 hc, sr94 hs, h.cv.p0, h.cv.g1, h.cv.g2, h.cv.g3, h.cv.g4, h.cv.g5, h.cv.nG, h.cv.nP, h.cv.nW, h.cv.nE, h.cv.nC, h.cv.mi, gr0_4 hc, gi54 hc, gi0 hc, gi94 hs, gr94_45 hs, gr94_59 hs, r1, r2, r3, r4, r5, n1, n2, n3, n4, n5, z0, z1, z2, hV.1, hV.2.1, q2, q3, h1, h2, bc_of hl, bits_of hl, r_upSet hs n1 hb.1, Option.bind_some, uR_eq (M := M) (a := 130) (k := 2) (by decide) (by decide)]
  refine both ?_
  repeat' (first | rfl | split)
theorem nv_s (h : ∀ x ∈ L, 1 ≤ x ∧ x ≤ 26) (k : Nat) : nv L (k + 1) / 27 = nv L k ∧ nv L (k + 1) % 27 = L.getD k 0 := by
  have h2 := (gd_get h k).1
  have e : nv L (k + 1) = nv L k * 27 + L.getD k 0 := rfl
  omega
theorem nv_big (h : ∀ x ∈ L, 1 ≤ x ∧ x ≤ 26) {k : Nat} (hk : k ≤ 6) : nv L k < 387420490 := by
  have h1 := nv_lt h k
  have h2 : 27 ^ k ≤ 27 ^ 6 := Nat.pow_le_pow_right (by decide) hk
  have h3 : 27 ^ 6 = 387420489 := by decide
  omega
theorem nv_pos (h : ∀ x ∈ L, 1 ≤ x ∧ x ≤ 26) {k : Nat} (hk : k < L.length) : 1 ≤ nv L (k + 1) := by
  have := (gd_get h k).2.1 hk
  show 1 ≤ nv L k * 27 + L.getD k 0
  omega
theorem c_let (hL : GdN L) {k : Nat} (hk : k < 6) : f_X9_letterOf_L30 (nI k) (nI (nv L 6)) 5 M = some (nI (L.getD k 0)) := by
  unfold f_X9_letterOf_L30
  obtain ⟨b, b1, b2⟩ := itr_g (f := fun a : (Int32 × Int32) => f_X9_letterOf_K30 (nI k) a.1 a.2 M) (fun j (_ : Unit) => (nI (nv L (6 - j)), nI (5 - j))) (fun j _ => j ≤ 5 - k) (fun b => b = nI (nv L (k + 1))) 5 (by decide) (by
    intro j s hj hI
    dsimp only
    unfold f_X9_letterOf_K30
    have hbg := nv_big hL.2.2 (k := 6 - j) (by omega)
    by_cases q : 5 - j ≤ k
    · right
      rw [if_pos (by rw [cle (by omega) (by omega)]; exact q)]
      exact ⟨_, rfl, by rw [show 6 - j = k + 1 by omega]⟩
    · left
      rw [if_neg (by rw [cle (by omega) (by omega)]; exact q)]
      refine ⟨by omega, (), ?_, by omega⟩
      rw [show (27 : Int32) = nI 27 from rfl, pk_div (by omega) (by decide) (by decide), show 6 - j = (5 - j) + 1 by omega, (nv_s hL.2.2 (5 - j)).1, show 5 - j = (5 - (j + 1)) + 1 by omega, pk_m1, show 6 - (j + 1) = 5 - (j + 1) + 1 by omega]) (i := 0) (s := ()) (by decide) (by omega)
  replace b1 : sItr (fun a : (Int32 × Int32) => f_X9_letterOf_K30 (nI k) a.1 a.2 M) sFuel (nI (nv L 6), 5) = some b := b1
  rw [b1, Option.bind_some, b2]
  unfold f_X9_letterOf_B47
  rw [show (27 : Int32) = nI 27 from rfl, pk_rem (by have := nv_big hL.2.2 (k := k + 1) (by omega); omega) (by decide) (by decide), (nv_s hL.2.2 k).2]
theorem r_let (hL : GdN L) {k : Nat} (hk : k < 6) {v : Int64} (hv : v.toInt = nv L L.length) : f_X12_letter_L69 (nI k) v 0 v M = some (nI (L.getD k 0)) := by
  have hv2 : v = lN (nv L L.length) := eq_j.mpr (by rw [hv, pk_lT (by have := nv_big hL.2.2 hL.2.1; omega)])
  have h1 := hL.1
  have h6 := hL.2.1
  subst hv2
  unfold f_X12_letter_L69
  obtain ⟨b, b1, b2⟩ := itr_g (f := fun a : (Int32 × Int64) => f_X12_letter_K69 (nI k) (lN (nv L L.length)) a.1 a.2 M) (fun j (_ : Unit) => (nI j, lN (nv L (L.length - j)))) (fun j _ => j ≤ L.length) (fun b => b = nI L.length) 6 (by decide) (by
    intro j s hj hI
    dsimp only
    unfold f_X12_letter_K69
    have hbg := nv_big hL.2.2 (k := L.length - j) (by omega)
    rw [show (0 : Int64) = lN 0 from rfl]
    by_cases q : j = L.length
    · right
      subst q
      rw [if_pos (by rw [Nat.sub_self]; exact (pk_lLE (a := 0) (b := 0) (by decide) (by decide)).mpr (Nat.le_refl 0))]
      exact ⟨_, rfl, rfl⟩
    · left
      have hp := nv_pos hL.2.2 (k := L.length - (j + 1)) (by omega)
      rw [show L.length - j = L.length - (j + 1) + 1 by omega] at hbg ⊢
      rw [if_neg (fun z => by have := (pk_lLE (by omega) (by decide)).mp z; omega)]
      refine ⟨by omega, (), ?_, by omega⟩
      rw [show (27 : Int64) = lN 27 from rfl, pk_lDiv (by omega) (by decide) (by decide), (nv_s hL.2.2 _).1, nI_1]) (i := 0) (s := ()) (by decide) (by omega)
  replace b1 : sItr (fun a : (Int32 × Int64) => f_X12_letter_K69 (nI k) (lN (nv L L.length)) a.1 a.2 M) sFuel (0, lN (nv L L.length)) = some b := b1
  rw [b1, Option.bind_some, b2]
  unfold f_X12_letter_B90
  by_cases q : k < L.length
  · rw [if_pos (by rw [clt (by omega) (by omega)]; exact q)]
    unfold f_X12_letter_L104
    obtain ⟨b', d1, d2⟩ := itr_g (f := fun a : (Int64 × Int32) => f_X12_letter_K104 (nI k) a.1 a.2 M) (fun j (_ : Unit) => (lN (nv L (L.length - j)), nI (L.length - 1 - j))) (fun j _ => j ≤ L.length - 1 - k) (fun b => b = lN (nv L (k + 1))) 6 (by decide) (by
      intro j s hj hI
      dsimp only
      unfold f_X12_letter_K104
      have hbg := nv_big hL.2.2 (k := L.length - j) (by omega)
      by_cases q : L.length - 1 - j ≤ k
      · right
        rw [if_pos (by rw [cle (by omega) (by omega)]; exact q)]
        exact ⟨_, rfl, by rw [show L.length - j = k + 1 by omega]⟩
      · left
        rw [if_neg (by rw [cle (by omega) (by omega)]; exact q)]
        refine ⟨by omega, (), ?_, by omega⟩
        rw [show (27 : Int64) = lN 27 from rfl, pk_lDiv (by omega) (by decide) (by decide), show L.length - j = (L.length - (j + 1)) + 1 by omega, (nv_s hL.2.2 _).1, show L.length - 1 - j = (L.length - 1 - (j + 1)) + 1 by omega, pk_m1]) (i := 0) (s := ()) (by decide) (by omega)
    replace d1 : sItr (fun a : (Int64 × Int32) => f_X12_letter_K104 (nI k) a.1 a.2 M) sFuel (lN (nv L L.length), nI (L.length - 1)) = some b' := d1
    rw [show nI L.length - (1 : Int32) = nI (L.length - 1) from nsub (b := 1) h1, d1, Option.bind_some, d2]
    unfold f_X12_letter_B124
    rw [show (27 : Int64) = lN 27 from rfl, pk_lRem (by have := nv_big hL.2.2 (k := k + 1) (by omega); omega) (by decide) (by decide), (nv_s hL.2.2 k).2]
    have hg := (gd_get hL.2.2 k).1
    exact congrArg some ((by decide : ∀ x, x ≤ 26 → (lN x).toInt32 = nI x) _ hg)
  · rw [if_neg (by rw [clt (by omega) (by omega)]; exact q), (gd_get hL.2.2 k).2.2 (by omega)]
    rfl
theorem ok_letter1 (hc : ClsS M.1 M.2.2.2) (hD : D = 10 ∨ D = 32) (hk : kd < 4) (hn : M.2.1 (D + ofK kd) 3 = nI n) (hmx : n ≤ mxK kd) (hN : ∀ i, i < n → ∃ L, GdN L ∧ M.2.1 (D + ofK kd + 1) i = nI (nv L 6) ∧ (M.2.2.1 132 (32 + 8 * kd + i)).toInt = nv L L.length) (a b : Int32) :
    ∃ r, f_X9_letterOf (D + ofK kd) a b M = some r ∧ (∀ i k, a = nI i → b = nI k → i < n → k < 6 → f_X12_letter_L69 (nI k) (M.2.2.1 132 (32 + 8 * kd + i)) 0 (M.2.2.1 132 (32 + 8 * kd + i)) M = some r) ∧ (¬ ((0 ≤ a.toInt ∧ a.toInt < n) ∧ 0 ≤ b.toInt ∧ b.toInt < (6 : Nat)) → r = -1) := by
  obtain ⟨d1, d2, d3, d4, d5⟩ := dTb (M := M) (kd := kd) hc hD (by omega)
  have hm := mx_le (kd := kd) (by omega)
  have e0 : (0 : Int32).toInt = 0 := rfl
  have e6 : (6 : Int32).toInt = 6 := rfl
  unfold f_X9_letterOf
  rw [sRc_of d1, isThere_of d1, Option.bind_some, hn, nI_i (by omega)]
  rcases arg_c a n (by omega) with ⟨i, hi, rfl⟩ | hna
  · rw [if_neg (bI_y (inR hi (by omega)))]
    rcases arg_c b 6 (by decide) with ⟨k, hk6, rfl⟩ | hnb
    · obtain ⟨L, l1, l2, l3⟩ := hN i hi
      rw [if_neg (nI_pos (by omega)), if_pos (by rw [show (6 : Int32) = nI 6 from rfl, clt (by omega) (by decide)]; exact hk6), gR_of d1 d2, Option.bind_some, ldI_n d4 (by omega) (by omega), Option.bind_some, l2, c_let l1 hk6]
      refine ⟨_, rfl, fun i' k' h1 h2 h3 h4 => ?_, fun z => absurd ⟨inR hi (by omega), inR hk6 (by decide)⟩ z⟩
      have hii : i = i' := (nI_eq (by omega) (by omega)).mp h1
      have hkk : k = k' := (nI_eq (by omega) (by omega)).mp h2
      subst hii hkk
      exact r_let l1 hk6 l3
    · refine ⟨-1, ?_, fun i' k' h1 h2 h3 h4 => absurd (by rw [h2]; exact inR h4 (by decide)) hnb, fun _ => rfl⟩
      by_cases q : b < 0
      · rw [if_pos q]
      · rw [if_neg q, if_neg (fun z => hnb ?_)]
        have q1 := lt_i.mp z
        have q2 := le_i.mp (Int32.not_lt.mp q)
        omega
  · rw [if_pos (bI_0.mpr hna)]
    exact ⟨-1, rfl, fun i' k' h1 h2 h3 h4 => absurd (by rw [h1]; exact inR h3 (by omega)) hna, fun _ => rfl⟩
theorem ok_letter (h : KI M D G P E C W c0 c1 c2) (hN : I_nm M D G P E C) (x a b : Int32) : ∃ r, f_X11_letter 0 x a b M = some r ∧ f_X12_letter 94 x a b M = some r := by
  have hc := h.hc
  have hs := h.1
  have hb := h.n.2
  obtain ⟨n1, n2, n3, n4, n5⟩ := h.n.1
  have cn := h.cv.2.2.1
  have e0 : (0 : Int64).toInt = 0 := rfl
  have e3 : (3 : Int64).toInt = 3 := rfl
  have e5 : (5 : Int64).toInt = 5 := rfl
  -- one kind
  have key : ∀ kd n, kd < 4 → n ≤ mxK kd → M.2.1 (D + ofK kd) 3 = nI n → M.2.1 131 (5 + kd) = nI n → n = [G, P, E, C].getD kd 0 → ∃ r, f_X9_letterOf (D + ofK kd) a b M = some r ∧ f_X12_letter 94 (nI kd) a b M = some r := by
    intro kd n hk hm hn hr hnn
    have hmm := mx_le (kd := kd) (by omega)
    have hm7 : mxK kd ≤ 7 := (by decide : ∀ kd, kd < 4 → mxK kd ≤ 7) kd hk
    obtain ⟨r, a1, a2, a3⟩ := ok_letter1 hc h.cv.hD hk hn hm (fun i hi => hN kd i hk (by rw [← hnn]; exact hi)) a b
    refine ⟨r, a1, ?_⟩
    unfold f_X12_letter
    have es : (nI n - 1).toInt = (n : Int) - 1 := by
      rw [sub_i (by rw [nI_i (by omega)]; show -2147483648 ≤ (n : Int) - 1; omega) (by rw [nI_i (by omega)]; show (n : Int) - 1 < 2147483648; omega), nI_i (by omega)]; rfl
    rw [sr94 hs, isIn_of, Option.bind_some, i64, nI_i (by omega), if_neg (bI_y (by omega)), gr94_46 hs, Option.bind_some, show (5 : Int32) + nI kd = nI (5 + kd) from nI_add 5 kd, ld131 hs (by omega), Option.bind_some, hr, isIn_of, Option.bind_some, i64, i64, es]
    rcases arg_c a n (by omega) with ⟨i, hi, rfl⟩ | hna
    · rw [if_neg (bI_y (by have := inR hi (by omega); omega)), isIn_of, Option.bind_some, i64]
      rcases arg_c b 6 (by decide) with ⟨k, hk6, rfl⟩ | hnb
      · rw [if_neg (bI_y (by have := inR hk6 (by decide); omega)), gr94_47 hs, Option.bind_some, show (32 : Int32) + (8 : Int32) * nI kd + nI i = nI (32 + 8 * kd + i) from (by rw [show (8 : Int32) = nI 8 from rfl, pk_mul, show (32 : Int32) = nI 32 from rfl, nI_add, nI_add]), ldJ_n (rs132 hs) (by omega) (by decide), Option.bind_some]
        exact a2 i k rfl rfl hi hk6
      · rw [if_pos (bI_0.mpr (by omega)), a3 (fun z => hnb z.2)]
    · rw [if_pos (bI_0.mpr (by omega)), a3 (fun z => hna z.1)]
  unfold f_X11_letter
  simp only [sr0 hc, h.cv.p0, h.cv.g1, h.cv.g2, h.cv.g4, h.cv.g5, Option.bind_some]
  by_cases q0 : x = 0
  · rw [if_pos q0, q0]
    obtain ⟨r, a1, a2⟩ := key 0 G (by decide) hb.1 cn.2.2.1 n1 rfl
    replace a1 : f_X9_letterOf (D + 1) a b M = some r := a1
    rw [a1]; exact ⟨r, rfl, a2⟩
  · rw [if_neg q0]
    by_cases q1 : x = 1
    · rw [if_pos q1, q1]
      obtain ⟨r, a1, a2⟩ := key 1 P (by decide) hb.2.1 cn.2.2.2.1 n2 rfl
      replace a1 : f_X9_letterOf (D + 4) a b M = some r := a1
      rw [a1]; exact ⟨r, rfl, a2⟩
    · rw [if_neg q1]
      by_cases q2 : x = 2
      · rw [if_pos q2, q2]
        obtain ⟨r, a1, a2⟩ := key 2 E (by decide) hb.2.2.1 cn.2.2.2.2.2.1 n3 rfl
        replace a1 : f_X9_letterOf (D + 10) a b M = some r := a1
        rw [a1]; exact ⟨r, rfl, a2⟩
      · rw [if_neg q2]
        by_cases q3 : x = 3
        · rw [if_pos q3, q3]
          obtain ⟨r, a1, a2⟩ := key 3 C (by decide) hb.2.2.2.1 cn.2.2.2.2.2.2 n4 rfl
          replace a1 : f_X9_letterOf (D + 13) a b M = some r := a1
          rw [a1]; exact ⟨r, rfl, a2⟩
        · rw [if_neg q3]
          refine ⟨-1, rfl, ?_⟩
          unfold f_X12_letter
          rw [sr94 hs, isIn_of, Option.bind_some, i64, if_pos (bI_0.mpr (fun z => ?_))]
          have g0 : ¬ x.toInt = 0 := fun z => q0 (eq_i.mpr z)
          have g1 : ¬ x.toInt = 1 := fun z => q1 (eq_i.mpr z)
          have g2 : ¬ x.toInt = 2 := fun z => q2 (eq_i.mpr z)
          have g3 : ¬ x.toInt = 3 := fun z => q3 (eq_i.mpr z)
          have f0 : (0 : Int32).toInt = 0 := rfl
          have f1 : (1 : Int32).toInt = 1 := rfl
          have f2 : (2 : Int32).toInt = 2 := rfl
          have f3 : (3 : Int32).toInt = 3 := rfl
          omega
end HAS
