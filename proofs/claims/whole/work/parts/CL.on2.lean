/-! CALLS: on, the reference; all of it -/
section ONC
variable {M N : sMem} {D Do G P E C W k e c g m s n pc pn : Nat} {c0 c1 c2 : List Nat} {t : Nat → Nat} {w : Nat → Int32}
theorem r_twoAt (hs : RefS M.1 M.2.2.2) (hC : ∀ i, i < n → M.2.1 95 i = nI (t i)) (hn : n ≤ 1600) {k : Nat} (hk : k + 1 < n) : f_X12_twoAt 94 (nI k) M = some (nI (256 * t k + t (k + 1))) := by
  unfold f_X12_twoAt
  rw [sr94 hs, gr94_0 hs, Option.bind_some, ld95 hs (by omega), Option.bind_some, Option.bind_some, nI_1, ld95 hs (by omega), Option.bind_some, hC _ (by omega), hC _ (by omega), show (256 : Int32) = nI 256 from rfl, pk_mul, nI_add]
theorem r_isImg (hs : RefS M.1 M.2.2.2) (hm : M.2.1 131 5 = nI G ∧ M.2.1 131 6 = nI P ∧ M.2.1 131 7 = nI E ∧ M.2.1 131 8 = nI C) (hb : G ≤ 6 ∧ P ≤ 7 ∧ E ≤ 5 ∧ C ≤ 5) (h57 : M.2.1 94 57 = 1) (hC : ∀ i, i < n → M.2.1 95 i = nI (t i)) (ht : ∀ i, i < n → t i < 256) (hn : n = 3 + G + E + 4 * C) (hsum : nI (t (2 + G + E + 4 * C)) = sl (M.2.1 95) (2 + G + E + 4 * C)) : ∃ x, f_X12_isImage 94 (nI n) M = some x ∧ ((x = 1 ∧ gdIm t G P E C) ∨ (x = 0 ∧ ¬ gdIm t G P E C)) := by
  obtain ⟨r1, r2, r3, r4, r5⟩ := r_many hs
  have t0 := ht 0 (by omega)
  have t1 := ht 1 (by omega)
  have e2 := r_twoAt (t := t) hs hC (by omega) (k := 0) (by omega)
  rw [show 0 + 1 = 1 from rfl] at e2
  replace e2 : f_X12_twoAt 94 0 M = some (nI (256 * t 0 + t 1)) := e2
  have en : nI n - (1 : Int32) = nI (2 + G + E + 4 * C) := by rw [show nI n - (1 : Int32) = nI (n - 1) from nsub (b := 1) (by omega), show n - 1 = 2 + G + E + 4 * C by omega]
  unfold f_X12_isImage
  rw [sr94 hs, r1, Option.bind_some, r3, Option.bind_some, gi94 hs, Option.bind_some, h57, if_neg (by decide), r4, Option.bind_some, hm.1, hm.2.2.1, hm.2.2.2, show (2 : Int32) + nI G + nI E + (4 : Int32) * nI C + (1 : Int32) = nI n from (by rw [show (4 : Int32) = nI 4 from rfl, pk_mul, show (2 : Int32) = nI 2 from rfl, nI_add, nI_add, nI_add, nI_1, hn]; congr 1; omega), if_pos rfl, gr94_0 hs, Option.bind_some, en, ld95 hs (by omega), Option.bind_some, Option.bind_some, r_sumI (rs95 hs) (by decide) (by omega), Option.bind_some, hC _ (by omega), if_pos hsum, e2, Option.bind_some, show (2 : Int32) + nI G = nI (2 + G) from nI_add 2 G, nI_add]
  by_cases q : 256 * t 0 + t 1 ≤ 999
  · rw [if_pos (by rw [show (999 : Int32) = nI 999 from rfl, cle (by omega) (by decide)]; exact q)]
    unfold f_X12_isImage_L72
    obtain ⟨b, b1, b2⟩ := itr_up0 (f := fun a : (Int32) => f_X12_isImage_K72 94 (nI n) (nI (2 + G)) (nI (2 + G + E)) a M) (fun j => 2 ≤ j ∧ ∀ g, 2 + g < j → t (2 + g) ≤ 1) (fun b => (b = .inl () ∧ ∀ g, g < G → t (2 + g) ≤ 1) ∨ (b = .inr 0 ∧ ¬ gdIm t G P E C)) (2 + G) (by omega) (by
      rintro j hj ⟨i1, i2⟩
      unfold f_X12_isImage_K72
      by_cases z : j = 2 + G
      · right
        subst z
        rw [if_pos (nI_le (Nat.le_refl _) (by omega))]
        exact ⟨_, rfl, Or.inl ⟨rfl, fun g hg => i2 g (by omega)⟩⟩
      · have tb := ht j (by omega)
        rw [if_neg (nI_ge (by omega) (by omega)), gr94_0 hs, Option.bind_some, ld95 hs (by omega), Option.bind_some, hC _ (by omega)]
        by_cases y : t j ≤ 1
        · left
          rw [if_pos (by rw [show (1 : Int32) = nI 1 from rfl, cle (by omega) (by decide)]; exact y), nI_1]
          refine ⟨by omega, rfl, by omega, fun g hg => ?_⟩
          by_cases x : 2 + g = j
          · rw [x]; exact y
          · exact i2 g (by omega)
        · right
          rw [if_neg (by rw [show (1 : Int32) = nI 1 from rfl, cle (by omega) (by decide)]; exact y)]
          refine ⟨_, rfl, Or.inr ⟨rfl, fun h => y ?_⟩⟩
          have := h.2.1 (j - 2) (by omega)
          rw [show 2 + (j - 2) = j by omega] at this
          exact this) (i := 2) (by omega) ⟨by omega, fun g hg => by omega⟩
    replace b1 : sItr (fun a : (Int32) => f_X12_isImage_K72 94 (nI n) (nI (2 + G)) (nI (2 + G + E)) a M) sFuel 2 = some b := b1
    rw [b1, Option.bind_some]
    rcases b2 with ⟨rfl, b2⟩ | ⟨rfl, b2⟩
    · dsimp only
      unfold f_X12_isImage_B97 f_X12_isImage_L100
      obtain ⟨b, d1, d2⟩ := itr_up0 (f := fun a : (Int32) => f_X12_isImage_K100 94 (nI n) (nI (2 + G + E)) a M) (fun j => 2 + G ≤ j ∧ ∀ e, 2 + G + e < j → t (2 + G + e) ≤ 99) (fun b => (b = .inl () ∧ ∀ e, e < E → t (2 + G + e) ≤ 99) ∨ (b = .inr 0 ∧ ¬ gdIm t G P E C)) (2 + G + E) (by omega) (by
        rintro j hj ⟨i1, i2⟩
        unfold f_X12_isImage_K100
        by_cases z : j = 2 + G + E
        · right
          subst z
          rw [if_pos (nI_le (Nat.le_refl _) (by omega))]
          exact ⟨_, rfl, Or.inl ⟨rfl, fun g hg => i2 g (by omega)⟩⟩
        · have tb := ht j (by omega)
          rw [if_neg (nI_ge (by omega) (by omega)), gr94_0 hs, Option.bind_some, ld95 hs (by omega), Option.bind_some, hC _ (by omega)]
          by_cases y : t j ≤ 99
          · left
            rw [if_pos (by rw [show (99 : Int32) = nI 99 from rfl, cle (by omega) (by decide)]; exact y), nI_1]
            refine ⟨by omega, rfl, by omega, fun g hg => ?_⟩
            by_cases x : 2 + G + g = j
            · rw [x]; exact y
            · exact i2 g (by omega)
          · right
            rw [if_neg (by rw [show (99 : Int32) = nI 99 from rfl, cle (by omega) (by decide)]; exact y)]
            refine ⟨_, rfl, Or.inr ⟨rfl, fun h => y ?_⟩⟩
            have := h.2.2.1 (j - (2 + G)) (by omega)
            rw [show 2 + G + (j - (2 + G)) = j by omega] at this
            exact this) (i := 2 + G) (by omega) ⟨by omega, fun g hg => by omega⟩
      rw [d1, Option.bind_some]
      rcases d2 with ⟨rfl, d2⟩ | ⟨rfl, d2⟩
      · dsimp only
        unfold f_X12_isImage_B126 f_X12_isImage_L129
        obtain ⟨b, g1, g2⟩ := itr_g (f := fun a : (Int32) => f_X12_isImage_K129 94 (nI n) a M) (fun c (_ : Unit) => nI (2 + G + E + 4 * c)) (fun i _ => ∀ c, c < i → gdCr t G P E c) (fun b => (b = 1 ∧ gdIm t G P E C) ∨ (b = 0 ∧ ¬ gdIm t G P E C)) C (by omega) (by
          intro j s hj hI
          unfold f_X12_isImage_K129
          rw [en]
          by_cases z : j = C
          · right
            subst z
            rw [if_pos (nI_le (Nat.le_refl _) (by omega))]
            exact ⟨_, rfl, Or.inl ⟨rfl, q, b2, d2, hI⟩⟩
          · have a0 := ht (2 + G + E + 4 * j) (by omega)
            have a1 := ht (2 + G + E + 4 * j + 1) (by omega)
            have a2 := ht (2 + G + E + 4 * j + 2) (by omega)
            have a3 := ht (2 + G + E + 4 * j + 3) (by omega)
            have e3 := r_twoAt (t := t) hs hC (by omega) (k := 2 + G + E + 4 * j + 2) (by omega)
            rw [show 2 + G + E + 4 * j + 2 + 1 = 2 + G + E + 4 * j + 3 by omega] at e3
            have no : ¬ gdCr t G P E j → (j < C ∧ ∃ s' : Unit, (some (Sum.inr (0 : Int32)) : Option (Int32 ⊕ Int32)) = some (Sum.inl (nI (2 + G + E + 4 * (j + 1)))) ∧ ∀ c, c < j + 1 → gdCr t G P E c) ∨ ∃ b, (some (Sum.inr (0 : Int32)) : Option (Int32 ⊕ Int32)) = some (Sum.inr b) ∧ ((b = 1 ∧ gdIm t G P E C) ∨ (b = 0 ∧ ¬ gdIm t G P E C)) := fun h => Or.inr ⟨0, rfl, Or.inr ⟨rfl, fun y => h (y.2.2.2 j (by omega))⟩⟩
            rw [if_neg (nI_ge (by omega) (by omega)), gr94_0 hs, Option.bind_some, ld95 hs (by omega), Option.bind_some, hC _ (by omega), r_isPlace hs hm.2.1 hb.2.1, Option.bind_some, i64, nI_i (show t (2 + G + E + 4 * j) < 2147483648 by omega)]
            by_cases y0 : t (2 + G + E + 4 * j) < P
            · rw [if_neg (bI_y (by omega)), Option.bind_some, nI_1, ld95 hs (by omega), Option.bind_some, hC _ (by omega), r_isPlace hs hm.2.1 hb.2.1, Option.bind_some, i64, nI_i (show t (2 + G + E + 4 * j + 1) < 2147483648 by omega)]
              by_cases y1 : t (2 + G + E + 4 * j + 1) < P
              · rw [if_neg (bI_y (by omega)), Option.bind_some, ld95 hs (by omega), Option.bind_some, Option.bind_some, ld95 hs (by omega), Option.bind_some, hC (2 + G + E + 4 * j) (by omega), hC (2 + G + E + 4 * j + 1) (by omega)]
                by_cases y2 : t (2 + G + E + 4 * j) = t (2 + G + E + 4 * j + 1)
                · rw [if_pos (by rw [y2])]
                  exact no (fun y => y.2.2.1 y2)
                · rw [if_neg (fun y => y2 ((nI_eq (by omega) (by omega)).mp y)), show nI (2 + G + E + 4 * j) + (2 : Int32) = nI (2 + G + E + 4 * j + 2) from nI_add _ 2, e3, Option.bind_some]
                  by_cases y3 : 256 * t (2 + G + E + 4 * j + 2) + t (2 + G + E + 4 * j + 3) ≤ 999
                  · left
                    rw [if_pos (by rw [show (999 : Int32) = nI 999 from rfl, cle (by omega) (by decide)]; exact y3), show nI (2 + G + E + 4 * j) + (4 : Int32) = nI (2 + G + E + 4 * (j + 1)) from nI_add _ 4]
                    refine ⟨by omega, (), rfl, fun c hc => ?_⟩
                    by_cases x : c = j
                    · rw [x]; exact ⟨y0, y1, y2, y3⟩
                    · exact hI c (by omega)
                  · rw [if_neg (by rw [show (999 : Int32) = nI 999 from rfl, cle (by omega) (by decide)]; exact y3)]
                    exact no (fun y => y3 y.2.2.2)
              · rw [if_pos (bI_0.mpr (by omega))]
                exact no (fun y => y1 y.2.1)
            · rw [if_pos (bI_0.mpr (by omega))]
              exact no (fun y => y0 y.1)) (i := 0) (s := ()) (by omega) (fun c hc => by omega)
        replace g1 : sItr (fun a : (Int32) => f_X12_isImage_K129 94 (nI n) a M) sFuel (nI (2 + G + E)) = some b := g1
        rw [g1]
        exact ⟨b, rfl, g2⟩
      · exact ⟨0, rfl, Or.inr ⟨rfl, d2⟩⟩
    · exact ⟨0, rfl, Or.inr ⟨rfl, b2⟩⟩
  · rw [if_neg (by rw [show (999 : Int32) = nI 999 from rfl, cle (by omega) (by decide)]; exact q)]
    exact ⟨0, rfl, Or.inr ⟨rfl, fun y => q y.1⟩⟩
def p140 : Nat → Nat → Bool := fun a _ => a == 140
/-- the reference takes an image -/
theorem r_onW (hs : RefS M.1 M.2.2.2) (hm : M.2.1 131 5 = nI G ∧ M.2.1 131 7 = nI E ∧ M.2.1 131 8 = nI C) (hb : G ≤ 6 ∧ E ≤ 5 ∧ C ≤ 5) (hC : ∀ i, i < n → M.2.1 95 i = nI (t i)) (hn : n = 3 + G + E + 4 * C) : ∃ N, f_X12_on_L58 94 (nI (2 + G)) (nI (2 + G + E)) 0 (wrI M 140 0 (nI (256 * t 0 + t 1))) = some (1, wrI (wrI N 140 27 0) 94 85 0) ∧ Fr p140 q0 M N ∧ (∀ i, i < 27 → N.2.1 140 i = onW t G E C (M.2.1 140) i) ∧ ∀ i, 27 ≤ i → N.2.1 140 i = M.2.1 140 i := by
  have F0 : Fr p140 q0 M (wrI M 140 0 (nI (256 * t 0 + t 1))) := Fr.rf.wi rfl
  have c95 : ∀ N, Fr p140 q0 M N → ∀ i, i < n → N.2.1 95 i = nI (t i) := fun N hF i hi => by rw [hF.i rfl]; exact hC i hi
  unfold f_X12_on_L58
  obtain ⟨B, b1, b2, b3⟩ := itr_up (f := fun a : (Int32 × sMem) => f_X12_on_K58 94 (nI (2 + G)) (nI (2 + G + E)) a.1 a.2) (fun j N => Fr p140 q0 M N ∧ ∀ i, N.2.1 140 i = if i < 1 + j then onW t G E C (M.2.1 140) i else M.2.1 140 i) (fun N => Fr p140 q0 M N ∧ ∀ i, N.2.1 140 i = if i < 1 + G then onW t G E C (M.2.1 140) i else M.2.1 140 i) G (by omega) (by
    rintro j N hj ⟨i1, i2⟩
    dsimp only
    have hsN := i1.hs hs
    unfold f_X12_on_K58
    rw [(r_many hsN).1, Option.bind_some, i1.i rfl, hm.1]
    by_cases q : j = G
    · right
      subst q
      rw [if_pos (nI_le (Nat.le_refl _) (by omega))]
      exact ⟨N, rfl, i1, i2⟩
    · left
      rw [if_neg (nI_ge (by omega) (by omega)), gr94_59 hsN, Option.bind_some, gr94_0 hsN, Option.bind_some, show (2 : Int32) + nI j = nI (2 + j) from nI_add 2 j, ld95 hsN (by omega), Option.bind_some, c95 N i1 _ (by omega), show (1 : Int32) + nI j = nI (1 + j) from nI_add 1 j, st140 hsN (by omega), Option.bind_some, nI_1]
      refine ⟨by omega, _, rfl, i1.wi rfl, fun i => ?_⟩
      by_cases z : i = 1 + j
      · subst z; rw [wrI_eq, if_pos (by omega), onW_g (by omega) hb.1]
      · rw [wrI_ne (by omega), i2 i]
        by_cases y : i < 1 + j
        · rw [if_pos y, if_pos (by omega)]
        · rw [if_neg y, if_neg (by omega)]) (i := 0) (s := wrI M 140 0 (nI (256 * t 0 + t 1))) (by omega) ⟨F0, fun i => by
      by_cases z : i = 0
      · subst z; rw [wrI_eq, if_pos (by omega), onW_0]
      · rw [wrI_ne (by omega), if_neg (by omega)]⟩
  replace b1 : sItr (fun a : (Int32 × sMem) => f_X12_on_K58 94 (nI (2 + G)) (nI (2 + G + E)) a.1 a.2) sFuel (0, wrI M 140 0 (nI (256 * t 0 + t 1))) = some B := b1
  rw [b1, Option.bind_some]
  unfold f_X12_on_B91 f_X12_on_L94
  obtain ⟨B2, d1, d2, d3⟩ := itr_up (f := fun a : (Int32 × sMem) => f_X12_on_K94 94 (nI (2 + G)) (nI (2 + G + E)) a.1 a.2) (fun j N => Fr p140 q0 M N ∧ ∀ i, N.2.1 140 i = if i < 1 + G ∨ (7 ≤ i ∧ i < 7 + j) then onW t G E C (M.2.1 140) i else M.2.1 140 i) (fun N => Fr p140 q0 M N ∧ ∀ i, N.2.1 140 i = if i < 1 + G ∨ (7 ≤ i ∧ i < 7 + E) then onW t G E C (M.2.1 140) i else M.2.1 140 i) E (by omega) (by
    rintro j N hj ⟨i1, i2⟩
    dsimp only
    have hsN := i1.hs hs
    unfold f_X12_on_K94
    rw [(r_many hsN).2.2.1, Option.bind_some, i1.i rfl, hm.2.1]
    by_cases q : j = E
    · right
      subst q
      rw [if_pos (nI_le (Nat.le_refl _) (by omega))]
      exact ⟨N, rfl, i1, i2⟩
    · left
      rw [if_neg (nI_ge (by omega) (by omega)), gr94_59 hsN, Option.bind_some, gr94_0 hsN, Option.bind_some, nI_add, ld95 hsN (by omega), Option.bind_some, c95 N i1 _ (by omega), show (7 : Int32) + nI j = nI (7 + j) from nI_add 7 j, st140 hsN (by omega), Option.bind_some, nI_1]
      refine ⟨by omega, _, rfl, i1.wi rfl, fun i => ?_⟩
      by_cases z : i = 7 + j
      · subst z; rw [wrI_eq, if_pos (by omega), onW_e (by omega) hb.2.1]
      · rw [wrI_ne (by omega), i2 i]
        by_cases y : i < 1 + G ∨ (7 ≤ i ∧ i < 7 + j)
        · rw [if_pos y, if_pos (by omega)]
        · rw [if_neg y, if_neg (by omega)]) (i := 0) (s := B) (by omega) ⟨b2, fun i => by
      rw [b3 i]
      by_cases y : i < 1 + G
      · rw [if_pos y, if_pos (by omega)]
      · rw [if_neg y, if_neg (by omega)]⟩
  replace d1 : sItr (fun a : (Int32 × sMem) => f_X12_on_K94 94 (nI (2 + G)) (nI (2 + G + E)) a.1 a.2) sFuel (0, B) = some B2 := d1
  rw [d1, Option.bind_some]
  unfold f_X12_on_B128 f_X12_on_L131
  obtain ⟨B3, e1, e2, e3⟩ := itr_up (f := fun a : (Int32 × sMem) => f_X12_on_K131 94 (nI (2 + G + E)) a.1 a.2) (fun j N => Fr p140 q0 M N ∧ ∀ i, N.2.1 140 i = if i < 1 + G ∨ (7 ≤ i ∧ i < 7 + E) ∨ (12 ≤ i ∧ i < 12 + 3 * j) then onW t G E C (M.2.1 140) i else M.2.1 140 i) (fun N => Fr p140 q0 M N ∧ ∀ i, N.2.1 140 i = if i < 1 + G ∨ (7 ≤ i ∧ i < 7 + E) ∨ (12 ≤ i ∧ i < 12 + 3 * C) then onW t G E C (M.2.1 140) i else M.2.1 140 i) C (by omega) (by
    rintro j N hj ⟨i1, i2⟩
    dsimp only
    have hsN := i1.hs hs
    unfold f_X12_on_K131 f_X12_on_B212
    rw [(r_many hsN).2.2.2.1, Option.bind_some, i1.i rfl, hm.2.2]
    by_cases q : j = C
    · right
      subst q
      rw [if_pos (nI_le (Nat.le_refl _) (by omega))]
      exact ⟨N, rfl, i1, i2⟩
    · left
      obtain ⟨w0, w1, w2⟩ := onW_c (t := t) (G := G) (E := E) (C := C) (w := M.2.1 140) (c := j) (by omega) hb.2.2
      obtain ⟨A1, a1⟩ : ∃ A, A = wrI N 140 (12 + 3 * j) (nI (t (2 + G + E + 4 * j))) := ⟨_, rfl⟩
      obtain ⟨A2, a2⟩ : ∃ A, A = wrI A1 140 (13 + 3 * j) (nI (t (2 + G + E + 4 * j + 1))) := ⟨_, rfl⟩
      have F1 : Fr p140 q0 M A1 := by rw [a1]; exact i1.wi rfl
      have F2 : Fr p140 q0 M A2 := by rw [a2]; exact F1.wi rfl
      have h1 := F1.hs hs
      have h2 := F2.hs hs
      have e4 := r_twoAt (t := t) h2 (c95 A2 F2) (by omega) (k := 2 + G + E + 4 * j + 2) (by omega)
      rw [show 2 + G + E + 4 * j + 2 + 1 = 2 + G + E + 4 * j + 3 by omega] at e4
      have ix : ∀ x : Nat, nI x + (3 : Int32) * nI j = nI (x + 3 * j) := fun x => by rw [show (3 : Int32) = nI 3 from rfl, pk_mul, nI_add]
      rw [if_neg (nI_ge (by omega) (by omega)), gr94_59 hsN, Option.bind_some, gr94_0 hsN, Option.bind_some, show nI (2 + G + E) + (4 : Int32) * nI j = nI (2 + G + E + 4 * j) from (by rw [show (4 : Int32) = nI 4 from rfl, pk_mul, nI_add]), ld95 hsN (by omega), Option.bind_some, c95 N i1 _ (by omega), show (12 : Int32) + (3 : Int32) * nI j = nI (12 + 3 * j) from ix 12, st140 hsN (by omega), Option.bind_some, ← a1, gr94_59 h1, Option.bind_some, gr94_0 h1, Option.bind_some, nI_1, ld95 h1 (by omega), Option.bind_some, c95 A1 F1 _ (by omega), show (13 : Int32) + (3 : Int32) * nI j = nI (13 + 3 * j) from ix 13, st140 h1 (by omega), Option.bind_some, ← a2, gr94_59 h2, Option.bind_some, show nI (2 + G + E + 4 * j) + (2 : Int32) = nI (2 + G + E + 4 * j + 2) from nI_add _ 2, e4, Option.bind_some, show (14 : Int32) + (3 : Int32) * nI j = nI (14 + 3 * j) from ix 14, st140 h2 (by omega), Option.bind_some, nI_1]
      refine ⟨by omega, _, rfl, F2.wi rfl, fun i => ?_⟩
      by_cases z2 : i = 14 + 3 * j
      · subst z2; rw [wrI_eq, if_pos (by omega), w2]
      · rw [wrI_ne (by omega)]
        by_cases z1 : i = 13 + 3 * j
        · subst z1; rw [a2, wrI_eq, if_pos (by omega), w1]
        · rw [a2, wrI_ne (by omega)]
          by_cases z0 : i = 12 + 3 * j
          · subst z0; rw [a1, wrI_eq, if_pos (by omega), w0]
          · rw [a1, wrI_ne (by omega), i2 i]
            by_cases y : i < 1 + G ∨ (7 ≤ i ∧ i < 7 + E) ∨ (12 ≤ i ∧ i < 12 + 3 * j)
            · rw [if_pos y, if_pos (by omega)]
            · rw [if_neg y, if_neg (by omega)]) (i := 0) (s := B2) (by omega) ⟨d2, fun i => by
      rw [d3 i]
      by_cases y : i < 1 + G ∨ (7 ≤ i ∧ i < 7 + E)
      · rw [if_pos y, if_pos (by omega)]
      · rw [if_neg y, if_neg (by omega)]⟩
  replace e1 : sItr (fun a : (Int32 × sMem) => f_X12_on_K131 94 (nI (2 + G + E)) a.1 a.2) sFuel (0, B2) = some B3 := e1
  rw [e1, Option.bind_some]
  unfold f_X12_on_B218
  have hs3 := e2.hs hs
  have hs4 : RefS (wrI B3 140 27 0).1 (wrI B3 140 27 0).2.2.2 := hs3
  rw [gr94_59 hs3, Option.bind_some, show stI B3 140 27 0 = some (wrI B3 140 27 0) from st140 hs3 (j := 27) (by decide), Option.bind_some, pi94 hs4, Option.bind_some]
  refine ⟨B3, rfl, e2, fun i hi => ?_, fun i hi => by rw [e3 i, if_neg (by omega)]⟩
  rw [e3 i]
  by_cases y : i < 1 + G ∨ (7 ≤ i ∧ i < 7 + E) ∨ (12 ≤ i ∧ i < 12 + 3 * C)
  · rw [if_pos y]
  · rw [if_neg y]
    unfold onW
    rw [if_neg (by omega)]
    by_cases y1 : i < 7
    · rw [if_pos y1, if_neg (by omega)]
    · rw [if_neg y1]
      by_cases y2 : i < 12
      · rw [if_pos y2, if_neg (by omega)]
      · rw [if_neg y2, if_pos hi, if_neg (by omega)]
end ONC
