/-! CALLS: image -/
def sf (s x : Int32) : Int32 := ((3 : Int32) * s + x) - ((3 : Int32) * s + x) / (251 : Int32) * (251 : Int32)
def sl (b : Nat → Int32) : Nat → Int32
  | 0 => 229
  | i + 1 => sf (sl b i) (b i)
theorem sl_cong {b b' : Nat → Int32} : ∀ {n : Nat}, (∀ i, i < n → b i = b' i) → sl b n = sl b' n
  | 0, _ => rfl
  | n + 1, h => by
    show sf (sl b n) (b n) = sf (sl b' n) (b' n)
    rw [sl_cong (fun i hi => h i (by omega)), h n (by omega)]
section IMG
variable {M N : sMem} {D Do G P E C W k e c g m s n pc pn z a : Nat} {c0 c1 c2 : List Nat} {w : Nat → Int32} {l : List Int32}
theorem c_sumI (h : M.1[a]? = some (14, z)) (hz : z < 100000) (hn : n ≤ z) : f_X11_imageSum a (nI n) M = some (sl (M.2.1 a) n) := by
  unfold f_X11_imageSum f_X11_imageSum_L6
  obtain ⟨b, b1, b2⟩ := itr_g (f := fun x : (Int32 × Int32) => f_X11_imageSum_K6 a (nI n) x.1 x.2 M) (fun j (_ : Unit) => (sl (M.2.1 a) j, nI j)) (fun j _ => True) (fun b => b = sl (M.2.1 a) n) n (by omega) (by
    intro j s hj _
    dsimp only
    unfold f_X11_imageSum_K6
    by_cases q : j = n
    · right
      subst q
      rw [if_pos (nI_le (Nat.le_refl _) (by omega))]
      exact ⟨_, rfl, rfl⟩
    · left
      rw [if_neg (nI_ge (by omega) (by omega)), aL_of h, Option.bind_some, if_neg (nI_ge (by omega) (by omega)), ldI_n h (by omega) (by omega), Option.bind_some, nI_1]
      exact ⟨by omega, (), rfl, trivial⟩) (i := 0) (s := ()) (by omega) trivial
  replace b1 : sItr (fun x : (Int32 × Int32) => f_X11_imageSum_K6 a (nI n) x.1 x.2 M) sFuel (229, 0) = some b := b1
  rw [b1, Option.bind_some, b2]
theorem r_sumI (h : M.1[a]? = some (14, z)) (hz : z < 100000) (hn : n ≤ z) : f_X12_checked a (nI n) M = some (sl (M.2.1 a) n) := by
  unfold f_X12_checked f_X12_checked_L6
  obtain ⟨b, b1, b2⟩ := itr_g (f := fun x : (Int32 × Int32) => f_X12_checked_K6 a (nI n) x.1 x.2 M) (fun j (_ : Unit) => (sl (M.2.1 a) j, nI j)) (fun j _ => True) (fun b => b = sl (M.2.1 a) n) n (by omega) (by
    intro j s hj _
    dsimp only
    unfold f_X12_checked_K6
    by_cases q : j = n
    · right
      subst q
      rw [if_pos (nI_le (Nat.le_refl _) (by omega))]
      exact ⟨_, rfl, rfl⟩
    · left
      rw [if_neg (nI_ge (by omega) (by omega)), ldI_n h (by omega) (by omega), Option.bind_some, nI_1]
      exact ⟨by omega, (), rfl, trivial⟩) (i := 0) (s := ()) (by omega) trivial
  replace b1 : sItr (fun x : (Int32 × Int32) => f_X12_checked_K6 a (nI n) x.1 x.2 M) sFuel (229, 0) = some b := b1
  rw [b1, Option.bind_some, b2]
def pIc : Nat → Nat → Bool := fun a k => a == 92 || (a == 0 && k == 17)
def pIr : Nat → Nat → Bool := fun a k => a == 186 || (a == 94 && k == 126)
def CIm (N : sMem) (l : List Int32) : Prop := N.2.1 0 17 = nI l.length ∧ ∀ i, i < l.length → N.2.1 92 i = l.getD i 0
def RIm (N : sMem) (l : List Int32) : Prop := N.2.1 94 126 = nI l.length ∧ ∀ i, i < l.length → N.2.1 186 i = l.getD i 0
theorem getD_app {x : Int32} {i : Nat} (h : i < (l ++ [x]).length) : (l ++ [x]).getD i 0 = if i = l.length then x else l.getD i 0 := by
  rw [List.length_append] at h
  have h' : i < l.length + 1 := h
  by_cases q : i = l.length
  · subst q
    rw [if_pos rfl]
    simp [List.getD]
  · rw [if_neg q, List.getD_eq_getElem?_getD, List.getD_eq_getElem?_getD, List.getElem?_append_left (by omega)]
theorem len_app {x : Int32} : (l ++ [x]).length = l.length + 1 := by rw [List.length_append]; rfl
theorem c_write (hc : ClsS M.1 M.2.2.2) (h : CIm M l) (hl : l.length < 34) (x : Int32) : ∃ N, f_X11_write 0 x M = some N ∧ Fr pIc q0 M N ∧ CIm N (l ++ [x]) := by
  unfold f_X11_write
  have hc2 : ClsS (wrI M 92 l.length x).1 (wrI M 92 l.length x).2.2.2 := hc
  rw [sr0 hc, gi0 hc, Option.bind_some, gr0_16 hc, Option.bind_some, al92 hc, Option.bind_some, h.1, if_neg (nI_ge (by omega) (by decide)), Option.bind_some, Option.bind_some, st92 hc hl, Option.bind_some, gi0 hc2, Option.bind_some, wrI_ne (by omega), h.1, nI_1, pi0 hc2, Option.bind_some]
  refine ⟨_, rfl, (Fr.rf.wi rfl).wi rfl, by rw [wrI_eq, len_app], fun i hi => ?_⟩
  rw [getD_app hi, wrI_ne (by omega)]
  by_cases q : i = l.length
  · rw [if_pos q, q, wrI_eq]
  · rw [len_app] at hi
    rw [if_neg q, wrI_ne (by omega)]
    exact h.2 i (by omega)
theorem r_write (hs : RefS M.1 M.2.2.2) (h : RIm M l) (hl : l.length < 34) (x : Int32) : ∃ N, f_X12_writes 94 x M = some N ∧ Fr pIr q0 M N ∧ RIm N (l ++ [x]) := by
  unfold f_X12_writes
  have hs2 : RefS (wrI M 186 l.length x).1 (wrI M 186 l.length x).2.2.2 := hs
  rw [sr94 hs, gr94_125 hs, Option.bind_some, gi94 hs, Option.bind_some, h.1, st186 hs hl, Option.bind_some, gi94 hs2, Option.bind_some, wrI_ne (by omega), h.1, nI_1, pi94 hs2, Option.bind_some]
  refine ⟨_, rfl, (Fr.rf.wi rfl).wi rfl, by rw [wrI_eq, len_app], fun i hi => ?_⟩
  rw [getD_app hi, wrI_ne (by omega)]
  by_cases q : i = l.length
  · rw [if_pos q, q, wrI_eq]
  · rw [len_app] at hi
    rw [if_neg q, wrI_ne (by omega)]
    exact h.2 i (by omega)
theorem c_pair (hc : ClsS M.1 M.2.2.2) (h : CIm M l) (hl : l.length < 33) {v : Nat} (hv : v < 65536) : ∃ N, f_X11_writePair 0 (nI v) M = some N ∧ Fr pIc q0 M N ∧ CIm N (l ++ [nI (v / 256)] ++ [nI (v % 256)]) := by
  have e1 : nI v >>> ((8 : Int32) &&& 31) = nI (v / 256) := pk_shrN (by omega) _ 8 (by decide)
  have e2 : nI v &&& (255 : Int32) = nI (v % 256) := pk_andN (by omega) 8 (by decide)
  obtain ⟨N1, a1, a2, a3⟩ := c_write hc h (by omega) (nI (v / 256))
  obtain ⟨N2, b1, b2, b3⟩ := c_write (a2.hc hc) a3 (by rw [len_app]; omega) (nI (v % 256))
  unfold f_X11_writePair
  rw [sr0 hc, e1, e2, a1, Option.bind_some, b1]
  exact ⟨N2, rfl, a2.tr b2, b3⟩
theorem r_pair (hs : RefS M.1 M.2.2.2) (h : RIm M l) (hl : l.length < 33) {v : Nat} (hv : v < 65536) : ∃ N, f_X12_writesTwo 94 (nI v) M = some N ∧ Fr pIr q0 M N ∧ RIm N (l ++ [nI (v / 256)] ++ [nI (v % 256)]) := by
  have e1 : nI v / (256 : Int32) = nI (v / 256) := pk_div (d := 256) (by omega) (by decide) (by decide)
  have e2 : nI v - nI v / (256 : Int32) * (256 : Int32) = nI (v % 256) := pk_rem (d := 256) (by omega) (by decide) (by decide)
  obtain ⟨N1, a1, a2, a3⟩ := r_write hs h (by omega) (nI (v / 256))
  obtain ⟨N2, b1, b2, b3⟩ := r_write (a2.hs hs) a3 (by rw [len_app]; omega) (nI (v % 256))
  unfold f_X12_writesTwo
  rw [sr94 hs, e2, e1, a1, Option.bind_some, b1]
  exact ⟨N2, rfl, a2.tr b2, b3⟩
def imG (w : Nat → Int32) (l : List Int32) : Nat → List Int32
  | 0 => l
  | g + 1 => imG w l g ++ [w (1 + g)]
def imE (w : Nat → Int32) (l : List Int32) : Nat → List Int32
  | 0 => l
  | g + 1 => imE w l g ++ [w (7 + g)]
def knS (w : Nat → Int32) (c : Nat) : Nat := (w (14 + 3 * c)).toInt.toNat
def imC (w : Nat → Int32) (l : List Int32) : Nat → List Int32
  | 0 => l
  | c + 1 => imC w l c ++ [w (12 + 3 * c)] ++ [w (13 + 3 * c)] ++ [nI (knS w c / 256)] ++ [nI (knS w c % 256)]
theorem imG_l : ∀ i, (imG w l i).length = l.length + i
  | 0 => rfl
  | i + 1 => by show (imG w l i ++ [w (1 + i)]).length = _; rw [len_app, imG_l i]; omega
theorem imE_l : ∀ i, (imE w l i).length = l.length + i
  | 0 => rfl
  | i + 1 => by show (imE w l i ++ [w (7 + i)]).length = _; rw [len_app, imE_l i]; omega
theorem imC_l : ∀ i, (imC w l i).length = l.length + 4 * i
  | 0 => rfl
  | i + 1 => by
    show (imC w l i ++ [w (12 + 3 * i)] ++ [w (13 + 3 * i)] ++ [nI (knS w i / 256)] ++ [nI (knS w i % 256)]).length = _
    rw [len_app, len_app, len_app, len_app, imC_l i]; omega
theorem knS_v (hw : WG w G P E C) (hc : c < C) : w (14 + 3 * c) = nI (knS w c) ∧ knS w c ≤ 999 := by
  obtain ⟨_, _, _, _, _, k, k1, k2⟩ := hw.2.2.2 c hc
  have : knS w c = k := by unfold knS; rw [k2, nI_i (by omega)]; rfl
  rw [this]; exact ⟨k2, k1⟩
theorem ic_cv {a k : Nat} (h : kX a k = true) : pIc a k = false := Bool.eq_false_iff.mpr (fun z => by unfold pIc at z; unfold kX at h; simp only [Bool.or_eq_true, Bool.and_eq_true, beq_iff_eq, decide_eq_true_eq] at z h; omega)
theorem ir_cv {a k : Nat} (h : kX a k = true) : pIr a k = false := Bool.eq_false_iff.mpr (fun z => by unfold pIr at z; unfold kX at h; simp only [Bool.or_eq_true, Bool.and_eq_true, beq_iff_eq, decide_eq_true_eq] at z h; omega)
theorem ok_image (h : IX M D Do G P E C W c0 c1 c2 n pc pn) : ∃ r M1 M2, f_X11_image 0 M = some (r, M1) ∧ f_X12_image 94 M1 = some (r, M2) ∧ Inv M2 := by
  have k := h.1
  have hc := k.hc
  have hs := k.1
  have hb := k.n.2
  obtain ⟨hV, hw⟩ := k.2.2.2.2.1
  obtain ⟨d, hd9, hd⟩ := k.day
  obtain ⟨wN, hwN⟩ : ∃ wN, wN = M.2.1 140 := ⟨_, rfl⟩
  rw [← hwN] at hV hw hd
  obtain ⟨l0, hl0⟩ : ∃ l0, l0 = ([] : List Int32) ++ [nI (d / 256)] ++ [nI (d % 256)] := ⟨_, rfl⟩
  have ll0 : l0.length = 2 := by rw [hl0]; rfl
  -- the class
  have cls : ∃ N, f_X11_image 0 M = some (nI (3 + G + E + 4 * C), N) ∧ Fr pIc q0 M N ∧ CIm N (imC wN (imE wN (imG wN l0 G) E) C ++ [sl (fun i => (imC wN (imE wN (imG wN l0 G) E) C).getD i 0) (2 + G + E + 4 * C)]) := by
    have h0 : CIm (wrI M 0 17 0) [] := ⟨wrI_eq, fun i hi => absurd hi (Nat.not_lt_zero i)⟩
    have hcA : ClsS (wrI M 0 17 0).1 (wrI M 0 17 0).2.2.2 := hc
    obtain ⟨A, a1, a2, a3⟩ := c_pair (v := d) hcA h0 (by decide) (by omega)
    rw [← hl0] at a3
    have FA : Fr pIc q0 M A := (Fr.rf.wi rfl).tr a2
    have kk : ∀ N, Fr pIc q0 M N → KI N D G P E C W c0 c1 c2 := fun N hF => (k.fr hF (fun a k z => ic_cv z) (fun _ _ _ => rfl)).1
    have hvN : ∀ N, Fr pIc q0 M N → SV wN N 54 G E C := fun N hF => by
      have := (kk N hF).2.2.2.2.1.1
      rw [show N.2.1 140 = wN from (by rw [hwN]; exact funext fun k => hF.i rfl)] at this
      exact this
    unfold f_X11_image f_X11_image_L18
    rw [sr0 hc, pi0 hc, Option.bind_some, gr0_4 hcA, Option.bind_some, gi54 hcA, Option.bind_some, wrI_ne (by omega), hV.1, hd, a1, Option.bind_some]
    obtain ⟨B, b1, b2, b3⟩ := itr_up (f := fun a : (Int32 × sMem) => f_X11_image_K18 0 a.1 a.2) (fun i N => Fr pIc q0 M N ∧ CIm N (imG wN l0 i)) (fun N => Fr pIc q0 M N ∧ CIm N (imG wN l0 G)) G (by omega) (by
      rintro i N hi ⟨i1, i2⟩
      dsimp only
      have kN := kk N i1
      unfold f_X11_image_K18 f_X11_image_B49
      rw [kN.cv.p0, Option.bind_some, kN.cv.g1, Option.bind_some, kN.cv.nG, Option.bind_some]
      by_cases q : i = G
      · right
        subst q
        rw [if_pos (nI_le (Nat.le_refl _) (by omega))]
        exact ⟨N, rfl, i1, i2⟩
      · left
        obtain ⟨N', n1, n2, n3⟩ := c_write kN.hc i2 (by rw [imG_l, ll0]; omega) (wN (1 + i))
        rw [if_neg (nI_ge (by omega) (by omega)), gr0_4 kN.hc, Option.bind_some, c_isUp (StS54 kN.hc) (hvN N i1) hw hb.1 (by omega), Option.bind_some]
        refine ⟨by omega, N', ?_, i1.tr n2, n3⟩
        rcases w01 hw (show i < 6 by omega) with z | z
        · rw [z] at n1 ⊢
          rw [if_pos rfl, n1, Option.bind_some, nI_1]
        · rw [z] at n1 ⊢
          rw [if_neg (by decide), n1, Option.bind_some, nI_1]) (i := 0) (s := A) (by omega) ⟨FA, a3⟩
    replace b1 : sItr (fun a : (Int32 × sMem) => f_X11_image_K18 0 a.1 a.2) sFuel (0, A) = some B := b1
    rw [b1, Option.bind_some]
    unfold f_X11_image_B58 f_X11_image_L60
    obtain ⟨B2, d1, d2, d3⟩ := itr_up (f := fun a : (Int32 × sMem) => f_X11_image_K60 0 a.1 a.2) (fun i N => Fr pIc q0 M N ∧ CIm N (imE wN (imG wN l0 G) i)) (fun N => Fr pIc q0 M N ∧ CIm N (imE wN (imG wN l0 G) E)) E (by omega) (by
      rintro i N hi ⟨i1, i2⟩
      dsimp only
      have kN := kk N i1
      unfold f_X11_image_K60
      rw [kN.cv.p0, Option.bind_some, kN.cv.g4, Option.bind_some, kN.cv.nE, Option.bind_some]
      by_cases q : i = E
      · right
        subst q
        rw [if_pos (nI_le (Nat.le_refl _) (by omega))]
        exact ⟨N, rfl, i1, i2⟩
      · left
        obtain ⟨N', n1, n2, n3⟩ := c_write kN.hc i2 (by rw [imE_l, imG_l, ll0]; omega) (wN (7 + i))
        rw [if_neg (nI_ge (by omega) (by omega)), gr0_4 kN.hc, Option.bind_some, gS2 (StS54 kN.hc), Option.bind_some, lS1 (StS54 kN.hc) (by omega), Option.bind_some, (hvN N i1).2.2.1 i (by omega), n1, Option.bind_some, nI_1]
        exact ⟨by omega, N', rfl, i1.tr n2, n3⟩) (i := 0) (s := B) (by omega) ⟨b2, b3⟩
    replace d1 : sItr (fun a : (Int32 × sMem) => f_X11_image_K60 0 a.1 a.2) sFuel (0, B) = some B2 := d1
    rw [d1, Option.bind_some]
    unfold f_X11_image_B93 f_X11_image_L95
    obtain ⟨B3, e1, e2, e3⟩ := itr_up (f := fun a : (Int32 × sMem) => f_X11_image_K95 0 a.1 a.2) (fun i N => Fr pIc q0 M N ∧ CIm N (imC wN (imE wN (imG wN l0 G) E) i)) (fun N => Fr pIc q0 M N ∧ CIm N (imC wN (imE wN (imG wN l0 G) E) C)) C (by omega) (by
      rintro i N hi ⟨i1, i2⟩
      dsimp only
      have kN := kk N i1
      unfold f_X11_image_K95
      rw [kN.cv.p0, Option.bind_some, kN.cv.g5, Option.bind_some, kN.cv.nC, Option.bind_some]
      by_cases q : i = C
      · right
        subst q
        rw [if_pos (nI_le (Nat.le_refl _) (by omega))]
        exact ⟨N, rfl, i1, i2⟩
      · left
        have hlen : (imC wN (imE wN (imG wN l0 G) E) i).length = 2 + G + E + 4 * i := by rw [imC_l, imE_l, imG_l, ll0]
        obtain ⟨v1, v2, v3⟩ := (hvN N i1).2.2.2 i (by omega)
        obtain ⟨x1, x2⟩ := knS_v hw (show i < C by omega)
        obtain ⟨P1, n1, n2, n3⟩ := c_write kN.hc i2 (by rw [hlen]; omega) (wN (12 + 3 * i))
        have c1 := n2.hc kN.hc
        obtain ⟨y1, y2, y3⟩ := (hvN P1 (i1.tr n2)).2.2.2 i (by omega)
        obtain ⟨P2, m1, m2, m3⟩ := c_write c1 n3 (by rw [len_app, hlen]; omega) (wN (13 + 3 * i))
        have c2 := m2.hc c1
        obtain ⟨z1, z2, z3⟩ := (hvN P2 ((i1.tr n2).tr m2)).2.2.2 i (by omega)
        obtain ⟨P3, o1, o2, o3⟩ := c_pair (v := knS wN i) c2 m3 (by rw [len_app, len_app, hlen]; omega) (by omega)
        rw [if_neg (nI_ge (by omega) (by omega)), gr0_4 kN.hc, Option.bind_some, gS3 (StS54 kN.hc), Option.bind_some, lS2 (StS54 kN.hc) (by omega), Option.bind_some, v1, n1, Option.bind_some, gr0_4 c1, Option.bind_some, gS4 (StS54 c1), Option.bind_some, lS3 (StS54 c1) (by omega), Option.bind_some, y2, m1, Option.bind_some, gr0_4 c2, Option.bind_some, gS5 (StS54 c2), Option.bind_some, lS4 (StS54 c2) (by omega), Option.bind_some, z3, x1, o1, Option.bind_some, nI_1]
        exact ⟨by omega, P3, rfl, ((i1.tr n2).tr m2).tr o2, o3⟩) (i := 0) (s := B2) (by omega) ⟨d2, d3⟩
    replace e1 : sItr (fun a : (Int32 × sMem) => f_X11_image_K95 0 a.1 a.2) sFuel (0, B2) = some B3 := e1
    rw [e1, Option.bind_some]
    unfold f_X11_image_B154
    have c3 := e2.hc hc
    have hlen : (imC wN (imE wN (imG wN l0 G) E) C).length = 2 + G + E + 4 * C := by rw [imC_l, imE_l, imG_l, ll0]
    have esum : sl (B3.2.1 92) (2 + G + E + 4 * C) = sl (fun i => (imC wN (imE wN (imG wN l0 G) E) C).getD i 0) (2 + G + E + 4 * C) := sl_cong (fun i hi => e3.2 i (by rw [hlen]; exact hi))
    obtain ⟨B4, g1, g2, g3⟩ := c_write c3 e3 (by rw [hlen]; omega) (sl (B3.2.1 92) (2 + G + E + 4 * C))
    have c4 := g2.hc c3
    rw [gr0_16 c3, Option.bind_some, gi0 c3, Option.bind_some, e3.1, hlen, c_sumI (cs92 c3) (by decide) (by omega), Option.bind_some, g1, Option.bind_some, gi0 c4, Option.bind_some, g3.1, len_app, hlen]
    rw [esum] at g3
    exact ⟨B4, by rw [show 2 + G + E + 4 * C + 1 = 3 + G + E + 4 * C by omega], e2.tr g2, g3⟩
  obtain ⟨N, f1, f2, f3⟩ := cls
  obtain ⟨kN, euN⟩ := k.fr f2 (fun a k z => ic_cv z) (fun _ _ _ => rfl)
  have hsN := f2.hs hs
  have w140 : ∀ i, N.2.1 140 i = wN i := fun i => by rw [hwN]; exact f2.i rfl
  -- the reference
  have rfs : ∃ R, f_X12_image 94 N = some (nI (3 + G + E + 4 * C), R) ∧ Fr pIr q0 N R ∧ RIm R (imC wN (imE wN (imG wN l0 G) E) C ++ [sl (fun i => (imC wN (imE wN (imG wN l0 G) E) C).getD i 0) (2 + G + E + 4 * C)]) := by
    have h0 : RIm (wrI N 94 126 0) [] := ⟨wrI_eq, fun i hi => absurd hi (Nat.not_lt_zero i)⟩
    have hsA : RefS (wrI N 94 126 0).1 (wrI N 94 126 0).2.2.2 := hsN
    obtain ⟨A, a1, a2, a3⟩ := r_pair (v := d) hsA h0 (by decide) (by omega)
    rw [← hl0] at a3
    have FA : Fr pIr q0 N A := (Fr.rf.wi rfl).tr a2
    have w1 : ∀ R, Fr pIr q0 N R → ∀ i, R.2.1 140 i = wN i := fun R hF i => by rw [hF.i rfl]; exact w140 i
    have m1 : ∀ R, Fr pIr q0 N R → ∀ i, R.2.1 131 i = N.2.1 131 i := fun R hF i => hF.i rfl
    unfold f_X12_image f_X12_image_L17
    rw [sr94 hsN, pi94 hsN, Option.bind_some, gr94_59 hsA, Option.bind_some, show ldI 14 (wrI N 94 126 0) 140 0 = some ((wrI N 94 126 0).2.1 140 0) from ld140 hsA (j := 0) (by decide), Option.bind_some, wrI_ne (by omega), w140, hd, a1, Option.bind_some]
    obtain ⟨B, b1, b2, b3⟩ := itr_up (f := fun a : (Int32 × sMem) => f_X12_image_K17 94 a.1 a.2) (fun i R => Fr pIr q0 N R ∧ RIm R (imG wN l0 i)) (fun R => Fr pIr q0 N R ∧ RIm R (imG wN l0 G)) G (by omega) (by
      rintro i R hi ⟨i1, i2⟩
      dsimp only
      have hsR := i1.hs hsN
      unfold f_X12_image_K17
      rw [(r_many hsR).1, Option.bind_some, m1 R i1, kN.n.1.1]
      by_cases q : i = G
      · right
        subst q
        rw [if_pos (nI_le (Nat.le_refl _) (by omega))]
        exact ⟨R, rfl, i1, i2⟩
      · left
        obtain ⟨R', n1, n2, n3⟩ := r_write hsR i2 (by rw [imG_l, ll0]; omega) (wN (1 + i))
        rw [if_neg (nI_ge (by omega) (by omega)), gr94_59 hsR, Option.bind_some, show (1 : Int32) + nI i = nI (1 + i) from nI_add 1 i, ld140 hsR (by omega), Option.bind_some, w1 R i1, n1, Option.bind_some, nI_1]
        exact ⟨by omega, R', rfl, i1.tr n2, n3⟩) (i := 0) (s := A) (by omega) ⟨FA, a3⟩
    replace b1 : sItr (fun a : (Int32 × sMem) => f_X12_image_K17 94 a.1 a.2) sFuel (0, A) = some B := b1
    rw [b1, Option.bind_some]
    unfold f_X12_image_B43 f_X12_image_L45
    obtain ⟨B2, d1, d2, d3⟩ := itr_up (f := fun a : (Int32 × sMem) => f_X12_image_K45 94 a.1 a.2) (fun i R => Fr pIr q0 N R ∧ RIm R (imE wN (imG wN l0 G) i)) (fun R => Fr pIr q0 N R ∧ RIm R (imE wN (imG wN l0 G) E)) E (by omega) (by
      rintro i R hi ⟨i1, i2⟩
      dsimp only
      have hsR := i1.hs hsN
      unfold f_X12_image_K45
      rw [(r_many hsR).2.2.1, Option.bind_some, m1 R i1, kN.n.1.2.2.1]
      by_cases q : i = E
      · right
        subst q
        rw [if_pos (nI_le (Nat.le_refl _) (by omega))]
        exact ⟨R, rfl, i1, i2⟩
      · left
        obtain ⟨R', n1, n2, n3⟩ := r_write hsR i2 (by rw [imE_l, imG_l, ll0]; omega) (wN (7 + i))
        rw [if_neg (nI_ge (by omega) (by omega)), r_lateOf hsR (by omega), Option.bind_some, w1 R i1, n1, Option.bind_some, nI_1]
        exact ⟨by omega, R', rfl, i1.tr n2, n3⟩) (i := 0) (s := B) (by omega) ⟨b2, b3⟩
    replace d1 : sItr (fun a : (Int32 × sMem) => f_X12_image_K45 94 a.1 a.2) sFuel (0, B) = some B2 := d1
    rw [d1, Option.bind_some]
    unfold f_X12_image_B68 f_X12_image_L70
    obtain ⟨B3, e1, e2, e3⟩ := itr_up (f := fun a : (Int32 × sMem) => f_X12_image_K70 94 a.1 a.2) (fun i R => Fr pIr q0 N R ∧ RIm R (imC wN (imE wN (imG wN l0 G) E) i)) (fun R => Fr pIr q0 N R ∧ RIm R (imC wN (imE wN (imG wN l0 G) E) C)) C (by omega) (by
      rintro i R hi ⟨i1, i2⟩
      dsimp only
      have hsR := i1.hs hsN
      unfold f_X12_image_K70
      rw [(r_many hsR).2.2.2.1, Option.bind_some, m1 R i1, kN.n.1.2.2.2.1]
      by_cases q : i = C
      · right
        subst q
        rw [if_pos (nI_le (Nat.le_refl _) (by omega))]
        exact ⟨R, rfl, i1, i2⟩
      · left
        have hlen : (imC wN (imE wN (imG wN l0 G) E) i).length = 2 + G + E + 4 * i := by rw [imC_l, imE_l, imG_l, ll0]
        obtain ⟨x1, x2⟩ := knS_v hw (show i < C by omega)
        obtain ⟨P1, n1, n2, n3⟩ := r_write hsR i2 (by rw [hlen]; omega) (wN (12 + 3 * i))
        have c1 := n2.hs hsR
        obtain ⟨P2, p1, p2, p3⟩ := r_write c1 n3 (by rw [len_app, hlen]; omega) (wN (13 + 3 * i))
        have c2 := p2.hs c1
        obtain ⟨P3, o1, o2, o3⟩ := r_pair (v := knS wN i) c2 p3 (by rw [len_app, len_app, hlen]; omega) (by omega)
        rw [if_neg (nI_ge (by omega) (by omega)), r_placeOf hsR (by omega), Option.bind_some, w1 R i1, n1, Option.bind_some, r_goalOf c1 (by omega), Option.bind_some, w1 P1 (i1.tr n2), p1, Option.bind_some, r_knowsOf c2 (by omega), Option.bind_some, w1 P2 ((i1.tr n2).tr p2), x1, o1, Option.bind_some, nI_1]
        exact ⟨by omega, P3, rfl, ((i1.tr n2).tr p2).tr o2, o3⟩) (i := 0) (s := B2) (by omega) ⟨d2, d3⟩
    replace e1 : sItr (fun a : (Int32 × sMem) => f_X12_image_K70 94 a.1 a.2) sFuel (0, B2) = some B3 := e1
    rw [e1, Option.bind_some]
    unfold f_X12_image_B111
    have c3 := e2.hs hsN
    have hlen : (imC wN (imE wN (imG wN l0 G) E) C).length = 2 + G + E + 4 * C := by rw [imC_l, imE_l, imG_l, ll0]
    have esum : sl (B3.2.1 186) (2 + G + E + 4 * C) = sl (fun i => (imC wN (imE wN (imG wN l0 G) E) C).getD i 0) (2 + G + E + 4 * C) := sl_cong (fun i hi => e3.2 i (by rw [hlen]; exact hi))
    obtain ⟨B4, g1, g2, g3⟩ := r_write c3 e3 (by rw [hlen]; omega) (sl (B3.2.1 186) (2 + G + E + 4 * C))
    have c4 := g2.hs c3
    rw [gr94_125 c3, Option.bind_some, gi94 c3, Option.bind_some, e3.1, hlen, r_sumI (rs186 c3) (by decide) (by omega), Option.bind_some, g1, Option.bind_some, gi94 c4, Option.bind_some, g3.1, len_app, hlen]
    rw [esum] at g3
    exact ⟨B4, by rw [show 2 + G + E + 4 * C + 1 = 3 + G + E + 4 * C by omega], e2.tr g2, g3⟩
  obtain ⟨R, r1, r2, r3⟩ := rfs
  refine ⟨_, N, R, f1, r1, ?_⟩
  have hlen : (imC wN (imE wN (imG wN l0 G) E) C ++ [sl (fun i => (imC wN (imE wN (imG wN l0 G) E) C).getD i 0) (2 + G + E + 4 * C)]).length = 3 + G + E + 4 * C := by rw [len_app, imC_l, imE_l, imG_l, ll0]; omega
  obtain ⟨_, ⟨t1, _⟩, _, s4, ⟨s5, s6, s7, s8⟩, _⟩ := id h
  have hF : Fr (fun a k => pIc a k || pIr a k) q0 M R := (f2.mono (fun a k z => by revert z; cases pIc a k <;> simp) (fun _ _ z => z)).tr (r2.mono (fun a k z => by revert z; cases pIr a k <;> simp) (fun _ _ z => z))
  have v : ∀ a k, pIc a k = false → pIr a k = false → R.2.1 a k = M.2.1 a k := fun a k h1 h2 => by rw [r2.i h2, f2.i h1]
  refine (h.st (n' := n) hF (fun a k z => Bool.eq_false_iff.mpr (fun y => by unfold iX at z; unfold pIc pIr at y; simp only [Bool.or_eq_true, Bool.and_eq_true, beq_iff_eq, decide_eq_true_eq] at y z; omega)) (fun _ _ _ => rfl) (t1.fr (v _ _ rfl rfl) (v _ _ rfl rfl) (fun i => v _ _ rfl rfl) (fun i => v _ _ rfl rfl)) (s4.fr (v _ _ rfl rfl) (v _ _ rfl rfl) (fun i => v _ _ rfl rfl) (fun i => v _ _ rfl rfl)) (s5.fr (v _ _ rfl rfl) (hF.j rfl)) (s6.fr (fun i => v _ _ rfl rfl) (fun i => v _ _ rfl rfl)) (s7.fr (v _ _ rfl rfl) (v _ _ rfl rfl) (v _ _ rfl rfl) (v _ _ rfl rfl)) ⟨3 + G + E + 4 * C, by omega, ?_, ?_, fun i hi => ?_⟩).inv
  · rw [r2.i rfl, f3.1, hlen]
  · rw [r3.1, hlen]
  · rw [r2.i rfl, f3.2 i (by rw [hlen]; exact hi), r3.2 i (by rw [hlen]; exact hi)]
end IMG
