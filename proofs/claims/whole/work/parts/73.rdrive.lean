/-! THE REFERENCE drives, minute by minute -/
theorem mIe : mI = (-1 : Int32) := rfl
def pDr : Nat → Nat → Bool := fun a _ => a == 145
def St (X : Nat → Nat → Prop) (N : sMem) : Prop := ∀ j q, j < 200 → q < 7 → (X j q → N.2.1 145 (7 * j + q) = 1) ∧ (¬ X j q → N.2.1 145 (7 * j + q) = 0)
theorem St.cong {X Y : Nat → Nat → Prop} {N : sMem} (h : St X N) (hXY : ∀ j q, j < 200 → q < 7 → (X j q ↔ Y j q)) : St Y N := fun j q hj hq => ⟨fun z => (h j q hj hq).1 ((hXY j q hj hq).mpr z), fun z => (h j q hj hq).2 (fun y => z ((hXY j q hj hq).mp y))⟩
theorem upb_of0 {up g : Nat} (hu : up < 1000000) (hg : g < 32) : (((nI up >>> (nI g &&& 31)) &&& (1 : Int32)) = 0 ↔ upb up g = false) := by
  have h31 : ((nI g &&& 31).toBitVec.smod 32).toNat = g := by
    have : ∀ g, g < 32 → ((nI g &&& 31).toBitVec.smod 32).toNat = g := by decide
    exact this g hg
  rw [pk_shrN (by omega) (nI g &&& 31) g h31]
  have hlt : up / 2 ^ g ≤ up := Nat.div_le_self _ _
  rw [pk_andN (by omega) 1 (by decide), show (0 : Int32) = nI 0 from rfl, nI_eq (by omega) (by omega)]
  unfold upb
  rw [decide_eq_false_iff_not]
  omega
section DV
variable {u : Nat → Nat → Int32} {M N : sMem} {D G P E C W g k e c l m up p q t m0 fr to : Nat} {c0 c1 c2 : List Nat} {L : Nat → Nat} {X : Nat → Nat → Prop}
theorem r_reaches (hs : RefS M.1 M.2.2.2) (hX : St X M) (hq : q < 7) (ht : t < 1000) : ∃ N, f_X12_reaches 94 (nI q) (nI t) M = some N ∧ Fr pDr q0 M N ∧ St (fun j p => X j p ∨ (j = t ∧ p = q)) N := by
  unfold f_X12_reaches
  rw [sr94 hs]
  by_cases h : 200 ≤ t
  · rw [if_pos (by rw [nl 200, cle (by omega) (by omega)]; exact h)]
    refine ⟨M, rfl, Fr.rf, hX.cong (fun j p hj hp => ⟨Or.inl, fun z => ?_⟩)⟩
    rcases z with z | z
    · exact z
    · omega
  · rw [if_neg (by rw [nl 200, cle (by omega) (by omega)]; exact h), gr94_69 hs, Option.bind_some, nl 7, pk_mul, nI_add, st145 hs (by omega) (Or.inr rfl), Option.bind_some]
    refine ⟨_, rfl, Fr.rf.wi rfl, fun j p hj hp => ?_⟩
    rw [wrI_get]
    by_cases hjp : j = t ∧ p = q
    · obtain ⟨rfl, rfl⟩ := hjp
      rw [if_pos ⟨rfl, rfl⟩]
      exact ⟨fun _ => rfl, fun z => absurd (Or.inr ⟨rfl, rfl⟩) z⟩
    · rw [if_neg (by omega)]
      exact ⟨fun z => (hX j p hj hp).1 (z.resolve_right hjp), fun z => (hX j p hj hp).2 (fun y => z (Or.inl y))⟩
/-- what is laid -/
def Laid (u : Nat → Nat → Int32) (M : sMem) (G E : Nat) (c0 : List Nat) (L : Nat → Nat) : Prop := ∀ g m, g < G → m < 200 → M.2.1 144 (200 * g + m) = bI (anS u c0 E L 99 g m = true)
theorem cl_open (hg : g < G) (hm : m < 200) : clS u c0 G E L 99 up g m = false ↔ (upb up g = true ∨ anS u c0 E L 99 g m = false) := by
  unfold clS
  rw [decide_eq_true (show g < G ∧ m < 200 from ⟨hg, hm⟩), Bool.true_and]
  cases upb up g <;> cases anS u c0 E L 99 g m <;> simp
theorem r_along (hR : RV u M) (hu : DU u G P E C W c0 c1 c2) (hLd : Laid u M G E c0 L) (hup : up < 64) (hk : k < W) (hp : p < P) (hm : m < 200) (hX : St X M) :
    ∃ N, f_X12_goesAlong 94 (nI k) (nI p) (nI m) (nI up) M = some N ∧ Fr pDr q0 M N ∧ St (fun j q => X j q ∨ (wOpen u (clS u c0 G E L 99 up) k m ∧ j = m + ws u k ∧ ends u k p q)) N := by
  have hb := hu.2.1
  obtain ⟨w1, w2, w3, w4, w5, w6, w7, w8, w9⟩ := hu.way hk
  have ld : ∀ (N : sMem), RV u N → ∀ i, i < 4 → ldI 14 N 134 (nI (48 + i) + nI 4 * nI k) = some (u 134 (48 + i + 4 * k)) := by
    intro N hN i hi
    rw [pk_mul, nI_add, ld134 hN.1 (by omega), hN.2 134 _ (by decide) (by decide)]
  have B89 : ∀ (N : sMem) (Y : Nat → Nat → Prop), RV u N → St Y N → ∃ N', f_X12_goesAlong_B89 94 (nI k) (nI p) (nI m) N = some N' ∧ Fr pDr q0 N N' ∧ St (fun j q => Y j q ∨ (j = m + ws u k ∧ wb u k = p ∧ q = wa u k)) N' := by
    intro N Y hN hY
    unfold f_X12_goesAlong_B89
    rw [gr94_49 hN.1, Option.bind_some, nl 49, nl 4, ld N hN 1 (by decide), Option.bind_some, show 48 + 1 + 4 * k = 49 + 4 * k by omega, w2]
    by_cases h : wb u k = p
    · rw [if_pos (by rw [h]), Option.bind_some, nl 48, ld N hN 0 (by decide), Option.bind_some, Option.bind_some, nl 50, ld N hN 2 (by decide), Option.bind_some, show 48 + 0 + 4 * k = 48 + 4 * k by omega, show 48 + 2 + 4 * k = 50 + 4 * k by omega, w1, w3, nI_add]
      obtain ⟨N', a1, a2, a3⟩ := r_reaches hN.1 hY (q := wa u k) (t := m + ws u k) (by omega) (by omega)
      rw [a1, Option.bind_some]
      exact ⟨N', rfl, a2, a3.cong (fun j q _ _ => or_congr Iff.rfl ⟨fun z => ⟨z.1, h, z.2⟩, fun z => ⟨z.1, z.2.2⟩⟩)⟩
    · rw [if_neg (by rw [nI_eq (by omega) (by omega)]; exact h)]
      exact ⟨N, rfl, Fr.rf, hY.cong (fun j q _ _ => ⟨Or.inl, fun z => z.resolve_right (fun y => h y.2.1)⟩)⟩
  have B46 : ∃ N', f_X12_goesAlong_B46 94 (nI k) (nI p) (nI m) M = some N' ∧ Fr pDr q0 M N' ∧ St (fun j q => X j q ∨ (j = m + ws u k ∧ ends u k p q)) N' := by
    unfold f_X12_goesAlong_B46
    rw [gr94_49 hR.1, Option.bind_some, nl 48, nl 4, ld M hR 0 (by decide), Option.bind_some, show 48 + 0 + 4 * k = 48 + 4 * k by omega, w1]
    by_cases h : wa u k = p
    · rw [if_pos (by rw [h]), Option.bind_some, nl 49, ld M hR 1 (by decide), Option.bind_some, Option.bind_some, nl 50, ld M hR 2 (by decide), Option.bind_some, show 48 + 1 + 4 * k = 49 + 4 * k by omega, show 48 + 2 + 4 * k = 50 + 4 * k by omega, w2, w3, nI_add]
      obtain ⟨N', a1, a2, a3⟩ := r_reaches hR.1 hX (q := wb u k) (t := m + ws u k) (by omega) (by omega)
      rw [a1, Option.bind_some]
      obtain ⟨N2, b1, b2, b3⟩ := B89 N' _ (hR.fr a2 (fun a k h1 h2 => beq_eq_false_iff_ne.mpr (by omega))) a3
      refine ⟨N2, b1, a2.tr b2, b3.cong (fun j q _ _ => ?_)⟩
      unfold ends
      constructor
      · rintro ((z | z) | z)
        · exact Or.inl z
        · exact Or.inr ⟨z.1, Or.inl ⟨h, z.2⟩⟩
        · exact Or.inr ⟨z.1, Or.inr z.2⟩
      · rintro (z | ⟨z1, z | z⟩)
        · exact Or.inl (Or.inl z)
        · exact Or.inl (Or.inr ⟨z1, z.2⟩)
        · exact Or.inr ⟨z1, z⟩
    · rw [if_neg (by rw [nI_eq (by omega) (by omega)]; exact h)]
      obtain ⟨N2, b1, b2, b3⟩ := B89 M _ hR hX
      refine ⟨N2, b1, b2, b3.cong (fun j q _ _ => ?_)⟩
      unfold ends
      constructor
      · rintro (z | z)
        · exact Or.inl z
        · exact Or.inr ⟨z.1, Or.inr z.2⟩
      · rintro (z | ⟨z1, z | z⟩)
        · exact Or.inl z
        · exact absurd z.1 h
        · exact Or.inr ⟨z1, z⟩
  obtain ⟨N1, b1, b2, b3⟩ := B46
  have open_ : wOpen u (clS u c0 G E L 99 up) k m → ∃ N, f_X12_goesAlong_B46 94 (nI k) (nI p) (nI m) M = some N ∧ Fr pDr q0 M N ∧ St (fun j q => X j q ∨ (wOpen u (clS u c0 G E L 99 up) k m ∧ j = m + ws u k ∧ ends u k p q)) N := fun ho => ⟨N1, b1, b2, b3.cong (fun j q _ _ => or_congr Iff.rfl ⟨fun z => ⟨ho, z⟩, fun z => z.2⟩)⟩
  unfold f_X12_goesAlong
  rw [sr94 hR.1, gr94_49 hR.1, Option.bind_some, nl 51, nl 4, ld M hR 3 (by decide), Option.bind_some, show 48 + 3 + 4 * k = 51 + 4 * k by omega]
  rcases w9 with w9 | ⟨w9, w10⟩
  · rw [w9, if_pos mIe]
    exact open_ (Or.inl w9)
  · rw [w10, if_neg (by rw [show (-1 : Int32) = mI from rfl, cneg (by omega)]; exact id)]
    by_cases hu0 : upb up (wg u k) = false
    · rw [if_pos ((upb_of0 (by omega) (by omega)).mpr hu0), gr94_68 hR.1, Option.bind_some, nl 200, pk_mul, nI_add, ld144 hR.1 (by omega), Option.bind_some, hLd _ _ w9 hm]
      by_cases ha : anS u c0 E L 99 (wg u k) m = true
      · rw [bI_t ha, if_neg (by decide)]
        refine ⟨M, rfl, Fr.rf, hX.cong (fun j q _ _ => ⟨Or.inl, fun z => z.resolve_right (fun y => ?_)⟩)⟩
        rcases y.1 with y | y
        · rw [w10, cneg (by omega)] at y; exact y
        · rcases (cl_open w9 hm).mp y with y | y
          · rw [hu0] at y; cases y
          · rw [ha] at y; cases y
      · rw [bI_f ha, if_pos rfl]
        refine open_ (Or.inr ((cl_open w9 hm).mpr (Or.inr ?_)))
        cases z : anS u c0 E L 99 (wg u k) m with
        | false => rfl
        | true => exact absurd z ha
    · rw [if_neg (fun z => hu0 ((upb_of0 (by omega) (by omega)).mp z))]
      refine open_ (Or.inr ((cl_open w9 hm).mpr (Or.inl ?_)))
      cases z : upb up (wg u k) with
      | false => exact absurd z hu0
      | true => rfl
/-- one place in one minute -/
theorem r_place (hR : RV u M) (hu : DU u G P E C W c0 c1 c2) (hLd : Laid u M G E c0 L) (hup : up < 64) (hp : p < P) (hm : m < 200) (v2 : Int32) (hX : St X M) (hXp : X m p → rch u (clS u c0 G E L 99 up) W P m0 fr m p) :
    ∃ N, (f_X12_driveOf_K63 94 v2 (nI up) (nI m) (nI p) M) = some (.inl (nI (p + 1), N)) ∧ Fr pDr q0 M N ∧ St (fun j q => X j q ∨ (X m p ∧ conP u (clS u c0 G E L 99 up) W m p j q)) N := by
  have hb := hu.2.1
  have p130 : ∀ a k : Nat, 130 ≤ a → a ≤ 139 → pDr a k = false := fun a k h1 h2 => beq_eq_false_iff_ne.mpr (by omega)
  unfold f_X12_driveOf_K63 f_X12_driveOf_B131
  rw [(r_many hR.1).2.1, Option.bind_some, hR.2 131 _ (by decide) (by decide), hu.1.2.1, if_neg (nI_ge (by omega) (by omega)), gr94_69 hR.1, Option.bind_some, nl 7, pk_mul, nI_add, ld145 hR.1 (by omega), Option.bind_some]
  by_cases hx : X m p
  · rw [(hX m p hm (by omega)).1 hx, if_neg (by decide), nl 1, nI_add]
    obtain ⟨N1, a1, a2, a3⟩ := r_reaches hR.1 hX (q := p) (t := m + 1) (by omega) (by omega)
    rw [a1, Option.bind_some]
    unfold f_X12_driveOf_L104 f_X12_driveOf_B131
    obtain ⟨N, k1, k2, k3⟩ := itr_g (f := fun a : (Int32 × sMem) => f_X12_driveOf_K104 94 v2 (nI up) (nI m) (nI p) a.1 a.2) (fun k (s : sMem) => (nI k, s))
      (fun i N => Fr pDr q0 M N ∧ St (fun j q => X j q ∨ (q = p ∧ j = m + 1) ∨ ∃ k, k < i ∧ wOpen u (clS u c0 G E L 99 up) k m ∧ j = m + ws u k ∧ ends u k p q) N)
      (fun N => Fr pDr q0 M N ∧ St (fun j q => X j q ∨ (q = p ∧ j = m + 1) ∨ ∃ k, k < W ∧ wOpen u (clS u c0 G E L 99 up) k m ∧ j = m + ws u k ∧ ends u k p q) N) W (by omega) (i := 0) (s := N1) (by
        rintro i N hi ⟨hF, hv⟩
        try dsimp only
        have hRN : RV u N := hR.fr hF p130
        unfold f_X12_driveOf_K104
        rw [(r_many hRN.1).2.2.2.2, Option.bind_some, hRN.2 131 _ (by decide) (by decide), hu.1.2.2.2.2]
        by_cases hiW : W ≤ i
        · right
          obtain rfl : i = W := by omega
          exact ⟨N, by rw [if_pos (nI_le hiW (by omega))], hF, hv⟩
        · left
          refine ⟨by omega, ?_⟩
          rw [if_neg (nI_ge (by omega) (by omega))]
          obtain ⟨N2, b1, b2, b3⟩ := r_along hRN hu (fun g m hg hm => by rw [hF.i rfl]; exact hLd g m hg hm) hup (k := i) (by omega) hp hm hv
          rw [b1, Option.bind_some, nl 1, nI_add]
          refine ⟨N2, rfl, hF.tr b2, b3.cong (fun j q _ _ => ?_)⟩
          constructor
          · rintro ((z | z | ⟨k, z1, z2⟩) | z)
            · exact Or.inl z
            · exact Or.inr (Or.inl z)
            · exact Or.inr (Or.inr ⟨k, by omega, z2⟩)
            · exact Or.inr (Or.inr ⟨i, by omega, z⟩)
          · rintro (z | z | ⟨k, z1, z2⟩)
            · exact Or.inl (Or.inl z)
            · exact Or.inl (Or.inr (Or.inl z))
            · by_cases hki : k = i
              · subst hki; exact Or.inr z2
              · exact Or.inl (Or.inr (Or.inr ⟨k, by omega, z2⟩))) (by omega) ⟨a2, a3.cong (fun j q _ _ => ⟨fun z => z.imp_right (fun y => Or.inl ⟨y.2, y.1⟩), fun z => z.imp_right (fun y => by
                  rcases y with y | ⟨k, y, _⟩
                  · exact ⟨y.2, y.1⟩
                  · omega)⟩)⟩
    try dsimp only at k1
    rw [nl 0, k1, Option.bind_some, nl 1, nI_add]
    exact ⟨N, rfl, k2, k3.cong (fun j q _ _ => or_congr Iff.rfl ⟨fun z => ⟨hx, z⟩, fun z => z.2⟩)⟩
  · rw [(hX m p hm (by omega)).2 hx, if_pos rfl, nl 1, nI_add]
    exact ⟨M, rfl, Fr.rf, hX.cong (fun j q _ _ => ⟨Or.inl, fun z => z.resolve_right (fun y => hx y.1)⟩)⟩
theorem r_drive (hR : RV u M) (hu : DU u G P E C W c0 c1 c2) (hLd : Laid u M G E c0 L) (hup : up < 64) (hfr : fr < P) (hto : to < P) (hm0 : m0 < 200) :
    ∃ r N, f_X12_driveOf 94 (nI fr) (nI to) (nI m0) (nI up) M = some (r, N) ∧ Fr pDr q0 M N ∧ DrvP u (clS u c0 G E L 99 up) W P m0 fr to r := by
  have hb := hu.2.1
  have p130 : ∀ a k : Nat, 130 ≤ a → a ≤ 139 → pDr a k = false := fun a k h1 h2 => beq_eq_false_iff_ne.mpr (by omega)
  unfold f_X12_driveOf f_X12_driveOf_L3
  rw [sr94 hR.1]
  obtain ⟨N1, a1, a2, a3⟩ := itr_g (f := fun a : (Int32 × sMem) => f_X12_driveOf_K3 94 (nI fr) (nI to) (nI m0) (nI up) a.1 a.2) (fun k (s : sMem) => (nI k, s)) (fun i N => Fr pDr q0 M N ∧ ∀ j, j < i → N.2.1 145 j = 0) (fun N => Fr pDr q0 M N ∧ ∀ j, j < 1400 → N.2.1 145 j = 0) 1400 (by omega) (i := 0) (s := M) (by
    rintro i N hi ⟨hF, hv⟩
    try dsimp only
    unfold f_X12_driveOf_K3
    by_cases h : 1400 ≤ i
    · right
      obtain rfl : i = 1400 := by omega
      exact ⟨N, by rw [if_pos (by decide)], hF, hv⟩
    · left
      refine ⟨by omega, _, by rw [if_neg (by rw [nl 1400, cle (by omega) (by omega)]; omega), gr94_69 (hF.hs hR.1), Option.bind_some, st145 (hF.hs hR.1) (by omega) (Or.inl rfl), Option.bind_some, nl 1, nI_add], hF.wi rfl, fun j hj => ?_⟩
      rw [wrI_get]
      by_cases hji : j = i
      · rw [if_pos ⟨rfl, hji⟩]
      · rw [if_neg (fun z => hji z.2)]; exact hv j (by omega)) (by omega) ⟨Fr.rf, fun j hj => by omega⟩
  try dsimp only at a1
  rw [nl 0, a1, Option.bind_some]
  unfold f_X12_driveOf_B25
  have st0 : St (fun _ _ => False) N1 := fun j q hj hq => ⟨fun z => z.elim, fun _ => a3 _ (by omega)⟩
  obtain ⟨N2, b1, b2, b3⟩ := r_reaches (a2.hs hR.1) st0 (q := fr) (t := m0) (by omega) (by omega)
  rw [b1, Option.bind_some]
  have f2 := a2.tr b2
  unfold f_X12_driveOf_L34
  obtain ⟨⟨r, N⟩, k1, k2, k3⟩ := itr_g (f := fun a : (Int32 × sMem) => f_X12_driveOf_K34 94 (nI to) (nI up) a.1 a.2) (fun k (s : sMem) => (nI k, s))
    (fun i N => Fr pDr q0 M N ∧ m0 ≤ i ∧ St (fun j q => prtP u (clS u c0 G E L 99 up) W P m0 fr i j q) N ∧ ∀ j, j < i → ¬ rch u (clS u c0 G E L 99 up) W P m0 fr j to)
    (fun b => Fr pDr q0 M b.2 ∧ DrvP u (clS u c0 G E L 99 up) W P m0 fr to b.1) 200 (by omega) (i := m0) (s := N2) (by
      rintro i N hi ⟨hF, hmi, hv, hno⟩
      try dsimp only
      have hRN : RV u N := hR.fr hF p130
      unfold f_X12_driveOf_K34
      by_cases h : 200 ≤ i
      · right
        obtain rfl : i = 200 := by omega
        exact ⟨_, by rw [if_pos (by decide)], hF, Or.inl ⟨rfl, hno⟩⟩
      · rw [if_neg (by rw [nl 200, cle (by omega) (by omega)]; omega), gr94_69 hRN.1, Option.bind_some, nl 7, pk_mul, nI_add, ld145 hRN.1 (by omega), Option.bind_some]
        by_cases hx : prtP u (clS u c0 G E L 99 up) W P m0 fr i i to
        · right
          rw [(hv i to (by omega) (by omega)).1 hx, if_neg (by decide)]
          exact ⟨_, rfl, hF, Or.inr ⟨i, by omega, rfl, (prt_rch hu (Nat.le_refl i)).mp hx, hno⟩⟩
        · left
          refine ⟨by omega, ?_⟩
          rw [(hv i to (by omega) (by omega)).2 hx, if_pos rfl]
          unfold f_X12_driveOf_L63 f_X12_driveOf_B137
          obtain ⟨N3, d1, d2, d3⟩ := itr_g (f := fun a : (Int32 × sMem) => f_X12_driveOf_K63 94 (nI to) (nI up) (nI i) a.1 a.2) (fun k (s : sMem) => (nI k, s))
            (fun p N => Fr pDr q0 M N ∧ St (fun j q => prtP u (clS u c0 G E L 99 up) W P m0 fr i j q ∨ ∃ p', p' < p ∧ rch u (clS u c0 G E L 99 up) W P m0 fr i p' ∧ conP u (clS u c0 G E L 99 up) W i p' j q) N)
            (fun N => Fr pDr q0 M N ∧ St (fun j q => prtP u (clS u c0 G E L 99 up) W P m0 fr i j q ∨ ∃ p', p' < P ∧ rch u (clS u c0 G E L 99 up) W P m0 fr i p' ∧ conP u (clS u c0 G E L 99 up) W i p' j q) N) P (by omega) (i := 0) (s := N) (by
              rintro p N hp ⟨gF, gv⟩
              try dsimp only
              have hRN : RV u N := hR.fr gF p130
              by_cases hpP : P ≤ p
              · right
                obtain rfl : p = P := by omega
                refine ⟨N, ?_, gF, gv⟩
                unfold f_X12_driveOf_K63
                rw [(r_many hRN.1).2.1, Option.bind_some, hRN.2 131 _ (by decide) (by decide), hu.1.2.1, if_pos (nI_le hpP (by omega))]
              · left
                refine ⟨by omega, ?_⟩
                have hcur : ∀ p', (prtP u (clS u c0 G E L 99 up) W P m0 fr i i p' ∨ ∃ p'', p'' < p ∧ rch u (clS u c0 G E L 99 up) W P m0 fr i p'' ∧ conP u (clS u c0 G E L 99 up) W i p'' i p') ↔ rch u (clS u c0 G E L 99 up) W P m0 fr i p' := fun p' => by
                  rw [prt_rch hu (Nat.le_refl i)]
                  exact ⟨fun z => z.elim id (fun ⟨_, _, _, z⟩ => absurd (con_lt hu z) (Nat.lt_irrefl _)), Or.inl⟩
                obtain ⟨N4, e1, e2, e3⟩ := r_place (m0 := m0) (fr := fr) hRN hu (fun g m hg hm => by rw [gF.i rfl]; exact hLd g m hg hm) hup (p := p) (m := i) (by omega) (by omega) (nI to) gv (hcur p).mp
                refine ⟨N4, e1, gF.tr e2, e3.cong (fun j q _ _ => ?_)⟩
                rw [hcur p]
                constructor
                · rintro ((z | ⟨p', z1, z2⟩) | z)
                  · exact Or.inl z
                  · exact Or.inr ⟨p', by omega, z2⟩
                  · exact Or.inr ⟨p, by omega, z⟩
                · rintro (z | ⟨p', z1, z2⟩)
                  · exact Or.inl (Or.inl z)
                  · by_cases hpp : p' = p
                    · subst hpp; exact Or.inr z2
                    · exact Or.inl (Or.inr ⟨p', by omega, z2⟩)) (by omega) ⟨hF, hv.cong (fun j q _ _ => ⟨Or.inl, fun z => z.resolve_right (fun ⟨_, z, _⟩ => by omega)⟩)⟩
          try dsimp only at d1
          rw [nl 0, d1, Option.bind_some, nl 1, nI_add]
          refine ⟨N3, rfl, d2, by omega, d3.cong (fun j q _ _ => ?_), fun j hj => ?_⟩
          · unfold prtP
            constructor
            · rintro ((z | ⟨t, z1, z2⟩) | ⟨p', z1, z2⟩)
              · exact Or.inl z
              · exact Or.inr ⟨t, by omega, z2⟩
              · exact Or.inr ⟨i, by omega, p', z1, z2⟩
            · rintro (z | ⟨t, z1, p', z2⟩)
              · exact Or.inl (Or.inl z)
              · by_cases hti : t = i
                · subst hti; exact Or.inr ⟨p', z2⟩
                · exact Or.inl (Or.inr ⟨t, by omega, p', z2⟩)
          · by_cases hji : j = i
            · subst hji; exact fun z => hx ((prt_rch hu (Nat.le_refl j)).mpr z)
            · exact hno j (by omega)) (by omega) ⟨f2, Nat.le_refl _, b3.cong (fun j q _ _ => by rw [prt_0]; exact ⟨fun z => z.resolve_left id, Or.inr⟩), fun j hj z => by have := rch_ge z; omega⟩
  try dsimp only at k1 k2 k3
  rw [k1]
  exact ⟨r, N, rfl, k2, k3⟩
end DV
