/-! HOW LONG A CAR WAITS -/
/-- a State of the class holds a state w -/
def upF (w : Nat → Int32) : Nat → Nat
  | 0 => 0
  | g + 1 => upF w g + (if w (1 + g) = 1 then 2 ^ g else 0)
def SV (w : Nat → Int32) (M : sMem) (s G E C : Nat) : Prop := M.2.1 s 0 = w 0 ∧ M.2.1 s 1 = nI (upF w G) ∧ (∀ e, e < E → M.2.1 (s + 1) e = w (7 + e)) ∧ ∀ c, c < C → M.2.1 (s + 2) c = w (12 + 3 * c) ∧ M.2.1 (s + 3) c = w (13 + 3 * c) ∧ M.2.1 (s + 4) c = w (14 + 3 * c)
theorem SV.fr {X Q R : Nat → Nat → Bool} {w : Nat → Int32} {M N : sMem} {s G E C : Nat} (h : SV w M s G E C) (hS : StS M s) (hF : FrA X Q R M N) (hX : ∀ j i, j ≤ 4 → X (s + j) i = false) : SV w N s G E C := by
  obtain ⟨a1, a2, a3, a4, a5, a6⟩ := hS.1
  refine ⟨?_, ?_, fun e he => ?_, fun c hc => ⟨?_, ?_, ?_⟩⟩
  · rw [hF.2.1 s 0 (lt_of_sh a1) (hX 0 0 (by omega))]; exact h.1
  · rw [hF.2.1 s 1 (lt_of_sh a1) (hX 0 1 (by omega))]; exact h.2.1
  · rw [hF.2.1 _ _ (lt_of_sh a2) (hX 1 e (by omega))]; exact h.2.2.1 e he
  · rw [hF.2.1 _ _ (lt_of_sh a3) (hX 2 c (by omega))]; exact (h.2.2.2 c hc).1
  · rw [hF.2.1 _ _ (lt_of_sh a4) (hX 3 c (by omega))]; exact (h.2.2.2 c hc).2.1
  · rw [hF.2.1 _ _ (lt_of_sh a5) (hX 4 c (by omega))]; exact (h.2.2.2 c hc).2.2
noncomputable def drvF (u : Nat → Nat → Int32) (cl : Nat → Nat → Bool) (W P m0 fr to : Nat) : Int32 := Classical.epsilon (DrvP u cl W P m0 fr to)
section WT
variable {u : Nat → Nat → Int32} {cl cl' : Nat → Nat → Bool} {M N : sMem} {D G P E C W g k e c l m up p q t m0 fr to row s : Nat} {c0 c1 c2 : List Nat} {w : Nat → Int32}
theorem drvF_of {r : Int32} (h : DrvP u cl W P m0 fr to r) : drvF u cl W P m0 fr to = r := drv_unique (Classical.epsilon_spec (p := DrvP u cl W P m0 fr to) ⟨r, h⟩) h
theorem drv_ex : ∃ r, DrvP u cl W P m0 fr to r := by
  by_cases h : ∃ m, m < 200 ∧ rch u cl W P m0 fr m to
  · obtain ⟨m, h1, h2⟩ := pk_least _ h
    exact ⟨nI m, Or.inr ⟨m, h1.1, rfl, h1.2, fun j hj z => h2 j hj ⟨by omega, z⟩⟩⟩
  · exact ⟨mI, Or.inl ⟨rfl, fun m hm z => h ⟨m, hm, z⟩⟩⟩
theorem drvF_P : DrvP u cl W P m0 fr to (drvF u cl W P m0 fr to) := Classical.epsilon_spec (p := DrvP u cl W P m0 fr to) drv_ex
theorem rch_more (h : ∀ g t, cl' g t = true → cl g t = true) : ∀ {m q : Nat}, rch u cl W P m0 fr m q → rch u cl' W P m0 fr m q := by
  intro m
  induction m using Nat.strongRecOn with
  | _ m ih =>
    intro q h1
    rcases rch_iff.mp h1 with h1 | ⟨t, h1, p, h2, h3, h4⟩
    · exact rch_iff.mpr (Or.inl h1)
    · refine rch_iff.mpr (Or.inr ⟨t, h1, p, h2, ih t h1 h3, ?_⟩)
      rcases h4 with h4 | ⟨k, k1, k2, k3⟩
      · exact Or.inl h4
      · refine Or.inr ⟨k, k1, ?_, k3⟩
        rcases k2 with k2 | k2
        · exact Or.inl k2
        · refine Or.inr ?_
          cases z : cl' (wg u k) t with
          | false => rfl
          | true => rw [h _ _ z] at k2; cases k2
/-- a state: 0 the day, 1 .. 6 gates that are up, 7 .. 11 how late, 12 .. 26 cars (place, goal, what is known) -/
def LF (w : Nat → Int32) (e : Nat) : Nat := (w (7 + e)).toInt.toNat
theorem upF_lt (w : Nat → Int32) : ∀ g, upF w g < 2 ^ g
  | 0 => Nat.zero_lt_one
  | g + 1 => by
    show upF w g + _ < 2 ^ (g + 1)
    have := upF_lt w g
    rw [Nat.pow_succ]
    split <;> omega
theorem upF_bit (w : Nat → Int32) : ∀ n g, g < n → (upb (upF w n) g = true ↔ w (1 + g) = 1)
  | 0, g, h => by omega
  | n + 1, g, h => by
    have hl := upF_lt w n
    unfold upb
    rw [decide_eq_true_eq]
    show (upF w n + (if w (1 + n) = 1 then 2 ^ n else 0)) / 2 ^ g % 2 = 1 ↔ _
    by_cases hg : g = n
    · subst hg
      by_cases hw : w (1 + g) = 1
      · rw [if_pos hw, Nat.add_div_right _ (Nat.two_pow_pos g), Nat.div_eq_of_lt hl]
        exact ⟨fun _ => hw, fun _ => rfl⟩
      · rw [if_neg hw, Nat.add_zero, Nat.div_eq_of_lt hl]
        exact ⟨fun z => (by cases z), fun z => absurd z hw⟩
    · have ih := upF_bit w n g (by omega)
      unfold upb at ih
      rw [decide_eq_true_eq] at ih
      rw [← ih]
      by_cases hw : w (1 + n) = 1
      · rw [if_pos hw]
        have e : 2 ^ n = 2 ^ g * (2 * 2 ^ (n - g - 1)) := by
          rw [← Nat.pow_succ', ← Nat.pow_add]; congr 1; omega
        rw [e, Nat.add_mul_div_left _ _ (Nat.two_pow_pos g)]
        omega
      · rw [if_neg hw, Nat.add_zero]
theorem upF_lt64 (hG : G ≤ 6) : upF w G < 64 := by
  have := upF_lt w G
  have h2 : 2 ^ G ≤ 2 ^ 6 := Nat.pow_le_pow_right (by decide) hG
  omega
def cw (u : Nat → Nat → Int32) (c0 : List Nat) (G E : Nat) (w : Nat → Int32) : Nat → Nat → Bool := clS u c0 G E (LF w) 99 (upF w G)
def mnS (u : Nat → Nat → Int32) (c : Nat) : Nat := (u 136 (17 + 3 * c)).toInt.toNat
def atS (w : Nat → Int32) (c : Nat) : Nat := (w (12 + 3 * c)).toInt.toNat
def gaS (w : Nat → Int32) (c : Nat) : Nat := (w (13 + 3 * c)).toInt.toNat
noncomputable def wtS (u : Nat → Nat → Int32) (c0 : List Nat) (G E W P : Nat) (w : Nat → Int32) (c : Nat) : Int32 :=
  if drvF u (cw u c0 G E w) W P (mnS u c) (atS w c) (gaS w c) = mI then mI else drvF u (cw u c0 G E w) W P (mnS u c) (atS w c) (gaS w c) - drvF u (fun _ _ => false) W P (mnS u c) (atS w c) (gaS w c)
theorem wt_rg : wtS u c0 G E W P w c = mI ∨ ∃ n, n < 200 ∧ wtS u c0 G E W P w c = nI n := by
  unfold wtS
  by_cases h : drvF u (cw u c0 G E w) W P (mnS u c) (atS w c) (gaS w c) = mI
  · rw [if_pos h]; exact Or.inl rfl
  · rw [if_neg h]
    right
    rcases drvF_P (u := u) (cl := cw u c0 G E w) (W := W) (P := P) (m0 := mnS u c) (fr := atS w c) (to := gaS w c) with ⟨h1, h2⟩ | ⟨m, h1, h2, h3, h4⟩
    · exact absurd h1 h
    · have h5 := rch_more (cl' := fun _ _ => false) (fun _ _ z => by cases z) h3
      rcases drvF_P (u := u) (cl := fun _ _ => false) (W := W) (P := P) (m0 := mnS u c) (fr := atS w c) (to := gaS w c) with ⟨k1, k2⟩ | ⟨m', k1, k2, k3, k4⟩
      · exact absurd h5 (k2 m h1)
      · have : m' ≤ m := Nat.le_of_not_lt (fun z => k4 m z h5)
        rw [h2, k2, nsub this]
        exact ⟨m - m', by omega, rfl⟩
/-- a good state -/
def WG (w : Nat → Int32) (G P E C : Nat) : Prop := (∃ d, d ≤ 999 ∧ w 0 = nI d) ∧ (∀ g, g < 6 → w (1 + g) = 0 ∨ (g < G ∧ w (1 + g) = 1)) ∧ (∀ e, e < E → w (7 + e) = nI (LF w e) ∧ LF w e < 100) ∧ ∀ c, c < C → w (12 + 3 * c) = nI (atS w c) ∧ w (13 + 3 * c) = nI (gaS w c) ∧ atS w c < P ∧ gaS w c < P ∧ atS w c ≠ gaS w c ∧ ∃ k, k ≤ 999 ∧ w (14 + 3 * c) = nI k
theorem DU.car (hu : DU u G P E C W c0 c1 c2) (hc : c < C) : u 136 (17 + 3 * c) = nI (mnS u c) ∧ mnS u c ≤ 99 := by
  obtain ⟨f, h1, h2⟩ := hu.2.2.2.2.2.2.1 c hc
  have : mnS u c = f := by unfold mnS; rw [h1, nI_i (by omega)]; rfl
  rw [this]; exact ⟨h1, h2⟩
/-- the class: when a car would be there -/
theorem c_goal (h : CV u M D G P E C W c0 c1 c2) (hu : DU u G P E C W c0 c1 c2) (hS : StS M s) (hs : s = 54 ∨ s = 60) (hV : SV w M s G E C) (hw : WG w G P E C) (hr : M.1[row]? = some (15, 24)) (hcl : ∀ g t, g < 6 → t < 256 → rb (M.2.2.1 row) g t = cl g t) (hc : c < C) (hm : m < 200) :
    ∃ N, f_X7_go 80 (nI (atS w c)) (nI m) row M = some N ∧ Fr pGo q0 M N ∧ f_X7_arrival 80 (nI (gaS w c)) N = some (drvF u cl W P m (atS w c) (gaS w c)) := by
  have hb := hu.2.1
  obtain ⟨w1, w2, w3, w4, w5, w6⟩ := hw.2.2.2 c hc
  obtain ⟨N, sp, a1, a2, a3⟩ := c_go (cl := cl) (fr := atS w c) (m0 := m) h hu hr hcl w3 hm
  obtain ⟨r, b1, b2⟩ := c_arrival (to := gaS w c) (a2.hc h.hc) a3 (by omega)
  exact ⟨N, a1, a2, by rw [b1, drvF_of b2]⟩
/-- the row in which all gates are up -/
def AU (M : sMem) : Prop := ∀ k, k < 24 → M.2.2.1 74 k = 0
theorem AU.z (h : AU M) {g t : Nat} (hg : g < 6) (ht : t < 256) : rb (M.2.2.1 74) g t = false := by
  unfold rb; rw [h _ (by omega)]; exact zero_bit _
theorem c_wait (h : CV u M D G P E C W c0 c1 c2) (hu : DU u G P E C W c0 c1 c2) (hS : StS M s) (hs : s = 54 ∨ s = 60) (hV : SV w M s G E C) (hw : WG w G P E C) (hA : AU M) (hr : M.1[row]? = some (15, 24)) (hcl : ∀ g t, g < 6 → t < 256 → rb (M.2.2.1 row) g t = cw u c0 G E w g t) (hc : c < C) :
    ∃ N, f_X0_waitOf 67 s (nI c) row M = some (wtS u c0 G E W P w c, N) ∧ Fr pGo q0 M N := by
  have hb := hu.2.1
  have hcc := h.hc
  have hcar := hu.car hc
  obtain ⟨v1, v2, v3⟩ := hV.2.2.2 c hc
  obtain ⟨w1, w2, w3, w4, w5, w6⟩ := hw.2.2.2 c hc
  have a0 : f_X9_cell (D + 13) (nI c) (nI 2) M = some (nI (mnS u c)) := by rw [h.cC hu hc (j := 2) (by omega), show 15 + 3 * c + 2 = 17 + 3 * c by omega, hcar.1]
  unfold f_X0_waitOf f_X0_waitOf_B85
  rw [sr67 hcc, h.p67, Option.bind_some, h.g5, Option.bind_some, nl 2, a0, Option.bind_some, gr67_2 hcc, Option.bind_some, gR_of hS.1.1 hS.2.2.1, Option.bind_some, ldI_n hS.1.2.2.1 (by omega) (by omega), Option.bind_some, v1, w1, gr67_5 hcc, Option.bind_some]
  obtain ⟨N1, b1, b2, b3⟩ := c_goal (cl := fun _ _ => false) h hu hS hs hV hw (cs74 hcc) (fun g t hg ht => hA.z hg ht) hc (m := mnS u c) (by omega)
  have hc1 := b2.hc hcc
  have hS1 : StS N1 s := hS.fr (R := fun _ _ => false) b2.fa (fun _ => rfl)
  have p81 : ∀ j i, j ≤ 5 → pGo (s + j) i = false := fun j i hj => beq_eq_false_iff_ne.mpr (by omega)
  rw [b1, Option.bind_some, gr67_2 hc1, Option.bind_some, gR_of hS1.1.1 hS1.2.2.2.1, Option.bind_some, ldI_n hS1.1.2.2.2.1 (by omega) (by omega), Option.bind_some, b2.i (p81 3 c (by omega)), v2, w2, b3, Option.bind_some, Option.bind_some, gR_of hS1.1.1 hS1.2.2.1, Option.bind_some, ldI_n hS1.1.2.2.1 (by omega) (by omega), Option.bind_some, b2.i (p81 2 c (by omega)), v1, w1]
  have h1 : CV u N1 D G P E C W c0 c1 c2 := h.fr (R := fun _ _ => false) b2.fa offD_go offR_0
  have hV1 : SV w N1 s G E C := hV.fr (R := fun _ _ => false) hS b2.fa (fun j i hj => p81 j i (by omega))
  obtain ⟨N2, d1, d2, d3⟩ := c_goal (cl := cw u c0 G E w) h1 hu hS1 hs hV1 hw (by rw [b2.1]; exact hr) (fun g t hg ht => by rw [show N1.2.2.1 row = M.2.2.1 row from funext fun k => b2.j rfl]; exact hcl g t hg ht) hc (m := mnS u c) (by omega)
  have hc2 := d2.hc hc1
  have hS2 : StS N2 s := hS1.fr (R := fun _ _ => false) d2.fa (fun _ => rfl)
  rw [d1, Option.bind_some, gr67_2 hc2, Option.bind_some, gR_of hS2.1.1 hS2.2.2.2.1, Option.bind_some, ldI_n hS2.1.2.2.2.1 (by omega) (by omega), Option.bind_some, d2.i (p81 3 c (by omega)), (hV1.2.2.2 c hc).2.1, w2, d3, Option.bind_some]
  refine ⟨N2, ?_, b2.tr d2⟩
  unfold wtS
  by_cases hz : drvF u (cw u c0 G E w) W P (mnS u c) (atS w c) (gaS w c) = mI
  · rw [if_pos hz, hz, if_pos mIe]; rfl
  · rw [if_neg hz, if_neg (show ¬ drvF u (cw u c0 G E w) W P (mnS u c) (atS w c) (gaS w c) = (-1 : Int32) from hz)]
/-! the reference -/
theorem r_isUp (hs : RefS M.1 M.2.2.2) (hg : g < 6) : f_X12_isUp 94 (nI g) M = some (bI (M.2.1 140 (1 + g) = 1)) := by
  unfold f_X12_isUp
  rw [sr94 hs, gr94_59 hs, Option.bind_some, show (1 : Int32) + nI g = nI (1 + g) from nI_add 1 g, ld140 hs (by omega), Option.bind_some]
  by_cases h : M.2.1 140 (1 + g) = 1
  · rw [if_pos h, bI_t h]
  · rw [if_neg h, bI_f h]
theorem or_pow : ∀ g, g < 6 → ∀ n, n < 2 ^ g → (nI n ||| ((1 : Int32) <<< (nI g &&& 31))) = nI (n + 2 ^ g) := by decide +kernel
theorem r_upSet (hs : RefS M.1 M.2.2.2) (hG : M.2.1 131 5 = nI G) (hG6 : G ≤ 6) : f_X12_upSet 94 M = some (nI (upF (M.2.1 140) G)) := by
  unfold f_X12_upSet f_X12_upSet_L4
  rw [sr94 hs]
  obtain ⟨r, h1, h2⟩ := itr_g (f := fun a : (Int32 × Int32) => f_X12_upSet_K4 94 a.1 a.2 M) (fun k (b : Int32) => (b, nI k)) (fun i r => r = nI (upF (M.2.1 140) i)) (fun r => r = nI (upF (M.2.1 140) G)) G (by omega) (i := 0) (s := (0 : Int32)) (by
    rintro i r hi hv
    try dsimp only
    subst hv
    unfold f_X12_upSet_K4 f_X12_upSet_B26
    rw [(r_many hs).1, Option.bind_some, hG]
    by_cases h : G ≤ i
    · right
      obtain rfl : i = G := by omega
      exact ⟨_, by rw [if_pos (nI_le h (by omega))], rfl⟩
    · left
      refine ⟨by omega, ?_⟩
      rw [if_neg (nI_ge (by omega) (by omega)), r_isUp hs (by omega), Option.bind_some, nI_1]
      by_cases h2 : M.2.1 140 (1 + i) = 1
      · rw [bI_t h2, if_neg (by decide), or_pow i (by omega) _ (upF_lt _ i)]
        refine ⟨_, rfl, ?_⟩
        show _ = nI (upF (M.2.1 140) i + (if M.2.1 140 (1 + i) = 1 then 2 ^ i else 0))
        rw [if_pos h2]
      · rw [bI_f h2, if_pos rfl]
        refine ⟨_, rfl, ?_⟩
        show _ = nI (upF (M.2.1 140) i + (if M.2.1 140 (1 + i) = 1 then 2 ^ i else 0))
        rw [if_neg h2]; rfl) (by omega) rfl
  try dsimp only at h1
  rw [nl 0]
  rw [show ((0 : Int32), nI 0) = (nI 0, nI 0) from rfl] at h1
  rw [h1, h2]; rfl
theorem cl_63 (hG : G ≤ 6) {L : Nat → Nat} (g t : Nat) (hg : g < G) : clS u c0 G E L 99 63 g t = (fun _ _ => false) g t := by
  have : ∀ g, g < 6 → upb 63 g = true := by decide
  unfold clS
  rw [this g (by omega)]; simp
theorem r_wait (hR : RV u M) (hu : DU u G P E C W c0 c1 c2) (hLd : Laid u M G E c0 (LF w)) (hw : WG w G P E C) (hn : ∀ i, 1 ≤ i → i < 7 → M.2.1 140 i = w i) (hn2 : M.2.1 140 (12 + 3 * c) = w (12 + 3 * c) ∧ M.2.1 140 (13 + 3 * c) = w (13 + 3 * c)) (hc : c < C) : ∃ N, f_X12_waitOf 94 (nI c) M = some (wtS u c0 G E W P w c, N) ∧ Fr pDr q0 M N := by
  have hb := hu.2.1
  have hs := hR.1
  have hcar := hu.car hc
  obtain ⟨w1, w2, w3, w4, w5, w6⟩ := hw.2.2.2 c hc
  have eup : upF (M.2.1 140) G = upF w G := by
    have : ∀ n, n ≤ 6 → upF (M.2.1 140) n = upF w n := by
      intro n
      induction n with
      | zero => intro _; rfl
      | succ n ih =>
        intro hn6
        show upF (M.2.1 140) n + _ = upF w n + _
        rw [ih (by omega), hn (1 + n) (by omega) (by omega)]
    exact this G (by omega)
  unfold f_X12_waitOf
  rw [sr94 hs, r_placeOf hs (by omega), Option.bind_some, r_goalOf hs (by omega), Option.bind_some, r_minuteOf hs (by omega), Option.bind_some, r_upSet hs (by rw [hR.2 131 _ (by decide) (by decide)]; exact hu.1.1) (by omega), Option.bind_some, eup, hn2.1, hn2.2, w1, w2, hR.2 136 _ (by decide) (by decide), hcar.1]
  have hup : upF w G < 64 := upF_lt64 (by omega)
  obtain ⟨r, N1, a1, a2, a3⟩ := r_drive (to := gaS w c) (fr := atS w c) (m0 := mnS u c) hR hu hLd hup w3 w4 (by omega)
  rw [a1]
  dsimp only [Option.bind_some]
  have e1 : drvF u (cw u c0 G E w) W P (mnS u c) (atS w c) (gaS w c) = r := drvF_of a3
  unfold wtS
  rw [e1]
  by_cases hz : r = mI
  · rw [if_pos hz, if_pos (show r = (-1 : Int32) from hz)]
    exact ⟨N1, rfl, a2⟩
  · have hR1 : RV u N1 := hR.fr a2 (fun a k h1 h2 => beq_eq_false_iff_ne.mpr (by omega))
    rw [if_neg hz, if_neg (show ¬ r = (-1 : Int32) from hz), r_placeOf hR1.1 (by omega), Option.bind_some, r_goalOf hR1.1 (by omega), Option.bind_some, r_minuteOf hR1.1 (by omega), Option.bind_some, a2.i rfl, a2.i rfl, hn2.1, hn2.2, w1, w2, hR1.2 136 _ (by decide) (by decide), hcar.1, nl 63]
    obtain ⟨r2, N2, b1, b2, b3⟩ := r_drive (to := gaS w c) (fr := atS w c) (m0 := mnS u c) (up := 63) hR1 hu (fun g m hg hm => by rw [a2.i rfl]; exact hLd g m hg hm) (by decide) w3 w4 (by omega)
    rw [b1]
    dsimp only [Option.bind_some]
    rw [drvF_of (drv_cong (cl' := fun _ _ => false) hu (fun g t hg => cl_63 (by omega) g t hg) b3)]
    exact ⟨N2, rfl, a2.tr b2⟩
end WT
