/-! QUERIES: closed, opens, drive, waits -/
theorem imF {p q : Bool} (h : q = true → p = true) (hp : p = false) : q = false := by
  cases q with
  | false => rfl
  | true => rw [h rfl] at hp; cases hp
theorem one0 : ((1 : Int32) = 0) = False := eq_false (by decide)
theorem ClsS.eq {M : sMem} (h : ClsS M.1 M.2.2.2) : ClsS M.1 M.2.2.2 := h
section MQ
variable {M N : sMem} {D Do G P E C W k e c g m s n pc pn up : Nat} {c0 c1 c2 : List Nat} {w : Nat → Int32} {u : Nat → Nat → Int32}
theorem row_sc {a k : Nat} (h : scC a k = false) : pRow a k = false := imF (fun z => by unfold pRow at z; unfold scC; simp only [Bool.or_eq_true, Bool.and_eq_true, beq_iff_eq, decide_eq_true_eq] at z ⊢; omega) h
theorem go_sc {a k : Nat} (h : scC a k = false) : pGo a k = false := imF (fun z => by unfold pGo at z; unfold scC; simp only [Bool.or_eq_true, Bool.and_eq_true, beq_iff_eq, decide_eq_true_eq] at z ⊢; omega) h
theorem cl_sc {a k : Nat} (h : scQ a k = false) : qCl 88 a k = false := imF (fun z => by unfold qCl qRow at z; unfold scQ; simp only [Bool.or_eq_true, Bool.and_eq_true, beq_iff_eq, decide_eq_true_eq] at z ⊢; omega) h
theorem cl3_sc {a k : Nat} (h : scQ a k = false) : qCl 73 a k = false := imF (fun z => by unfold qCl qRow at z; unfold scQ; simp only [Bool.or_eq_true, Bool.and_eq_true, beq_iff_eq, decide_eq_true_eq] at z ⊢; omega) h
theorem lay_sc {a k : Nat} (h : scR a k = false) : pLay a k = false := imF (fun z => by unfold pLay pSh at z; unfold scR; simp only [Bool.or_eq_true, Bool.and_eq_true, beq_iff_eq, decide_eq_true_eq] at z ⊢; omega) h
theorem dr_sc {a k : Nat} (h : scR a k = false) : pDr a k = false := imF (fun z => by unfold pDr at z; unfold scR; simp only [Bool.or_eq_true, Bool.and_eq_true, beq_iff_eq, decide_eq_true_eq] at z ⊢; omega) h
theorem r2_sc {a k : Nat} (h : scS a k = false) : qR2 a k = false := imF (fun z => by unfold qR2 at z; unfold scS; simp only [Bool.or_eq_true, Bool.and_eq_true, beq_iff_eq, decide_eq_true_eq] at z ⊢; omega) h
/-- the class closes gates -/
theorem c_now (h : KI M D G P E C W c0 c1 c2) : ∃ N, f_X11_closeNow 0 M = some N ∧ FrB scC scQ rRow M N ∧ RowsI (uR M) N G c0 ∧ (∀ g j, g < 6 → j < 256 → rb (N.2.2.1 88) g j = cw (uR M) c0 G E (M.2.1 140) g j) ∧ N.1[88]? = some (15, 24) := by
  have hc := h.hc
  obtain ⟨hV, hw⟩ := h.2.2.2.2.1
  obtain ⟨N, a1, a2, a3, a4⟩ := c_close (s := 54) (up := upF (M.2.1 140) G) (but := 99) (into := 88) (L := LF (M.2.1 140)) h.cv h.2.1 h.2.2.2.1.1 (StS54 hc) (Or.inl rfl) (fun e he => by rw [hV.2.2.1 e he]; exact hw.2.2.1 e he) (upF_lt64 h.n.2.1) (Or.inl rfl) (Or.inr rfl)
  refine ⟨N, ?_, a2.mono (fun _ _ z => row_sc z) (fun _ _ z => cl_sc z) (fun _ _ z => z), a3, a4, a2.sh (cs88 hc)⟩
  unfold f_X11_closeNow
  rw [sr0 hc, gr0_9 hc, Option.bind_some, gr67_1 hc, Option.bind_some, gr0_4 hc, Option.bind_some, Option.bind_some, gi54 hc, Option.bind_some, gr0_11 hc, Option.bind_some, hV.2.1, show (-1 : Int32) = bI0 99 from rfl, a1]
  rfl
/-- the reference lays when they are shut -/
theorem r_now (h : KI M D G P E C W c0 c1 c2) : ∃ N, f_X12_laysShut 94 M = some N ∧ Fr pLay qR2 M N ∧ Laid (uR M) N G E c0 (LF (M.2.1 140)) := by
  obtain ⟨hV, hw⟩ := h.2.2.2.2.1
  exact r_laysShut (RV_uR h.1) h.2.1 hw.2.2.1
theorem lay_q (h : Fr pLay qR2 M N) : Fr scR scS M N := h.mono (fun _ _ z => lay_sc z) (fun _ _ z => r2_sc z)
theorem dr_q (h : Fr pDr q0 M N) : Fr scR scS M N := h.mono (fun _ _ z => dr_sc z) (fun _ _ _ => rfl)
theorem r_isClosed (hs : RefS M.1 M.2.2.2) (hw : WG (M.2.1 140) G P E C) (hG : G ≤ 6) (hL : Laid u M G E c0 (LF (M.2.1 140))) (hg : g < G) (hm : m < 200) : f_X12_isClosed 94 (nI g) (nI m) M = some (bI (cw u c0 G E (M.2.1 140) g m = true)) := by
  unfold f_X12_isClosed
  rw [sr94 hs, r_isUp hs (by omega), Option.bind_some]
  have hu := upb_w hw hG (show g < 6 by omega)
  have e : cw u c0 G E (M.2.1 140) g m = (anS u c0 E (LF (M.2.1 140)) 99 g m && !upb (upF (M.2.1 140) G) g) := by
    unfold cw clS; rw [decide_eq_true ⟨hg, hm⟩, Bool.true_and]
  rw [e]
  by_cases q : M.2.1 140 (1 + g) = 1
  · rw [if_neg (bI_y q), hu.mpr q, Bool.not_true, Bool.and_false]; rfl
  · have : upb (upF (M.2.1 140) G) g = false := by
      cases z : upb (upF (M.2.1 140) G) g with
      | false => rfl
      | true => exact absurd (hu.mp z) q
    rw [if_pos (bI_0.mpr q), this, Bool.not_false, Bool.and_true, gr94_68 hs, Option.bind_some, show (200 : Int32) * nI g + nI m = nI (200 * g + m) from (by rw [show (200 : Int32) = nI 200 from rfl, pk_mul, nI_add]), ld144 hs (by omega), Option.bind_some, hL g m hg hm]
    rcases bI_01 (p := anS u c0 E (LF (M.2.1 140)) 99 g m = true) with z | z
    · rw [z, if_pos rfl]
    · rw [z, if_neg (by decide)]
theorem IX.inv (h : IX M D Do G P E C W c0 c1 c2 n pc pn) : Inv M := ⟨D, Do, G, P, E, C, W, c0, c1, c2, n, pc, pn, h⟩
/-- behind closeNow and laysShut -/
theorem both_now (h : KI M D G P E C W c0 c1 c2) : ∃ N1, f_X11_closeNow 0 M = some N1 ∧ FrB scC scQ rRow M N1 ∧ RowsI (uR M) N1 G c0 ∧ KI N1 D G P E C W c0 c1 c2 ∧ uR N1 = uR M ∧ N1.2.1 140 = M.2.1 140 ∧ (∀ g j, g < 6 → j < 256 → rb (N1.2.2.1 88) g j = cw (uR M) c0 G E (M.2.1 140) g j) ∧ N1.1[88]? = some (15, 24) := by
  obtain ⟨N1, a1, a2, a3, a4, a5⟩ := c_now h
  obtain ⟨k1, eu⟩ := h.cls a2 a3
  have hl : 187 ≤ M.1.length := h.cv.ln
  exact ⟨N1, a1, a2, a3, k1, eu, funext fun k => a2.i (by omega) rfl, a4, a5⟩
theorem ok_closed (h : IX M D Do G P E C W c0 c1 c2 n pc pn) (a b : Int32) : ∃ r M1 M2, f_X11_closed 0 a b M = some (r, M1) ∧ f_X12_closed 94 a b M1 = some (r, M2) ∧ Inv M2 := by
  have k := h.1
  have hc := k.hc
  have hb := k.n.2
  have bad : ¬ ((0 ≤ a.toInt ∧ a.toInt < (G : Int)) ∧ 0 ≤ b.toInt ∧ b.toInt < ((200 : Nat) : Int)) → ∃ r M1 M2, f_X11_closed 0 a b M = some (r, M1) ∧ f_X12_closed 94 a b M1 = some (r, M2) ∧ Inv M2 := fun hn => by
    refine ⟨-1, M, M, ?_, ?_, h.inv⟩
    · unfold f_X11_closed
      simp only [sr0 hc, k.cv.p0, k.cv.g1, k.tG, c_isMin, Option.bind_some]
      by_cases q : 0 ≤ a.toInt ∧ a.toInt < (G : Int)
      · rw [if_neg (bI_y q), if_pos (bI_0.mpr (fun z => hn ⟨q, z⟩))]
      · rw [if_pos (bI_0.mpr q)]
    · unfold f_X12_closed
      simp only [sr94 k.1, k.rG, r_isMin, Option.bind_some]
      by_cases q : 0 ≤ a.toInt ∧ a.toInt < (G : Int)
      · rw [if_neg (bI_y q), if_pos (bI_0.mpr (fun z => hn ⟨q, z⟩))]
      · rw [if_pos (bI_0.mpr q)]
  rcases arg_c a G (by omega) with ⟨g, hg, rfl⟩ | hn
  · rcases arg_c b 200 (by decide) with ⟨m, hm, rfl⟩ | hn
    · obtain ⟨N1, a1, a2, a3, k1, eu, e140, a4, a5⟩ := both_now k
      obtain ⟨N2, b1, b2, b3⟩ := r_now k1
      have hs2 := b2.hs k1.1
      have f140 : N2.2.1 140 = M.2.1 140 := by rw [← e140]; exact funext fun k => b2.i rfl
      have hg1 := inR hg (show G < 2147483648 by omega)
      have hm1 := inR hm (show 200 < 2147483648 by decide)
      refine ⟨bI (cw (uR M) c0 G E (M.2.1 140) g m = true), N1, N2, ?_, ?_, (h.q a2 a3 (lay_q b2)).inv⟩
      · unfold f_X11_closed
        simp only [sr0 hc, k.cv.p0, k.cv.g1, k.tG, c_isMin, Option.bind_some, bI_t hg1, bI_t hm1, one0, if_false, a1, gr0_11 k1.hc, b_isMarked a5 (show g < 6 by omega) (show m < 256 by omega)]
        have e := a4 g m (by omega) (by omega)
        unfold rb at e
        rw [e]
        rcases bI_01 (p := cw (uR M) c0 G E (M.2.1 140) g m = true) with z | z
        · rw [z, if_pos rfl]
        · rw [z, if_neg (by decide)]
      · have e := r_isClosed (u := uR N1) (c0 := c0) (E := E) hs2 (by rw [f140]; exact k.2.2.2.2.1.2) hb.1 (by rw [f140, ← e140]; exact b3) hg hm
        rw [f140, eu] at e
        unfold f_X12_closed
        simp only [sr94 k1.1, k1.rG, r_isMin, Option.bind_some, bI_t hg1, bI_t hm1, one0, if_false, b1, e]
        rcases bI_01 (p := cw (uR M) c0 G E (M.2.1 140) g m = true) with z | z
        · rw [z, if_pos rfl]
        · rw [z, if_neg (by decide)]
    · exact bad (fun z => hn z.2)
  · exact bad (fun z => hn z.1)
theorem ok_opens (h : IX M D Do G P E C W c0 c1 c2 n pc pn) (a b : Int32) : ∃ r M1 M2, f_X11_opens 0 a b M = some (r, M1) ∧ f_X12_opens 94 a b M1 = some (r, M2) ∧ Inv M2 := by
  have k := h.1
  have hc := k.hc
  have hb := k.n.2
  have bad : ¬ ((0 ≤ a.toInt ∧ a.toInt < (G : Int)) ∧ 0 ≤ b.toInt ∧ b.toInt < ((200 : Nat) : Int)) → ∃ r M1 M2, f_X11_opens 0 a b M = some (r, M1) ∧ f_X12_opens 94 a b M1 = some (r, M2) ∧ Inv M2 := fun hn => by
    refine ⟨-1, M, M, ?_, ?_, h.inv⟩
    · unfold f_X11_opens
      simp only [sr0 hc, k.cv.p0, k.cv.g1, k.tG, c_isMin, Option.bind_some]
      by_cases q : 0 ≤ a.toInt ∧ a.toInt < (G : Int)
      · rw [if_neg (bI_y q), if_pos (bI_0.mpr (fun z => hn ⟨q, z⟩))]
      · rw [if_pos (bI_0.mpr q)]
    · unfold f_X12_opens
      simp only [sr94 k.1, k.rG, r_isMin, Option.bind_some]
      by_cases q : 0 ≤ a.toInt ∧ a.toInt < (G : Int)
      · rw [if_neg (bI_y q), if_pos (bI_0.mpr (fun z => hn ⟨q, z⟩))]
      · rw [if_pos (bI_0.mpr q)]
  rcases arg_c a G (by omega) with ⟨g, hg, rfl⟩ | hn
  · rcases arg_c b 200 (by decide) with ⟨m, hm, rfl⟩ | hn
    · obtain ⟨N1, a1, a2, a3, k1, eu, e140, a4, a5⟩ := both_now k
      obtain ⟨N2, b1, b2, b3⟩ := r_now k1
      have hs2 := b2.hs k1.1
      have f140 : N2.2.1 140 = M.2.1 140 := by rw [← e140]; exact funext fun k => b2.i rfl
      have hg1 := inR hg (show G < 2147483648 by omega)
      have hm1 := inR hm (show 200 < 2147483648 by decide)
      obtain ⟨r, r1, r2⟩ := c_open (cl := cw (uR M) c0 G E (M.2.1 140)) a5 a4 (show g < 6 by omega) (show m ≤ 200 by omega)
      have ic : ∀ t, t < 200 → f_X12_isClosed 94 (nI g) (nI t) N2 = some (bI (cw (uR M) c0 G E (M.2.1 140) g t = true)) := fun t ht => by
        have e := r_isClosed (u := uR N1) (c0 := c0) (E := E) hs2 (by rw [f140]; exact k.2.2.2.2.1.2) hb.1 (by rw [f140, ← e140]; exact b3) hg ht
        rw [f140, eu] at e; exact e
      refine ⟨r, N1, N2, ?_, ?_, (h.q a2 a3 (lay_q b2)).inv⟩
      · unfold f_X11_opens
        simp only [sr0 hc, k.cv.p0, k.cv.g1, k.tG, c_isMin, Option.bind_some, bI_t hg1, bI_t hm1, one0, if_false, a1, gr0_11 k1.hc, r1]
      · unfold f_X12_opens f_X12_opens_L24
        simp only [sr94 k1.1, k1.rG, r_isMin, Option.bind_some, bI_t hg1, bI_t hm1, one0, if_false, b1]
        obtain ⟨b, d1, d2⟩ := itr_up0 (f := fun a : (Int32) => f_X12_opens_K24 94 (nI g) a N2) (fun j => m ≤ j ∧ ∀ t, m ≤ t → t < j → cw (uR M) c0 G E (M.2.1 140) g t = true) (fun b => b = (r, N2)) 200 (by decide) (by
          rintro j hj ⟨hmj, hI⟩
          unfold f_X12_opens_K24
          by_cases q : j = 200
          · right
            subst q
            rw [if_pos (by decide)]
            refine ⟨_, rfl, ?_⟩
            rcases r2 with ⟨z, _⟩ | ⟨v, v1, v2, v3, v4, v5⟩
            · rw [z]; rfl
            · rw [hI v v1 v2] at v4; cases v4
          · rw [if_neg (by rw [show (200 : Int32) = nI 200 from rfl, cle (by decide) (by omega)]; omega), ic j (by omega), Option.bind_some]
            by_cases z : cw (uR M) c0 G E (M.2.1 140) g j = true
            · left
              rw [if_neg (bI_y z), nI_1]
              exact ⟨by omega, rfl, by omega, fun t t1 t2 => by
                by_cases w : t = j
                · rw [w]; exact z
                · exact hI t t1 (by omega)⟩
            · right
              rw [if_pos (bI_0.mpr z)]
              refine ⟨_, rfl, ?_⟩
              rcases r2 with ⟨y1, y2⟩ | ⟨v, v1, v2, v3, v4, v5⟩
              · exact absurd (y2 j hmj (by omega)) z
              · have : v = j := by
                  rcases Nat.lt_trichotomy v j with w | w | w
                  · rw [hI v v1 w] at v4; cases v4
                  · exact w
                  · exact absurd (v5 j hmj w) z
                rw [v3, this]) (i := m) (by omega) ⟨Nat.le_refl _, fun t t1 t2 => by omega⟩
        rw [d1, Option.bind_some, d2]
    · exact bad (fun z => hn z.2)
  · exact bad (fun z => hn z.1)
theorem ok_drive (h : IX M D Do G P E C W c0 c1 c2 n pc pn) (a a' b : Int32) : ∃ r M1 M2, f_X11_drive 0 a a' b M = some (r, M1) ∧ f_X12_drive 94 a a' b M1 = some (r, M2) ∧ Inv M2 := by
  have k := h.1
  have hc := k.hc
  have hb := k.n.2
  have bad : ¬ ((0 ≤ a.toInt ∧ a.toInt < (P : Int)) ∧ (0 ≤ a'.toInt ∧ a'.toInt < (P : Int)) ∧ 0 ≤ b.toInt ∧ b.toInt < ((200 : Nat) : Int)) → ∃ r M1 M2, f_X11_drive 0 a a' b M = some (r, M1) ∧ f_X12_drive 94 a a' b M1 = some (r, M2) ∧ Inv M2 := fun hn => by
    refine ⟨-1, M, M, ?_, ?_, h.inv⟩
    · unfold f_X11_drive
      simp only [sr0 hc, k.cv.p0, k.cv.g2, k.tP, c_isMin, Option.bind_some]
      by_cases q : 0 ≤ a.toInt ∧ a.toInt < (P : Int)
      · rw [if_neg (bI_y q)]
        by_cases q' : 0 ≤ a'.toInt ∧ a'.toInt < (P : Int)
        · rw [if_neg (bI_y q'), if_pos (bI_0.mpr (fun z => hn ⟨q, q', z⟩))]
        · rw [if_pos (bI_0.mpr q')]
      · rw [if_pos (bI_0.mpr q)]
    · unfold f_X12_drive
      simp only [sr94 k.1, k.rP, r_isMin, Option.bind_some]
      by_cases q : 0 ≤ a.toInt ∧ a.toInt < (P : Int)
      · rw [if_neg (bI_y q)]
        by_cases q' : 0 ≤ a'.toInt ∧ a'.toInt < (P : Int)
        · rw [if_neg (bI_y q'), if_pos (bI_0.mpr (fun z => hn ⟨q, q', z⟩))]
        · rw [if_pos (bI_0.mpr q')]
      · rw [if_pos (bI_0.mpr q)]
  rcases arg_c a P (by omega) with ⟨fr, hfr, rfl⟩ | hn
  · rcases arg_c a' P (by omega) with ⟨to, hto, rfl⟩ | hn
    · rcases arg_c b 200 (by decide) with ⟨m, hm, rfl⟩ | hn
      · obtain ⟨N1, a1, a2, a3, k1, eu, e140, a4, a5⟩ := both_now k
        obtain ⟨O1, o2, o1, o3, o4, o5⟩ : ∃ O1 r, f_X7_go 80 (nI fr) (nI m) 88 N1 = some O1 ∧ Fr pGo q0 N1 O1 ∧ f_X7_arrival 80 (nI to) O1 = some r ∧ DrvP (uR M) (cw (uR M) c0 G E (M.2.1 140)) W P m fr to r := by
          obtain ⟨O1, sp, g1, g2, g3⟩ := c_go (cl := cw (uR M) c0 G E (M.2.1 140)) k1.cv k1.2.1 a5 a4 hfr hm
          obtain ⟨r, r1, r2⟩ := c_arrival (g2.hc k1.hc) g3 (show to < 7 by omega)
          rw [eu] at r2
          exact ⟨O1, r, g1, g2, r1, r2⟩
        have fO : FrB scC scQ rRow M O1 := a2.tr (o3.fb.mono (fun _ _ z => go_sc z) (fun _ _ _ => rfl) (fun _ _ z => z))
        have hRO : RowsI (uR M) O1 G c0 := a3.fr k1.hc (o3.fb (R := fun _ _ => false)) (fun _ => rfl) (fun _ _ _ => rfl) (fun _ => rfl)
        obtain ⟨k2, eu2⟩ := k.cls fO hRO
        have hl : 187 ≤ M.1.length := k.cv.ln
        have e2 : O1.2.1 140 = M.2.1 140 := funext fun k => fO.i (by omega) rfl
        obtain ⟨N2, b1, b2, b3⟩ := r_now k2
        have hs2 := b2.hs k2.1
        have f140 : N2.2.1 140 = M.2.1 140 := by rw [← e2]; exact funext fun k => b2.i rfl
        have hRV : RV (uR O1) N2 := (RV_uR k2.1).fr b2 (fun a k h1 h2 => sh_130 h1 (by omega))
        have hf1 := inR hfr (show P < 2147483648 by omega)
        have ht1 := inR hto (show P < 2147483648 by omega)
        have hm1 := inR hm (show 200 < 2147483648 by decide)
        obtain ⟨r', N3, d1, d2, d3⟩ := r_drive (up := upF (M.2.1 140) G) hRV k2.2.1 b3 (upF_lt64 hb.1) hfr hto hm
        have hr : r' = o2 := by
          rw [e2, eu2] at d3
          exact drv_unique d3 o5
        refine ⟨o2, O1, N3, ?_, ?_, (h.q fO hRO ((lay_q b2).tr (dr_q d2))).inv⟩
        · unfold f_X11_drive
          simp only [sr0 hc, k.cv.p0, k.cv.g2, k.tP, c_isMin, Option.bind_some, bI_t hf1, bI_t ht1, bI_t hm1, one0, if_false, a1, gr0_11 k1.hc, gr0_9 k1.hc, gr67_2 k1.hc, o1, gr0_9 k2.hc, gr67_2 k2.hc, o4]
        · have eup : f_X12_upSet 94 N2 = some (nI (upF (M.2.1 140) G)) := by
            rw [r_upSet hs2 (by rw [b2.i rfl]; exact k2.n.1.1) hb.1, f140]
          unfold f_X12_drive
          simp only [sr94 k2.1, k2.rP, r_isMin, Option.bind_some, bI_t hf1, bI_t ht1, bI_t hm1, one0, if_false, b1, eup, d1, hr]
      · exact bad (fun z => hn z.2.2)
    · exact bad (fun z => hn z.2.1)
  · exact bad (fun z => hn z.1)
theorem ok_waits (h : IX M D Do G P E C W c0 c1 c2 n pc pn) (a : Int32) : ∃ r M1 M2, f_X11_waits 0 a M = some (r, M1) ∧ f_X12_waits 94 a M1 = some (r, M2) ∧ Inv M2 := by
  have k := h.1
  have hc := k.hc
  have hb := k.n.2
  rcases arg_c a C (by omega) with ⟨c, hcC, rfl⟩ | hn
  · obtain ⟨N1, a1, a2, a3, k1, eu, e140, a4, a5⟩ := both_now k
    obtain ⟨hV, hw⟩ := k1.2.2.2.2.1
    rw [e140] at hV hw
    obtain ⟨O1, o1, o2⟩ := c_wait (s := 54) (row := 88) (c := c) k1.cv k1.2.1 (StS54 k1.hc) (Or.inl rfl) hV hw k1.2.2.2.1.2 a5 (by rw [eu]; exact a4) hcC
    rw [eu] at o1
    have fO : FrB scC scQ rRow M O1 := a2.tr (o2.fb.mono (fun _ _ z => go_sc z) (fun _ _ _ => rfl) (fun _ _ z => z))
    have hRO : RowsI (uR M) O1 G c0 := a3.fr k1.hc (o2.fb (R := fun _ _ => false)) (fun _ => rfl) (fun _ _ _ => rfl) (fun _ => rfl)
    obtain ⟨k2, eu2⟩ := k.cls fO hRO
    have hl : 187 ≤ M.1.length := k.cv.ln
    have e2 : O1.2.1 140 = M.2.1 140 := funext fun k => fO.i (by omega) rfl
    obtain ⟨N2, b1, b2, b3⟩ := r_now k2
    have f140 : N2.2.1 140 = M.2.1 140 := by rw [← e2]; exact funext fun k => b2.i rfl
    have hRV : RV (uR O1) N2 := (RV_uR k2.1).fr b2 (fun a k h1 h2 => sh_130 h1 (by omega))
    have hc1 := inR hcC (show C < 2147483648 by omega)
    rw [e2] at b3
    obtain ⟨N3, d1, d2⟩ := r_wait (w := M.2.1 140) hRV k2.2.1 b3 hw (fun i _ _ => by rw [f140]) (by rw [f140]; exact ⟨rfl, rfl⟩) hcC
    rw [eu2] at d1
    refine ⟨wtS (uR M) c0 G E W P (M.2.1 140) c, O1, N3, ?_, ?_, (h.q fO hRO ((lay_q b2).tr (dr_q d2))).inv⟩
    · unfold f_X11_waits
      simp only [sr0 hc, k.cv.p0, k.cv.g5, k.tC, Option.bind_some, bI_t hc1, one0, if_false, a1, gr0_11 k1.hc, gr0_9 k1.hc, gr0_4 k1.hc, o1]
    · unfold f_X12_waits
      simp only [sr94 k2.1, k2.rC, Option.bind_some, bI_t hc1, one0, if_false, b1, d1]
  · refine ⟨-1, M, M, ?_, ?_, h.inv⟩
    · unfold f_X11_waits
      simp only [sr0 hc, k.cv.p0, k.cv.g5, k.tC, Option.bind_some, bI_f hn, if_true]
    · unfold f_X12_waits
      simp only [sr94 k.1, k.rC, Option.bind_some, bI_f hn, if_true]
end MQ
