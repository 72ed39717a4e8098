/-! QUERIES: leave -/
def lvF (dv : Nat → Int32) (x : Int32) : Nat → Int32 × Int32
  | 0 => (-1, x)
  | m + 1 => if dv m = -1 then lvF dv x m else if (lvF dv x m).1 = -1 then (nI m, dv m - nI m) else if (lvF dv x m).2 ≤ dv m - nI m then lvF dv x m else (nI m, dv m - nI m)
theorem lvF_xy (dv : Nat → Int32) (x y : Int32) : ∀ m, m ≤ 100 → (lvF dv x m).1 = (lvF dv y m).1 ∧ ((lvF dv x m).1 ≠ -1 → (lvF dv x m).2 = (lvF dv y m).2) ∧ ((lvF dv x m).1 = -1 → (lvF dv x m).2 = x)
  | 0, _ => ⟨rfl, fun h => absurd rfl h, fun _ => rfl⟩
  | m + 1, hm => by
    obtain ⟨h1, h2, h3⟩ := lvF_xy dv x y m (by omega)
    have hne : ¬ nI m = (-1 : Int32) := fun z => by
      have z2 : nI m = mI := z
      rw [cneg (by omega)] at z2; exact z2
    show (if dv m = -1 then lvF dv x m else if (lvF dv x m).1 = -1 then (nI m, dv m - nI m) else if (lvF dv x m).2 ≤ dv m - nI m then lvF dv x m else (nI m, dv m - nI m)).1 = (if dv m = -1 then lvF dv y m else if (lvF dv y m).1 = -1 then (nI m, dv m - nI m) else if (lvF dv y m).2 ≤ dv m - nI m then lvF dv y m else (nI m, dv m - nI m)).1 ∧ ((if dv m = -1 then lvF dv x m else if (lvF dv x m).1 = -1 then (nI m, dv m - nI m) else if (lvF dv x m).2 ≤ dv m - nI m then lvF dv x m else (nI m, dv m - nI m)).1 ≠ -1 → (if dv m = -1 then lvF dv x m else if (lvF dv x m).1 = -1 then (nI m, dv m - nI m) else if (lvF dv x m).2 ≤ dv m - nI m then lvF dv x m else (nI m, dv m - nI m)).2 = (if dv m = -1 then lvF dv y m else if (lvF dv y m).1 = -1 then (nI m, dv m - nI m) else if (lvF dv y m).2 ≤ dv m - nI m then lvF dv y m else (nI m, dv m - nI m)).2) ∧ ((if dv m = -1 then lvF dv x m else if (lvF dv x m).1 = -1 then (nI m, dv m - nI m) else if (lvF dv x m).2 ≤ dv m - nI m then lvF dv x m else (nI m, dv m - nI m)).1 = -1 → (if dv m = -1 then lvF dv x m else if (lvF dv x m).1 = -1 then (nI m, dv m - nI m) else if (lvF dv x m).2 ≤ dv m - nI m then lvF dv x m else (nI m, dv m - nI m)).2 = x)
    by_cases q : dv m = -1
    · simp only [if_pos q]
      exact ⟨h1, h2, h3⟩
    · simp only [if_neg q]
      by_cases q1 : (lvF dv x m).1 = -1
      · rw [if_pos q1, if_pos (show (lvF dv y m).1 = -1 by rw [← h1]; exact q1)]
        exact ⟨rfl, fun _ => rfl, fun z => absurd z hne⟩
      · rw [if_neg q1, if_neg (show ¬ (lvF dv y m).1 = -1 by rw [← h1]; exact q1)]
        rw [← h2 q1]
        by_cases q2 : (lvF dv x m).2 ≤ dv m - nI m
        · rw [if_pos q2, if_pos q2]; exact ⟨h1, h2, h3⟩
        · rw [if_neg q2, if_neg q2]; exact ⟨rfl, fun _ => rfl, fun z => absurd z hne⟩
section LVE
variable {M N : sMem} {D Do G P E C W k e c g m s n pc pn row : Nat} {c0 c1 c2 : List Nat} {w : Nat → Int32} {u : Nat → Nat → Int32} {cl : Nat → Nat → Bool}
theorem c_arrF (h : CV u M D G P E C W c0 c1 c2) (hu : DU u G P E C W c0 c1 c2) (hS : StS M s) (hs : s = 54 ∨ s = 60) (hV : SV w M s G E C) (hw : WG w G P E C) (hr : M.1[row]? = some (15, 24)) (hcl : ∀ g t, g < 6 → t < 256 → rb (M.2.2.1 row) g t = cl g t) (hc : c < C) (hm : m < 200) :
    ∃ N, f_X0_arrivalFrom 67 s (nI c) (nI m) row M = some (drvF u cl W P m (atS w c) (gaS w c), N) ∧ Fr pGo q0 M N := by
  have hb := hu.2.1
  obtain ⟨N, a1, a2, a3⟩ := c_goal h hu hS hs hV hw hr hcl hc hm
  obtain ⟨v1, v2, v3⟩ := hV.2.2.2 c hc
  obtain ⟨w1, w2, _⟩ := hw.2.2.2 c hc
  have hSN := hS.f a2
  have hcN := a2.hc h.hc
  refine ⟨N, ?_, a2⟩
  unfold f_X0_arrivalFrom
  rw [sr67 h.hc, gr67_2 h.hc, Option.bind_some, gS3 hS, Option.bind_some, lS2 hS (by omega), Option.bind_some, v1, w1, a1, Option.bind_some, gr67_2 hcN, Option.bind_some, gS4 hSN, Option.bind_some, lS3 hSN (by omega), Option.bind_some, a2.i (beq_eq_false_iff_ne.mpr (by omega)), v2, w2, a3]
  rfl
/-- the reference, a car's drive -/
theorem r_carD {up : Nat} (hR : RV u M) (hu : DU u G P E C W c0 c1 c2) (hLd : Laid u M G E c0 (LF w)) (hw : WG w G P E C) (h140 : ∀ i, i < 27 → M.2.1 140 i = w i) (hup : up < 64) (hc : c < C) (hm : m < 200) : ∃ N, (f_X12_placeOf 94 (nI c) M = some (nI (atS w c)) ∧ f_X12_goalOf 94 (nI c) M = some (nI (gaS w c))) ∧ f_X12_driveOf 94 (nI (atS w c)) (nI (gaS w c)) (nI m) (nI up) M = some (drvF u (clS u c0 G E (LF w) 99 up) W P m (atS w c) (gaS w c), N) ∧ Fr pDr q0 M N := by
  have hb := hu.2.1
  obtain ⟨w1, w2, w3, w4, _⟩ := hw.2.2.2 c hc
  obtain ⟨r, N, d1, d2, d3⟩ := r_drive (up := up) hR hu hLd hup w3 w4 hm
  refine ⟨N, ⟨?_, ?_⟩, ?_, d2⟩
  · rw [r_placeOf hR.1 (by omega), h140 _ (by omega), w1]
  · rw [r_goalOf hR.1 (by omega), h140 _ (by omega), w2]
  · rw [d1, drvF_of d3]
theorem ok_leave (h : IX M D Do G P E C W c0 c1 c2 n pc pn) (a x : Int32) : ∃ r M1 M2, f_X11_leave 0 a x M = some (r, M1) ∧ f_X12_leave 94 a x M1 = some (r, M2) ∧ Inv M2 := by
  have k := h.1
  have hc := k.hc
  have hb := k.n.2
  have e0 : (0 : Int32).toInt = 0 := rfl
  have e1 : (1 : Int32).toInt = 1 := rfl
  have f0 : (0 : Int64).toInt = 0 := rfl
  have f1 : (1 : Int64).toInt = 1 := rfl
  have bad : ¬ ((0 ≤ a.toInt ∧ a.toInt < (C : Int)) ∧ 0 ≤ x.toInt ∧ x.toInt ≤ 1) → ∃ r M1 M2, f_X11_leave 0 a x M = some (r, M1) ∧ f_X12_leave 94 a x M1 = some (r, M2) ∧ Inv M2 := fun hn => by
    refine ⟨-1, M, M, ?_, ?_, h.inv⟩
    · unfold f_X11_leave
      simp only [sr0 hc, k.cv.p0, k.cv.g5, k.tC, Option.bind_some]
      by_cases q : 0 ≤ a.toInt ∧ a.toInt < (C : Int)
      · rw [if_neg (bI_y q)]
        by_cases q1 : x < 0
        · rw [if_pos q1]
        · rw [if_neg q1]
          have q1' := le_i.mp (Int32.not_lt.mp q1)
          rw [if_neg (fun z => hn ⟨q, by have := le_i.mp z; omega⟩)]
      · rw [if_pos (bI_0.mpr q)]
    · unfold f_X12_leave
      simp only [sr94 k.1, k.rC, isIn_of, i64, Option.bind_some]
      by_cases q : 0 ≤ a.toInt ∧ a.toInt < (C : Int)
      · rw [if_neg (bI_y q), if_pos (bI_0.mpr (fun z => hn ⟨q, by omega⟩))]
      · rw [if_pos (bI_0.mpr q)]
  rcases arg_c a C (by omega) with ⟨c, hcC, rfl⟩ | hn
  · by_cases qx : 0 ≤ x.toInt ∧ x.toInt ≤ 1
    · have he1 := inR hcC (show C < 2147483648 by omega)
      have x1 : ¬ x < 0 := fun z => by have := lt_i.mp z; omega
      have x2 : x ≤ 1 := le_i.mpr (by omega)
      obtain ⟨N1, a1, a2, a3, k1, eu, e140, a4, a5⟩ := both_now k
      obtain ⟨_, hw⟩ := k.2.2.2.2.1
      obtain ⟨dv, hdv⟩ : ∃ dv : Nat → Int32, dv = fun m => drvF (uR M) (cw (uR M) c0 G E (M.2.1 140)) W P m (atS (M.2.1 140) c) (gaS (M.2.1 140) c) := ⟨_, rfl⟩
      -- the class
      obtain ⟨O1, o1, o2⟩ : ∃ O1, sItr (fun a : (Int32 × Int32 × Int32 × sMem) => f_X11_leave_K37 0 (nI c) x a.1 a.2.1 a.2.2.1 a.2.2.2) sFuel (-1, -1, 0, N1) = some ((lvF dv (-1) 100).1, (lvF dv (-1) 100).2, O1) ∧ Fr pGo q0 N1 O1 := by
        obtain ⟨b, b1, b2⟩ := itr_g (f := fun a : (Int32 × Int32 × Int32 × sMem) => f_X11_leave_K37 0 (nI c) x a.1 a.2.1 a.2.2.1 a.2.2.2) (fun j (N : sMem) => ((lvF dv (-1) j).1, (lvF dv (-1) j).2, nI j, N)) (fun _ N => Fr pGo q0 N1 N) (fun b => ∃ O, b = ((lvF dv (-1) 100).1, (lvF dv (-1) 100).2, O) ∧ Fr pGo q0 N1 O) 100 (by decide) (by
          intro j N hj hF
          dsimp only
          unfold f_X11_leave_K37 f_X11_leave_B85 f_X11_leave_B95
          by_cases q : j = 100
          · right
            subst q
            rw [if_pos (by decide)]
            exact ⟨_, rfl, N, rfl, hF⟩
          · left
            have hcN := hF.hc k1.hc
            have hVN : CV (uR M) N D G P E C W c0 c1 c2 := by rw [← eu]; exact k1.cv.fr (R := fun _ _ => false) hF.fa offD_go offR_0
            have hSN := (StS54 k1.hc).f hF
            obtain ⟨N', n1, n2⟩ := c_arrF (row := 88) (m := j) (cl := cw (uR M) c0 G E (M.2.1 140)) (w := M.2.1 140) hVN k.2.1 hSN (Or.inl rfl) (by
              have := k1.2.2.2.2.1.1
              rw [e140] at this
              exact this.fr (StS54 k1.hc) (hF.fa (R := fun _ _ => false)) (fun j i hj => beq_eq_false_iff_ne.mpr (by omega))) hw (by rw [hF.1]; exact a5) (fun g t hg ht => by rw [show N.2.2.1 88 = N1.2.2.1 88 from funext fun k => hF.j rfl]; exact a4 g t hg ht) hcC (by omega)
            rw [if_neg (by rw [show (99 : Int32) = nI 99 from rfl, clt (by decide) (by omega)]; omega), gr0_9 hcN, Option.bind_some, gr0_4 hcN, Option.bind_some, gr0_11 hcN, Option.bind_some, n1]
            dsimp only [Option.bind_some]
            have edv : drvF (uR M) (cw (uR M) c0 G E (M.2.1 140)) W P j (atS (M.2.1 140) c) (gaS (M.2.1 140) c) = dv j := by rw [hdv]
            rw [edv, nI_1]
            refine ⟨by omega, N', ?_, hF.tr n2⟩
            show _ = some (Sum.inl ((if dv j = -1 then lvF dv (-1) j else if (lvF dv (-1) j).1 = -1 then (nI j, dv j - nI j) else if (lvF dv (-1) j).2 ≤ dv j - nI j then lvF dv (-1) j else (nI j, dv j - nI j)).1, (if dv j = -1 then lvF dv (-1) j else if (lvF dv (-1) j).1 = -1 then (nI j, dv j - nI j) else if (lvF dv (-1) j).2 ≤ dv j - nI j then lvF dv (-1) j else (nI j, dv j - nI j)).2, nI (j + 1), N'))
            by_cases q1 : dv j = -1
            · simp only [if_pos q1]
            · simp only [if_neg q1]
              by_cases q2 : (lvF dv (-1) j).1 = -1
              · simp only [if_pos q2]
              · simp only [if_neg q2]
                by_cases q3 : (lvF dv (-1) j).2 ≤ dv j - nI j
                · simp only [if_pos q3]
                · simp only [if_neg q3]) (i := 0) (s := N1) (by decide) Fr.rf
        obtain ⟨O, o1, o2⟩ := b2
        exact ⟨O, by rw [← o1]; exact b1, o2⟩
      have fO : FrB scC scQ rRow M O1 := a2.tr (o2.fb.mono (fun _ _ z => go_sc z) (fun _ _ _ => rfl) (fun _ _ z => z))
      have hRO : RowsI (uR M) O1 G c0 := a3.fr k1.hc (o2.fb (R := fun _ _ => false)) (fun _ => rfl) (fun _ _ _ => rfl) (fun _ => rfl)
      obtain ⟨k2, eu2⟩ := k.cls fO hRO
      have hl : 187 ≤ M.1.length := k.cv.ln
      have e2 : O1.2.1 140 = M.2.1 140 := funext fun k => fO.i (by omega) rfl
      obtain ⟨N2, b1, b2, b3⟩ := r_now k2
      have f140 : N2.2.1 140 = M.2.1 140 := by rw [← e2]; exact funext fun k => b2.i rfl
      have hRV : RV (uR M) N2 := by rw [← eu2]; exact (RV_uR k2.1).fr b2 (fun a k h1 h2 => sh_130 h1 (by omega))
      rw [e2, eu2] at b3
      -- the reference
      obtain ⟨O2, p1, p2⟩ : ∃ O2, sItr (fun a : (Int32 × Int32 × Int32 × sMem) => f_X12_leave_K32 94 (nI c) x a.1 a.2.1 a.2.2.1 a.2.2.2) sFuel (-1, 0, 0, N2) = some ((lvF dv 0 100).1, (lvF dv 0 100).2, O2) ∧ Fr pDr q0 N2 O2 := by
        obtain ⟨b, b1, b2⟩ := itr_g (f := fun a : (Int32 × Int32 × Int32 × sMem) => f_X12_leave_K32 94 (nI c) x a.1 a.2.1 a.2.2.1 a.2.2.2) (fun j (N : sMem) => ((lvF dv 0 j).1, (lvF dv 0 j).2, nI j, N)) (fun _ N => Fr pDr q0 N2 N) (fun b => ∃ O, b = ((lvF dv 0 100).1, (lvF dv 0 100).2, O) ∧ Fr pDr q0 N2 O) 100 (by decide) (by
          intro j N hj hF
          dsimp only
          unfold f_X12_leave_K32 f_X12_leave_B85 f_X12_leave_B95
          by_cases q : j = 100
          · right
            subst q
            rw [if_pos (by decide)]
            exact ⟨_, rfl, N, rfl, hF⟩
          · left
            have hRN : RV (uR M) N := hRV.fr hF (fun a k h1 h2 => beq_eq_false_iff_ne.mpr (by omega))
            have g140 : ∀ i, N.2.1 140 i = M.2.1 140 i := fun i => by rw [hF.i rfl, f140]
            have eup : f_X12_upSet 94 N = some (nI (upF (M.2.1 140) G)) := by
              rw [r_upSet hRN.1 (by rw [hRN.2 131 5 (by decide) (by decide)]; exact k.2.1.1.1) hb.1, show N.2.1 140 = M.2.1 140 from funext g140]
            obtain ⟨N', ⟨n1, n2⟩, n3, n4⟩ := r_carD (up := upF (M.2.1 140) G) (m := j) (w := M.2.1 140) hRN k.2.1 (fun g m hg hm => by rw [hF.i rfl]; exact b3 g m hg hm) hw (fun i _ => g140 i) (upF_lt64 hb.1) hcC (by omega)
            rw [if_neg (by rw [show (100 : Int32) = nI 100 from rfl, cle (by decide) (by omega)]; omega), n1, Option.bind_some, n2, Option.bind_some, eup, Option.bind_some, n3]
            dsimp only [Option.bind_some]
            have edv : drvF (uR M) (clS (uR M) c0 G E (LF (M.2.1 140)) 99 (upF (M.2.1 140) G)) W P j (atS (M.2.1 140) c) (gaS (M.2.1 140) c) = dv j := by rw [hdv]; rfl
            rw [edv, nI_1]
            refine ⟨by omega, N', ?_, hF.tr n4⟩
            show _ = some (Sum.inl ((if dv j = -1 then lvF dv 0 j else if (lvF dv 0 j).1 = -1 then (nI j, dv j - nI j) else if (lvF dv 0 j).2 ≤ dv j - nI j then lvF dv 0 j else (nI j, dv j - nI j)).1, (if dv j = -1 then lvF dv 0 j else if (lvF dv 0 j).1 = -1 then (nI j, dv j - nI j) else if (lvF dv 0 j).2 ≤ dv j - nI j then lvF dv 0 j else (nI j, dv j - nI j)).2, nI (j + 1), N'))
            by_cases q1 : dv j = -1
            · simp only [if_pos q1]
            · simp only [if_neg q1]
              by_cases q2 : (lvF dv 0 j).1 = -1
              · simp only [if_pos q2]
              · simp only [if_neg q2]
                by_cases q3 : (lvF dv 0 j).2 ≤ dv j - nI j
                · simp only [if_pos q3, if_neg (Int32.not_lt.mpr q3)]
                · simp only [if_neg q3, if_pos (Int32.not_le.mp q3)]) (i := 0) (s := N2) (by decide) Fr.rf
        obtain ⟨O, o1, o2⟩ := b2
        exact ⟨O, by rw [← o1]; exact b1, o2⟩
      obtain ⟨l1, l2, l3⟩ := lvF_xy dv (-1) 0 100 (by decide)
      refine ⟨if x = 0 then (lvF dv (-1) 100).1 else (lvF dv (-1) 100).2, O1, O2, ?_, ?_, (h.q fO hRO ((lay_q b2).tr (dr_q p2))).inv⟩
      · unfold f_X11_leave f_X11_leave_L37 f_X11_leave_B101
        simp only [sr0 hc, k.cv.p0, k.cv.g5, k.tC, Option.bind_some, bI_t he1, one0, if_false, if_neg x1, if_pos x2, a1, o1]
        by_cases q : x = 0
        · rw [if_pos q, if_pos q]
        · rw [if_neg q, if_neg q]
      · unfold f_X12_leave f_X12_leave_L32 f_X12_leave_B101
        simp only [sr94 k2.1, k2.rC, isIn_of, i64, Option.bind_some, bI_t he1, one0, if_false, b1, p1]
        rw [if_neg (bI_y (by omega)), ← l1]
        by_cases q1 : (lvF dv (-1) 100).1 = -1
        · rw [if_pos q1, l3 q1, q1]
          by_cases q : x = 0
          · rw [if_pos q]
          · rw [if_neg q]
        · rw [if_neg q1, ← l2 q1]
          by_cases q : x = 0
          · rw [if_pos q, if_pos q]
          · rw [if_neg q, if_neg q]
    · exact bad (fun z => qx z.2)
  · exact bad (fun z => hn z.1)
end LVE
