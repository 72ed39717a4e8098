/-! THE CLASS answers for a car: all of it -/
section CA3
variable {M N : sMem} {D G P E C W c q nn : Nat} {c0 c1 c2 cs : List Nat} {w : Nat → Int32} {u : Nat → Nat → Int32} {b : Bool}
theorem okc3 {c : Nat} (h : okCode 3 c = true) : c < 40 ∨ 1000 ≤ c ∨ (46 ≤ c ∧ c < 53) ∨ c = 60 ∨ c = 61 := by
  unfold okCode okPart at h
  simp only [Bool.or_eq_true, Bool.and_eq_true, decide_eq_true_eq] at h
  by_cases q : c < 40 ∨ 1000 ≤ c ∨ c = 60 ∨ c = 61
  · omega
  · rcases h with ((h | h) | ⟨h1, h2⟩) | ⟨h1, h2⟩
    · omega
    · omega
    · rw [if_neg (by decide), if_neg (by decide), if_neg (by decide)] at h2
      have := of_decide_eq_true h2
      omega
    · omega
theorem c_answer (h : CV u M D G P E C W c0 c1 c2) (hu : DU u G P E C W c0 c1 c2) (hV : SV w M 54 G E C) (hw : WG w G P E C) (hA : AU M) (hcl : ∀ g t, g < 6 → t < 256 → rb (M.2.2.1 88) g t = cw u c0 G E w g t) (hc : c < C) (hp : Prg M 8 q nn cs) (hq : q = 9 ∨ 187 ≤ q) (hty : tyA cs [] = some [b]) (hok : ∀ x ∈ cs, okCode 3 x = true) (he : Env (envQ u w (wtS u c0 G E W P w c) c) (shQ (cw u c0 G E w) (mnS u c)) (drQ u (cw u c0 G E w) W P (mnS u c) (atS w c)) cs) :
    ∃ r N, f_X0_answerOf 67 54 (nI c) 88 8 M = some (r, N) ∧ evA (envQ u w (wtS u c0 G E W P w c) c) (shQ (cw u c0 G E w) (mnS u c)) (drQ u (cw u c0 G E w) W P (mnS u c) (atS w c)) cs [] = [r.toInt] ∧ Vok b r.toInt ∧ Fr pAn q0 M N := by
  have hb := hu.2.1
  have hcc := h.hc
  have hcar := hu.car hc
  obtain ⟨v1, v2, v3⟩ := hV.2.2.2 c hc
  obtain ⟨w1, w2, w3, w4, w5, w6⟩ := hw.2.2.2 c hc
  have a0 : f_X9_cell (D + 13) (nI c) (2 : Int32) M = some (nI (mnS u c)) := by rw [show (2 : Int32) = nI 2 from rfl, h.cC hu hc (j := 2) (by omega), show 15 + 3 * c + 2 = 17 + 3 * c by omega, hcar.1]
  obtain ⟨N0, x1, x2⟩ := c_wait h hu (StS54 hcc) (Or.inl rfl) hV hw hA (cs88 hcc) hcl hc
  have hc0 := x2.hc hcc
  have F0 : Fr pAn q0 M N0 := x2.mono (fun a k z => imF (fun y => by unfold pGo at y; unfold pAn; simp only [Bool.or_eq_true, beq_iff_eq] at y ⊢; omega) z) (fun _ _ z => z)
  obtain ⟨X1, hX1⟩ : ∃ X, X = wrI N0 69 22 (wtS u c0 G E W P w c) := ⟨_, rfl⟩
  have F1 : Fr pAn q0 M X1 := by rw [hX1]; exact F0.wi rfl
  have k1 := F1.hc hcc
  obtain ⟨X2, hX2⟩ : ∃ X, X = wrI X1 69 24 (nI c) := ⟨_, rfl⟩
  have F2 : Fr pAn q0 M X2 := by rw [hX2]; exact F1.wi rfl
  have k2 := F2.hc hcc
  obtain ⟨X3, hX3⟩ : ∃ X, X = wrI X2 69 2 (w (12 + 3 * c)) := ⟨_, rfl⟩
  have F3 : Fr pAn q0 M X3 := by rw [hX3]; exact F2.wi rfl
  have k3 := F3.hc hcc
  obtain ⟨X4, hX4⟩ : ∃ X, X = wrI X3 69 5 (w (13 + 3 * c)) := ⟨_, rfl⟩
  have F4 : Fr pAn q0 M X4 := by rw [hX4]; exact F3.wi rfl
  have k4 := F4.hc hcc
  obtain ⟨X5, hX5⟩ : ∃ X, X = wrI X4 69 12 (nI (mnS u c)) := ⟨_, rfl⟩
  have F5 : Fr pAn q0 M X5 := by rw [hX5]; exact F4.wi rfl
  have k5 := F5.hc hcc
  obtain ⟨X6, hX6⟩ : ∃ X, X = wrI X5 69 23 (w (14 + 3 * c)) := ⟨_, rfl⟩
  have F6 : Fr pAn q0 M X6 := by rw [hX6]; exact F5.wi rfl
  have k6 := F6.hc hcc
  obtain ⟨X7, hX7⟩ : ∃ X, X = wrI X6 69 21 (w 0) := ⟨_, rfl⟩
  have F7 : Fr pAn q0 M X7 := by rw [hX7]; exact F6.wi rfl
  have k7 := F7.hc hcc
  obtain ⟨Y, y1, y2, y3⟩ := c_ans70 (c := c) (cl := cw u c0 G E w) (m := mnS u c) k7 (by omega) (fun g t hg ht => by rw [show X7.2.2.1 88 = M.2.2.1 88 from funext fun k => F7.j rfl]; exact hcl g t hg ht)
  have FY : Fr pAn q0 M Y := F7.tr (y2.mono (fun a k z => imF (fun y => by unfold p70 at y; unfold pAn; simp only [Bool.or_eq_true, beq_iff_eq] at y ⊢; omega) z) (fun _ _ z => z))
  have kY := FY.hc hcc
  have hY : CV u Y D G P E C W c0 c1 c2 := h.fb (FY.fb (R := fun _ _ => false)) (by
    intro a k z
    unfold pAn at z
    simp only [Bool.or_eq_true, Bool.and_eq_true, beq_iff_eq] at z
    omega) offR_0
  obtain ⟨Z, sp, z1, z2, z3⟩ := c_go (cl := cw u c0 G E w) (fr := atS w c) (m0 := mnS u c) hY hu (cs88 kY) (fun g t hg ht => by rw [show Y.2.2.1 88 = M.2.2.1 88 from funext fun k => FY.j rfl]; exact hcl g t hg ht) w3 (by omega)
  have FZ : Fr pAn q0 M Z := FY.tr (z2.mono (fun a k z => imF (fun y => by unfold pGo at y; unfold pAn; simp only [Bool.or_eq_true, beq_iff_eq] at y ⊢; omega) z) (fun _ _ z => z))
  have kZ := FZ.hc hcc
  obtain ⟨V, o1, o2, o3⟩ := c_ans71 (ar := fun p => drvF u (cw u c0 G E w) W P (mnS u c) (atS w c) p) kZ (fun p N hp hN => by
    obtain ⟨r, r1, r2⟩ := c_arrival (M := N) (sp := sp) (u := u) (cl := cw u c0 G E w) (W := W) (P := P) (m0 := mnS u c) (fr := atS w c) (hN.hc kZ) (fun p hp => by rw [hN.i rfl]; exact z3 p hp) hp
    rw [r1, drvF_of r2])
  have FV : Fr pAn q0 M V := FZ.tr (o2.mono (fun a k z => imF (fun y => by unfold p71 at y; unfold pAn; simp only [Bool.or_eq_true, beq_iff_eq] at y ⊢; omega) z) (fun _ _ z => z))
  have kV := FV.hc hcc
  have e70 : ∀ g, g < 6 → V.2.1 70 g = bI (cw u c0 G E w g (mnS u c) = true) := fun g hg => by rw [o2.i rfl, z2.i rfl]; exact y3 g hg
  have e69 : ∀ j, V.2.1 69 j = X7.2.1 69 j := fun j => by rw [o2.i rfl, z2.i rfl, y2.i rfl]
  have hqn : q ≠ 81 ∧ q ≠ 69 ∧ q ≠ 70 ∧ q ≠ 71 ∧ q ≠ 72 ∧ q ≠ 68 := by omega
  have hpV : Prg V 8 q nn cs := by
    obtain ⟨p1, p2, p3, p4, p5, p6, p7⟩ := hp
    exact ⟨by rw [FV.1]; exact p1, by rw [FV.2.1]; exact p2, by rw [FV.1]; exact p3, by rw [FV.i rfl]; exact p4, p5, p6, fun i hi => by rw [FV.i (Bool.eq_false_iff.mpr (fun y => by unfold pAn at y; simp only [Bool.or_eq_true, Bool.and_eq_true, beq_iff_eq] at y; omega))]; exact p7 i hi⟩
  obtain ⟨r, N, r1, r2, r3, r4⟩ := c_run (M := V) (p := 8) (q := q) (n := nn) (cs := cs) (env := envQ u w (wtS u c0 G E W P w c) c) (b := b) kV hpV (by omega) (by omega) (by rw [shQ_C e70, drQ_C o3]; exact he) (fun x hx g1 g2 => by
    rw [e69]
    rcases okc3 (hok x hx) with z | z | z | z
    · omega
    · omega
    · have hk : x = 46 ∨ x = 47 ∨ x = 48 ∨ x = 49 ∨ x = 50 ∨ x = 51 ∨ x = 52 := by omega
      rcases hk with rfl | rfl | rfl | rfl | rfl | rfl | rfl
      · show (X7.2.1 69 21).toInt = (w 0).toInt; rw [hX7, wrI_eq]
      · show (X7.2.1 69 22).toInt = (wtS u c0 G E W P w c).toInt; rw [hX7, wrI_ne (by omega), hX6, wrI_ne (by omega), hX5, wrI_ne (by omega), hX4, wrI_ne (by omega), hX3, wrI_ne (by omega), hX2, wrI_ne (by omega), hX1, wrI_eq]
      · show (X7.2.1 69 23).toInt = (w (14 + 3 * c)).toInt; rw [hX7, wrI_ne (by omega), hX6, wrI_eq]
      · show (X7.2.1 69 24).toInt = (c : Int); rw [hX7, wrI_ne (by omega), hX6, wrI_ne (by omega), hX5, wrI_ne (by omega), hX4, wrI_ne (by omega), hX3, wrI_ne (by omega), hX2, wrI_eq, nI_i (by omega)]
      · show (X7.2.1 69 2).toInt = (w (12 + 3 * c)).toInt; rw [hX7, wrI_ne (by omega), hX6, wrI_ne (by omega), hX5, wrI_ne (by omega), hX4, wrI_ne (by omega), hX3, wrI_eq]
      · show (X7.2.1 69 5).toInt = (w (13 + 3 * c)).toInt; rw [hX7, wrI_ne (by omega), hX6, wrI_ne (by omega), hX5, wrI_ne (by omega), hX4, wrI_eq]
      · show (X7.2.1 69 12).toInt = (u 136 (17 + 3 * c)).toInt; rw [hX7, wrI_ne (by omega), hX6, wrI_ne (by omega), hX5, wrI_eq, hcar.1]
    · omega) hty
  rw [shQ_C e70, drQ_C o3] at r2
  refine ⟨r, N, ?_, r2, r3, FV.tr (r4.mono (fun a k z => imF (fun y => by unfold pR1 at y; unfold pAn; simp only [Bool.or_eq_true, Bool.and_eq_true, beq_iff_eq] at y ⊢; omega) z) (fun _ _ z => z))⟩
  unfold f_X0_answerOf f_X0_answerOf_B84 f_X0_answerOf_L117 f_X0_answerOf_B156 f_X0_answerOf_L175 f_X0_answerOf_B207
  rw [sr67 hcc, h.p67, Option.bind_some, h.g5, Option.bind_some, a0, Option.bind_some, gr67_0 hcc, Option.bind_some, gr68_0 hcc, Option.bind_some, x1]
  dsimp only [Option.bind_some]
  rw [show stI N0 69 (22 : Int32) (wtS u c0 G E W P w c) = some X1 from (by rw [hX1]; exact st69 hc0 (j := 22) (by decide)), Option.bind_some, gr67_0 k1, Option.bind_some, gr68_0 k1, Option.bind_some, show stI X1 69 (24 : Int32) (nI c) = some X2 from (by rw [hX2]; exact st69 k1 (j := 24) (by decide)), Option.bind_some, gr67_0 k2, Option.bind_some, gr68_0 k2, Option.bind_some, gS3 (StS54 k2), Option.bind_some, lS2 (StS54 k2) (by omega), Option.bind_some, F2.i rfl, v1, show stI X2 69 (2 : Int32) (w (12 + 3 * c)) = some X3 from (by rw [hX3]; exact st69 k2 (j := 2) (by decide)), Option.bind_some, gr67_0 k3, Option.bind_some, gr68_0 k3, Option.bind_some, gS4 (StS54 k3), Option.bind_some, lS3 (StS54 k3) (by omega), Option.bind_some, F3.i rfl, v2, show stI X3 69 (5 : Int32) (w (13 + 3 * c)) = some X4 from (by rw [hX4]; exact st69 k3 (j := 5) (by decide)), Option.bind_some, gr67_0 k4, Option.bind_some, gr68_0 k4, Option.bind_some, show stI X4 69 (12 : Int32) (nI (mnS u c)) = some X5 from (by rw [hX5]; exact st69 k4 (j := 12) (by decide)), Option.bind_some, gr67_0 k5, Option.bind_some, gr68_0 k5, Option.bind_some, gS5 (StS54 k5), Option.bind_some, lS4 (StS54 k5) (by omega), Option.bind_some, F5.i rfl, v3, show stI X5 69 (23 : Int32) (w (14 + 3 * c)) = some X6 from (by rw [hX6]; exact st69 k5 (j := 23) (by decide)), Option.bind_some, gr67_0 k6, Option.bind_some, gr68_0 k6, Option.bind_some, gi54 k6, Option.bind_some, F6.i rfl, hV.1, show stI X6 69 (21 : Int32) (w 0) = some X7 from (by rw [hX7]; exact st69 k6 (j := 21) (by decide)), Option.bind_some, y1, Option.bind_some, gr67_2 kY, Option.bind_some, gS3 (StS54 kY), Option.bind_some, lS2 (StS54 kY) (by omega), Option.bind_some, FY.i rfl, v1, w1, z1, Option.bind_some, o1, Option.bind_some, gr67_0 kV, Option.bind_some, r1]
  rfl
end CA3
