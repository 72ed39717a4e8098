/-! ACTS: send, put -/
section ACD
variable {M N N1 N3 : sMem} {D Do G P E C W k e c g m s n pc pn : Nat} {c0 c1 c2 : List Nat}
theorem ok_send (h : IX M D Do G P E C W c0 c1 c2 n pc pn) (a b : Int32) : ∃ r M1 M2, f_X11_send 0 a b M = some (r, M1) ∧ f_X12_send 94 a b M1 = some (r, M2) ∧ Inv M2 := by
  have k := h.1
  have hc := k.hc
  have hb := k.n.2
  obtain ⟨hV, hw⟩ := k.2.2.2.2.1
  have hS := StS54 hc
  obtain ⟨⟨B1, p1, rfl⟩, p2, p3⟩ := bad_act h
  have kb : KI (wrI M 93 2 (M.2.1 93 2 + 1)) D G P E C W c0 c1 c2 := k.rf
  have bad : ¬ ((0 ≤ a.toInt ∧ a.toInt < (C : Int)) ∧ (0 ≤ b.toInt ∧ b.toInt < (P : Int)) ∧ ∀ c, c < C → a = nI c → ¬ M.2.1 140 (13 + 3 * c) = b ∧ ¬ M.2.1 140 (12 + 3 * c) = b) → ∃ r M1 M2, f_X11_send 0 a b M = some (r, M1) ∧ f_X12_send 94 a b M1 = some (r, M2) ∧ Inv M2 := fun hn => by
    refine ⟨0, wrI M 93 2 (M.2.1 93 2 + 1), rfM M 2, ?_, ?_, p3⟩
    · unfold f_X11_send f_X11_send_B54
      simp only [sr0 hc, k.cv.p0, k.cv.g5, k.cv.g2, k.tC, k.tP, Option.bind_some, gr0_4 hc, gS3 hS, gS4 hS]
      replace p1 : ((f_X11_refuse 0 2 M).bind fun x => match x with | (_, M2) => some ((0 : Int32), M2)) = some (0, wrI M 93 2 (M.2.1 93 2 + 1)) := p1
      rcases arg_c a C (by omega) with ⟨c, hcC, rfl⟩ | hna
      · rw [if_neg (bI_y (inR hcC (by omega)))]
        by_cases q1 : 0 ≤ b.toInt ∧ b.toInt < (P : Int)
        · obtain ⟨v1, v2, v3⟩ := hV.2.2.2 c hcC
          rw [if_neg (bI_y q1), lS3 hS (by omega), Option.bind_some, v2, lS2 hS (by omega), Option.bind_some, v1]
          by_cases w1 : M.2.1 140 (13 + 3 * c) = b
          · rw [if_pos w1]; exact p1
          · rw [if_neg w1]
            by_cases w2 : M.2.1 140 (12 + 3 * c) = b
            · rw [if_pos w2]; exact p1
            · exact absurd ⟨inR hcC (by omega), q1, fun c' hc' hcc => by
                have : c = c' := (nI_eq (by omega) (by omega)).mp hcc
                rw [← this]; exact ⟨w1, w2⟩⟩ hn
        · rw [if_pos (bI_0.mpr q1)]; exact p1
      · rw [if_pos (bI_0.mpr hna)]; exact p1
    · unfold f_X12_send f_X12_send_B35
      have p4 : ((f_X12_isRefused 94 (wrI M 93 2 (M.2.1 93 2 + 1))).bind fun x => match x with | (x1, M2) => if x1 = 0 ∨ x1 = 1 then some (x1, M2) else none) = some (0, rfM M 2) := by rw [p2]; rfl
      simp only [sr94 kb.1, kb.rC, kb.rP, Option.bind_some]
      rcases arg_c a C (by omega) with ⟨c, hcC, rfl⟩ | hna
      · rw [if_neg (bI_y (inR hcC (by omega)))]
        by_cases q1 : 0 ≤ b.toInt ∧ b.toInt < (P : Int)
        · rw [if_neg (bI_y q1), r_placeOf kb.1 (by omega), Option.bind_some, r_goalOf kb.1 (by omega), Option.bind_some, wrI_ne (by omega), wrI_ne (by omega)]
          by_cases w2 : M.2.1 140 (12 + 3 * c) = b
          · rw [if_pos w2]; exact p4
          · rw [if_neg w2]
            by_cases w1 : M.2.1 140 (13 + 3 * c) = b
            · rw [if_pos w1]; exact p4
            · exact absurd ⟨inR hcC (by omega), q1, fun c' hc' hcc => by
                have : c = c' := (nI_eq (by omega) (by omega)).mp hcc
                rw [← this]; exact ⟨w1, w2⟩⟩ hn
        · rw [if_pos (bI_0.mpr q1)]; exact p4
      · rw [if_pos (bI_0.mpr hna)]; exact p4
  rcases arg_c a C (by omega) with ⟨c, hcC, rfl⟩ | hna
  · rcases arg_c b P (by omega) with ⟨l, hl1, rfl⟩ | hnb
    · by_cases q1 : M.2.1 140 (13 + 3 * c) = nI l
      · exact bad (fun z => (z.2.2 c hcC rfl).1 q1)
      · by_cases q2 : M.2.1 140 (12 + 3 * c) = nI l
        · exact bad (fun z => (z.2.2 c hcC rfl).2 q2)
        · have he1 := inR hcC (show C < 2147483648 by omega)
          have he2 := inR hl1 (show P < 2147483648 by omega)
          have el : (nI l).toInt = l := nI_i (by omega)
          obtain ⟨v1, v2, v3⟩ := hV.2.2.2 c hcC
          obtain ⟨N1, s, a1, a2, a3, a4, a5, a6, hc1, hs1, vv⟩ := act_pre h
          have hS1 := StS54 hc1
          have hs2 : RefS (wrI N1 57 c (nI l)).1 (wrI N1 57 c (nI l)).2.2.2 := hs1
          obtain ⟨N3, b1, b2, b3, b4, b5⟩ := act_keep (N := wrI N1 57 c (nI l)) h hs2 ⟨by rw [wrI_ne (by omega), vv _ _ (by decide) (by decide)], by rw [wrI_ne (by omega), vv _ _ (by decide) (by decide)]⟩
          have hs3 := b2.hs hs2
          have rC : f_X12_isCar 94 (nI c) (wrI N1 57 c (nI l)) = some (bI (0 ≤ (nI c).toInt ∧ (nI c).toInt < (C : Int))) := r_isCar hs2 (by rw [wrI_ne (by omega), vv _ _ (by decide) (by decide)]; exact k.n.1.2.2.2.1) hb.2.2.2.1 _
          have rP : f_X12_isPlace 94 (nI l).toInt64 (wrI N1 57 c (nI l)) = some (bI (0 ≤ (nI l).toInt ∧ (nI l).toInt < (P : Int))) := by rw [r_isPlace hs2 (by rw [wrI_ne (by omega), vv _ _ (by decide) (by decide)]; exact k.n.1.2.1) hb.2.1, i64]
          refine ⟨1, wrI N1 57 c (nI l), wrI N3 140 (13 + 3 * c) (nI l), ?_, ?_, ?_⟩
          · unfold f_X11_send
            simp only [sr0 hc, k.cv.p0, k.cv.g5, k.cv.g2, k.tC, k.tP, Option.bind_some, bI_t he1, bI_t he2, one0, if_false, gr0_4 hc, gS3 hS, gS4 hS, lS2 hS (show c < 5 by omega), lS3 hS (show c < 5 by omega), v1, v2, a1, gr0_4 hc1, gS4 hS1]
            rw [if_neg q1, if_neg q2, show stI N1 (54 + 3) (nI c) (nI l) = some (wrI N1 57 c (nI l)) from tS3 hS1 (by omega)]
            rfl
          · unfold f_X12_send
            simp only [sr94 hs2, rC, rP, Option.bind_some, bI_t he1, bI_t he2, one0, if_false, r_placeOf hs2 (show c < 5 by omega), r_goalOf hs2 (show c < 5 by omega), b1, gr94_59 hs3]
            rw [if_neg (by rw [wrI_ne (by omega), vv _ _ (by decide) (by decide)]; exact q2), if_neg (by rw [wrI_ne (by omega), vv _ _ (by decide) (by decide)]; exact q1), show (13 : Int32) + (3 : Int32) * nI c = nI (13 + 3 * c) from (by rw [show (3 : Int32) = nI 3 from rfl, pk_mul, show (13 : Int32) = nI 13 from rfl, nI_add]), st140 hs3 (by omega)]
            rfl
          · obtain ⟨w', hww⟩ : ∃ w' : Nat → Int32, w' = fun i => if i = 13 + 3 * c then nI l else M.2.1 140 i := ⟨_, rfl⟩
            have wv : w' (13 + 3 * c) = nI l := by rw [hww]; exact if_pos rfl
            have wo : ∀ i, i ≠ 13 + 3 * c → w' i = M.2.1 140 i := fun i hi => by rw [hww]; exact if_neg hi
            refine (h.act1 (a0 := 57) (k0 := c) (x := nI l) (k1 := 13 + 3 * c) (y := nI l) (w' := w') a2 a3 a4 a5 a6 ⟨by decide, by decide⟩ (by omega) (by omega) b2 b3 b4 b5 hww ?_ ⟨?_, ?_, fun e' he' => ?_, fun c' hc' => ?_⟩).inv
            · obtain ⟨⟨d, d1, d2⟩, g3, g4, g5⟩ := hw
              refine ⟨⟨d, d1, by rw [wo 0 (by omega)]; exact d2⟩, fun g hg => by rw [wo _ (by omega)]; exact g3 g hg, fun e' he' => ?_, fun c' hc' => ?_⟩
              · have : LF w' e' = LF (M.2.1 140) e' := by unfold LF; rw [wo _ (by omega)]
                rw [this, wo _ (by omega)]
                exact g4 e' he'
              · have t1 : atS w' c' = atS (M.2.1 140) c' := by unfold atS; rw [wo _ (by omega)]
                obtain ⟨z1, z2, z3, z4, z5, z6⟩ := g5 c' hc'
                by_cases z : c' = c
                · subst z
                  have t2 : gaS w' c' = l := by unfold gaS; rw [wv, el]; rfl
                  rw [t1, t2, wv, wo _ (by omega), wo _ (by omega)]
                  exact ⟨z1, rfl, z3, hl1, fun y => q2 (by rw [z1, y]), z6⟩
                · have t2 : gaS w' c' = gaS (M.2.1 140) c' := by unfold gaS; rw [wo _ (by omega)]
                  rw [t1, t2, wo _ (by omega), wo _ (by omega), wo _ (by omega)]
                  exact ⟨z1, z2, z3, z4, z5, z6⟩
            · rw [if_neg (by omega), wo _ (by omega)]; exact hV.1
            · rw [if_neg (by omega), upF_cong (w := M.2.1 140) (fun g hg => wo _ (by omega))]; exact hV.2.1
            · rw [if_neg (by omega), wo _ (by omega)]; exact hV.2.2.1 e' he'
            · obtain ⟨y1, y2, y3⟩ := hV.2.2.2 c' hc'
              rw [if_neg (by omega), if_neg (show ¬ (57 = 58 ∧ c = c') by omega), wo (12 + 3 * c') (by omega), wo (14 + 3 * c') (by omega)]
              refine ⟨y1, ?_, y3⟩
              by_cases z : c' = c
              · subst z; rw [if_pos ⟨rfl, rfl⟩, wv]
              · rw [if_neg (by omega), wo _ (by omega)]; exact y2
    · exact bad (fun z => hnb z.2.1)
  · exact bad (fun z => hna z.1)
theorem ok_put (h : IX M D Do G P E C W c0 c1 c2 n pc pn) (a b : Int32) : ∃ r M1 M2, f_X11_put 0 a b M = some (r, M1) ∧ f_X12_put 94 a b M1 = some (r, M2) ∧ Inv M2 := by
  have k := h.1
  have hc := k.hc
  have hb := k.n.2
  have e0 : (0 : Int32).toInt = 0 := rfl
  have e1 : (1 : Int32).toInt = 1 := rfl
  have f0 : (0 : Int64).toInt = 0 := rfl
  have f1 : (1 : Int64).toInt = 1 := rfl
  obtain ⟨hV, hw⟩ := k.2.2.2.2.1
  have hS := StS54 hc
  obtain ⟨⟨B1, p1, rfl⟩, p2, p3⟩ := bad_act h
  have kb : KI (wrI M 93 2 (M.2.1 93 2 + 1)) D G P E C W c0 c1 c2 := k.rf
  have b01 : ∀ {b : Int32}, 0 ≤ b.toInt ∧ b.toInt ≤ 1 → b = 0 ∨ b = 1 := fun {b} z => by
    by_cases q : b.toInt = 0
    · exact Or.inl (eq_i.mpr q)
    · exact Or.inr (eq_i.mpr (by omega))
  have bad : ¬ ((0 ≤ a.toInt ∧ a.toInt < (G : Int)) ∧ (0 ≤ b.toInt ∧ b.toInt ≤ 1) ∧ ∀ g, g < G → a = nI g → ¬ M.2.1 140 (1 + g) = b) → ∃ r M1 M2, f_X11_put 0 a b M = some (r, M1) ∧ f_X12_put 94 a b M1 = some (r, M2) ∧ Inv M2 := fun hn => by
    refine ⟨0, wrI M 93 2 (M.2.1 93 2 + 1), rfM M 2, ?_, ?_, p3⟩
    · unfold f_X11_put f_X11_put_B41 f_X11_put_B44
      simp only [sr0 hc, k.cv.p0, k.cv.g1, k.tG, Option.bind_some, gr0_4 hc]
      replace p1 : ((f_X11_refuse 0 2 M).bind fun x => match x with | (_, M2) => some ((0 : Int32), M2)) = some (0, wrI M 93 2 (M.2.1 93 2 + 1)) := p1
      rcases arg_c a G (by omega) with ⟨g, hg, rfl⟩ | hna
      · rw [if_neg (bI_y (inR hg (by omega)))]
        by_cases q1 : b < 0
        · rw [if_pos q1]; exact p1
        · rw [if_neg q1]
          have q1' := le_i.mp (Int32.not_lt.mp q1)
          by_cases q2 : (1 : Int32) < b
          · rw [if_pos q2]; exact p1
          · have q2' := le_i.mp (Int32.not_lt.mp q2)
            have hbb : M.2.1 140 (1 + g) = b := by
              by_cases w : M.2.1 140 (1 + g) = b
              · exact w
              · exact absurd ⟨inR hg (by omega), ⟨by omega, by omega⟩, fun g' hg' hgg => by
                  have : g = g' := (nI_eq (by omega) (by omega)).mp hgg
                  rw [← this]; exact w⟩ hn
            rw [if_neg q2, c_isUp hS hV hw hb.1 (by omega), Option.bind_some, hbb]
            rcases b01 (b := b) ⟨by omega, by omega⟩ with rfl | rfl
            · rw [if_neg (by decide), if_pos rfl]; exact p1
            · rw [if_pos rfl, if_pos rfl]; exact p1
      · rw [if_pos (bI_0.mpr hna)]; exact p1
    · unfold f_X12_put f_X12_put_B31
      have p4 : ((f_X12_isRefused 94 (wrI M 93 2 (M.2.1 93 2 + 1))).bind fun x => match x with | (x1, M2) => if x1 = 0 ∨ x1 = 1 then some (x1, M2) else none) = some (0, rfM M 2) := by rw [p2]; rfl
      simp only [sr94 kb.1, kb.rG, isIn_of, i64, Option.bind_some, gr94_59 kb.1]
      rcases arg_c a G (by omega) with ⟨g, hg, rfl⟩ | hna
      · rw [if_neg (bI_y (inR hg (by omega)))]
        by_cases q1 : 0 ≤ b.toInt ∧ b.toInt ≤ 1
        · rw [if_neg (bI_y (by omega)), show (1 : Int32) + nI g = nI (1 + g) from nI_add 1 g, ld140 kb.1 (by omega), Option.bind_some, wrI_ne (by omega), if_pos ?_]
          · exact p4
          · by_cases w : M.2.1 140 (1 + g) = b
            · exact w
            · exact absurd ⟨inR hg (by omega), q1, fun g' hg' hgg => by
                have : g = g' := (nI_eq (by omega) (by omega)).mp hgg
                rw [← this]; exact w⟩ hn
        · rw [if_pos (bI_0.mpr (by omega))]; exact p4
      · rw [if_pos (bI_0.mpr hna)]; exact p4
  rcases arg_c a G (by omega) with ⟨g, hg, rfl⟩ | hna
  · by_cases qb : 0 ≤ b.toInt ∧ b.toInt ≤ 1
    · by_cases q : M.2.1 140 (1 + g) = b
      · exact bad (fun z => z.2.2 g hg rfl q)
      · have he1 := inR hg (show G < 2147483648 by omega)
        have hg6 : g < 6 := by omega
        have hup : upF (M.2.1 140) G < 64 := upF_lt64 hb.1
        obtain ⟨x1, x2⟩ := xor64 _ hup g hg6
        obtain ⟨N1, s, a1, a2, a3, a4, a5, a6, hc1, hs1, vv⟩ := act_pre h
        have hS1 := StS54 hc1
        obtain ⟨x, hx⟩ : ∃ x, x = nI (upF (M.2.1 140) G ^^^ 2 ^ g) := ⟨_, rfl⟩
        have hs2 : RefS (wrI N1 54 1 x).1 (wrI N1 54 1 x).2.2.2 := hs1
        obtain ⟨N3, b1, b2, b3, b4, b5⟩ := act_keep (N := wrI N1 54 1 x) h hs2 ⟨by rw [wrI_ne (by omega), vv _ _ (by decide) (by decide)], by rw [wrI_ne (by omega), vv _ _ (by decide) (by decide)]⟩
        have hs3 := b2.hs hs2
        have rG : f_X12_isGate 94 (nI g).toInt64 (wrI N1 54 1 x) = some (bI (0 ≤ (nI g).toInt ∧ (nI g).toInt < (G : Int))) := by rw [r_isGate hs2 (by rw [wrI_ne (by omega), vv _ _ (by decide) (by decide)]; exact k.n.1.1) hb.1, i64]
        have hb01 := b01 qb
        have y1 : ¬ b < 0 := fun z => by have := lt_i.mp z; omega
        have y2 : ¬ (1 : Int32) < b := fun z => by have := lt_i.mp z; omega
        refine ⟨1, wrI N1 54 1 x, wrI N3 140 (1 + g) b, ?_, ?_, ?_⟩
        · unfold f_X11_put f_X11_put_B41
          simp only [sr0 hc, k.cv.p0, k.cv.g1, k.tG, Option.bind_some, bI_t he1, one0, if_false, gr0_4 hc, if_neg y1, if_neg y2, c_isUp hS hV hw hb.1 hg6, a1, gr0_4 hc1, gi54 hc1, vv 54 1 (by decide) (by decide), hV.2.1, x1, pi54 hc1, hx]
          rcases hb01 with rfl | rfl
          · rw [if_neg (by decide), if_neg q]
          · rw [if_pos rfl, if_neg q]
        · unfold f_X12_put
          simp only [sr94 hs2, rG, isIn_of, i64, Option.bind_some, bI_t he1, one0, if_false, gr94_59 hs2, b1, gr94_59 hs3]
          rw [if_neg (bI_y (by omega)), show (1 : Int32) + nI g = nI (1 + g) from nI_add 1 g, ld140 hs2 (by omega), Option.bind_some, if_neg (by rw [wrI_ne (by omega), vv _ _ (by decide) (by decide)]; exact q), st140 hs3 (by omega)]
          rfl
        · obtain ⟨w', hww⟩ : ∃ w' : Nat → Int32, w' = fun i => if i = 1 + g then b else M.2.1 140 i := ⟨_, rfl⟩
          have wv : w' (1 + g) = b := by rw [hww]; exact if_pos rfl
          have wo : ∀ i, i ≠ 1 + g → w' i = M.2.1 140 i := fun i hi => by rw [hww]; exact if_neg hi
          have hW' : WG w' G P E C := by
            obtain ⟨⟨d, d1, d2⟩, g3, g4, g5⟩ := hw
            refine ⟨⟨d, d1, by rw [wo 0 (by omega)]; exact d2⟩, fun g' hg' => ?_, fun e' he' => ?_, fun c hc' => ?_⟩
            · by_cases z : g' = g
              · subst z
                rw [wv]
                rcases hb01 with z | z
                · exact Or.inl z
                · exact Or.inr ⟨hg, z⟩
              · rw [wo _ (by omega)]; exact g3 g' hg'
            · have : LF w' e' = LF (M.2.1 140) e' := by unfold LF; rw [wo _ (by omega)]
              rw [this, wo _ (by omega)]
              exact g4 e' he'
            · have t1 : atS w' c = atS (M.2.1 140) c := by unfold atS; rw [wo _ (by omega)]
              have t2 : gaS w' c = gaS (M.2.1 140) c := by unfold gaS; rw [wo _ (by omega)]
              rw [t1, t2, wo _ (by omega), wo _ (by omega), wo _ (by omega)]
              exact g5 c hc'
          have eup : upF w' G = upF (M.2.1 140) G ^^^ 2 ^ g := by
            have bit : ∀ q', q' < 6 → upb (upF w' G) q' = upb (upF (M.2.1 140) G ^^^ 2 ^ g) q' := fun q' hq' => by
              rw [upb_xor _ hup g hg6 q' hq']
              have u1 := upb_w hW' hb.1 hq'
              have u2 := upb_w hw hb.1 hq'
              by_cases z : q' = g
              · subst z
                rw [if_pos rfl]
                rw [wv] at u1
                rcases w01 hw hg6 with z0 | z0
                · have hb1 : b = 1 := hb01.resolve_left (fun y => q (by rw [z0, y]))
                  rw [u1.mpr hb1]
                  have : upb (upF (M.2.1 140) G) q' = false := Bool.eq_false_iff.mpr (fun y => by have := u2.mp y; rw [z0] at this; exact absurd this (by decide))
                  rw [this]; rfl
                · have hb0 : b = 0 := hb01.resolve_right (fun y => q (by rw [z0, y]))
                  rw [u2.mpr z0]
                  exact Bool.eq_false_iff.mpr (fun y => by have := u1.mp y; rw [hb0] at this; exact absurd this (by decide))
              · rw [if_neg z]
                rw [wo _ (by omega)] at u1
                by_cases y : M.2.1 140 (1 + q') = 1
                · rw [u1.mpr y, u2.mpr y]
                · rw [Bool.eq_false_iff.mpr (fun t => y (u1.mp t)), Bool.eq_false_iff.mpr (fun t => y (u2.mp t))]
            exact upb_ext _ (upF_lt64 hb.1) _ x2 ⟨bit 0 (by decide), bit 1 (by decide), bit 2 (by decide), bit 3 (by decide), bit 4 (by decide), bit 5 (by decide)⟩
          refine (h.act1 (a0 := 54) (k0 := 1) (x := x) (k1 := 1 + g) (y := b) (w' := w') a2 a3 a4 a5 a6 ⟨by decide, by decide⟩ (by omega) (by omega) b2 b3 b4 b5 hww hW' ⟨?_, ?_, fun e' he' => ?_, fun c hc' => ?_⟩).inv
          · rw [if_neg (by omega), wo _ (by omega)]; exact hV.1
          · rw [if_pos ⟨rfl, rfl⟩, eup, hx]
          · rw [if_neg (by omega), wo _ (by omega)]; exact hV.2.2.1 e' he'
          · rw [if_neg (by omega), if_neg (by omega), if_neg (by omega), wo _ (by omega), wo _ (by omega), wo _ (by omega)]
            exact hV.2.2.2 c hc'
    · exact bad (fun z => qb z.2.1)
  · exact bad (fun z => hna z.1)
end ACD
