/-! WHAT TELLS MOST: both -/
section TL2
variable {M N : sMem} {D Do G P E C W k e c g m s n pc pn l r sc : Nat} {c0 c1 c2 : List Nat} {w : Nat → Int32} {u : Nat → Nat → Int32} {sm sg sf : Nat → Nat}
theorem itr_1 {α β : Type} {f : α → Option (α ⊕ β)} {a : α} {b : β} (h : f a = some (.inr b)) : sItr f sFuel a = some b := itr_mono (n := 1) (itr_e h) (by rw [sFuel_v]; omega)
/-- the reference's best -/
theorem r_best {fit : Nat → Bool} (hR : RV u N) (hu : DU u G P E C W c0 c1 c2) (hw : WG w G P E C) (h140 : ∀ i, i < 27 → N.2.1 140 i = w i) (h144 : ∀ g m, g < G → m < 200 → N.2.1 144 (200 * g + m) = bI (anS u c0 E (LF w) e g m = true)) (h154 : ∀ l, l < 100 → N.2.1 154 l = bI (fit l = true)) (h83 : N.2.1 94 83 = nI (flS fit 100).length) (he : e < E) (h0 : (flS fit 100).length ≠ 0) {F : Nat → Nat → Nat} (hF : F = fun g m => mxF (flS fit 100).length ((flS fit 100).countP fun l => cbS u c0 E (LF w) (upF w G) e l g m)) (v2 : Int32) : ∃ N', f_X12_tells_L38 94 (nI e) v2 (-1) (-1) 0 0 N = f_X12_tells_B114 v2 (j3 (alB F G 200)) (j4 (alB F G 200)) (j5 (alB F G 200)) N' ∧ Fr pSh qR2 N N' := by
  have hs := hR.1
  have hb := hu.2.1
  have hle := flS_le fit 100
  have hFb : ∀ g m, F g m ≤ 100 := fun g m => by
    have := List.countP_le_length (p := fun l => cbS u c0 E (LF w) (upF w G) e l g m) (l := flS fit 100)
    rw [hF]; dsimp only; unfold mxF; split <;> omega
  unfold f_X12_tells_L38
  obtain ⟨b, b1, b2, b3⟩ := itr_g (f := fun a : (Int32 × Int32 × Int32 × Int32 × sMem) => f_X12_tells_K38 94 (nI e) v2 a.1 a.2.1 a.2.2.1 a.2.2.2.1 a.2.2.2.2) (fun m (s : Bst × sMem) => (j3 s.1, j4 s.1, j5 s.1, nI m, s.2)) (fun m s => s.1 = alB F G m ∧ GBs s.1 ∧ Fr pSh qR2 N s.2) (fun b => (b.1, b.2.1, b.2.2.1) = (j3 (alB F G 200), j4 (alB F G 200), j5 (alB F G 200)) ∧ Fr pSh qR2 N b.2.2.2) 200 (by decide) (by
    rintro m ⟨s, N1⟩ hm ⟨rfl, hgb, i1⟩
    dsimp only at hgb i1 ⊢
    have hs1 := i1.hs hs
    unfold f_X12_tells_K38
    by_cases q : m = 200
    · right
      subst q
      rw [if_pos (by decide)]
      exact ⟨_, rfl, rfl, i1⟩
    · left
      rw [if_neg (show ¬ (200 : Int32) ≤ nI m from fun z => by rw [show (200 : Int32) = nI 200 from rfl, cle (by decide) (by omega)] at z; omega), gi94 hs1, Option.bind_some, i1.i rfl, h83, if_neg (show ¬ nI (flS fit 100).length ≤ (0 : Int32) from fun z => by rw [show (0 : Int32) = nI 0 from rfl, cle (by omega) (by decide)] at z; omega)]
      unfold f_X12_tells_L56
      obtain ⟨b, d1, d2, d3, d4⟩ := itr_g (f := fun a : (Int32 × Int32 × Int32 × Int32 × sMem) => f_X12_tells_K56 94 (nI e) v2 (nI m) a.1 a.2.1 a.2.2.1 a.2.2.2.1 a.2.2.2.2) (fun g (s : Bst × sMem) => (j3 s.1, j4 s.1, j5 s.1, nI g, s.2)) (fun g s => s.1 = rwB F m (alB F G m) g ∧ GBs s.1 ∧ Fr pSh qR2 N s.2) (fun b => (b.1, b.2.1, b.2.2.1) = (j3 (alB F G (m + 1)), j4 (alB F G (m + 1)), j5 (alB F G (m + 1))) ∧ GBs (alB F G (m + 1)) ∧ Fr pSh qR2 N b.2.2.2) G (by omega) (by
        rintro g ⟨s, N2⟩ hg ⟨rfl, hgs, i2⟩
        dsimp only at hgs i2 ⊢
        have hs2 := i2.hs hs
        have R2 : RV u N2 := hR.fr i2 (fun a k h1 h2 => sh_154 (by omega))
        have eG : f_X12_gateMany 94 N2 = some (nI G) := by rw [(r_many R2.1).1, R2.2 131 5 (by decide) (by decide), hu.1.1]
        unfold f_X12_tells_K56
        rw [eG, Option.bind_some]
        by_cases q : g = G
        · right
          subst q
          rw [if_pos (nI_le (Nat.le_refl _) (by omega))]
          exact ⟨_, rfl, rfl, hgs, i2⟩
        · left
          have hg' : g < G := by omega
          obtain ⟨N3, n1, n2⟩ := r_alike (e := e) (w := w) (g := g) (m := m) (fit := fit) R2 hu hw (fun x hx => by rw [i2.i (sh_154 (by decide))]; exact h140 x hx) (fun g m hg hm => by rw [i2.i (sh_154 (by decide))]; exact h144 g m hg hm) (fun l hl => by rw [i2.i (sh_154 (by decide))]; exact h154 l hl) (by rw [i2.i rfl]; exact h83) he hg' (by omega)
          have eF : mxF (flS fit 100).length ((flS fit 100).countP fun l => cbS u c0 E (LF w) (upF w G) e l g m) = F g m := by rw [hF]
          rw [eF] at n1
          refine ⟨hg', (stB F m g (rwB F m (alB F G m) g), N3), ?_, rfl, hgs.st (by omega) (by omega) (hFb g m), i2.tr n2⟩
          rw [if_neg (nI_ge (by omega) (by omega)), n1]
          dsimp only [Option.bind_some]
          unfold f_X12_tells_B91 f_X12_tells_B102
          rw [nI_1]
          have hFb' := hFb g m
          generalize hs0 : rwB F m (alB F G m) g = s at hgs ⊢
          match s, hgs with
          | none, _ => rw [if_pos (show j3 none = -1 from rfl)]; rfl
          | some (a, b, c), hgs =>
            obtain ⟨g1, g2, g3⟩ := hgs a b c rfl
            rw [if_neg (show ¬ j3 (some (a, b, c)) = -1 from fun z => by
              have z2 : nI a = mI := z
              rw [cneg (by omega)] at z2; exact z2)]
            show (if nI (F g m) < nI c then some (Sum.inl (nI m, nI g, nI (F g m), nI (g + 1), N3)) else some (Sum.inl (nI a, nI b, nI c, nI (g + 1), N3))) = some (Sum.inl (j3 (if F g m < c then some (m, g, F g m) else some (a, b, c)), j4 (if F g m < c then some (m, g, F g m) else some (a, b, c)), j5 (if F g m < c then some (m, g, F g m) else some (a, b, c)), nI (g + 1), N3))
            by_cases y : F g m < c
            · rw [if_pos ((clt (by omega) (by omega)).mpr y), if_pos y]; rfl
            · rw [if_neg (fun z => y ((clt (by omega) (by omega)).mp z)), if_neg y]; rfl) (i := 0) (s := (alB F G m, N1)) (by omega) ⟨rfl, hgb, i1⟩
      obtain ⟨x3, x4, x5, N3⟩ := b
      dsimp only at d2 d4
      cases d2
      refine ⟨by omega, (alB F G (m + 1), N3), ?_, rfl, d3, d4⟩
      replace d1 : sItr (fun a : (Int32 × Int32 × Int32 × Int32 × sMem) => f_X12_tells_K56 94 (nI e) v2 (nI m) a.1 a.2.1 a.2.2.1 a.2.2.2.1 a.2.2.2.2) sFuel (j3 (alB F G m), j4 (alB F G m), j5 (alB F G m), 0, N1) = some (j3 (alB F G (m + 1)), j4 (alB F G (m + 1)), j5 (alB F G (m + 1)), N3) := d1
      rw [d1, Option.bind_some]
      unfold f_X12_tells_B108
      rw [nI_1]) (i := 0) (s := (none, N)) (by decide) ⟨rfl, fun a b c z => absurd z (by simp), Fr.rf⟩
  obtain ⟨x3, x4, x5, N3⟩ := b
  dsimp only at b2 b3
  cases b2
  replace b1 : sItr (fun a : (Int32 × Int32 × Int32 × Int32 × sMem) => f_X12_tells_K38 94 (nI e) v2 a.1 a.2.1 a.2.2.1 a.2.2.2.1 a.2.2.2.2) sFuel (-1, -1, 0, 0, N) = some (j3 (alB F G 200), j4 (alB F G 200), j5 (alB F G 200), N3) := b1
  rw [b1]
  exact ⟨N3, rfl, b3⟩
theorem d6 : ∀ k, k < 1200 → nI k / (6 : Int32) = nI (k / 6) ∧ nI k - nI k / (6 : Int32) * (6 : Int32) = nI (k % 6) := by decide +kernel
theorem ok_tells (h : IX M D Do G P E C W c0 c1 c2 n pc pn) (a x : Int32) : ∃ r M1 M2, f_X11_tells 0 a x M = some (r, M1) ∧ f_X12_tells 94 a x M1 = some (r, M2) ∧ Inv M2 := by
  have k := h.1
  have hc := k.hc
  have hb := k.n.2
  have hl : 187 ≤ M.1.length := k.cv.ln
  have e0 : (0 : Int32).toInt = 0 := rfl
  have e2 : (2 : Int32).toInt = 2 := rfl
  have f0 : (0 : Int64).toInt = 0 := rfl
  have f2 : (2 : Int64).toInt = 2 := rfl
  have bad : ¬ ((0 ≤ a.toInt ∧ a.toInt < (E : Int)) ∧ 0 ≤ x.toInt ∧ x.toInt ≤ 2) → ∃ r M1 M2, f_X11_tells 0 a x M = some (r, M1) ∧ f_X12_tells 94 a x M1 = some (r, M2) ∧ Inv M2 := fun hn => by
    refine ⟨-1, M, M, ?_, ?_, h.inv⟩
    · unfold f_X11_tells
      simp only [sr0 hc, k.cv.p0, k.cv.g4, k.tE, Option.bind_some]
      by_cases q : 0 ≤ a.toInt ∧ a.toInt < (E : Int)
      · rw [if_neg (bI_y q)]
        by_cases q1 : x < 0
        · rw [if_pos q1]
        · rw [if_neg q1]
          have q1' := le_i.mp (Int32.not_lt.mp q1)
          rw [if_neg (fun z => hn ⟨q, by have := le_i.mp z; omega⟩)]
      · rw [if_pos (bI_0.mpr q)]
    · unfold f_X12_tells
      simp only [sr94 k.1, k.rE, isIn_of, i64, Option.bind_some]
      by_cases q : 0 ≤ a.toInt ∧ a.toInt < (E : Int)
      · rw [if_neg (bI_y q), if_pos (bI_0.mpr (fun z => hn ⟨q, by omega⟩))]
      · rw [if_pos (bI_0.mpr q)]
  rcases arg_c a E (by omega) with ⟨e, he, rfl⟩ | hn
  · by_cases qx : 0 ≤ x.toInt ∧ x.toInt ≤ 2
    · have he1 := inR he (show E < 2147483648 by omega)
      have x1 : ¬ x < 0 := fun z => by have := lt_i.mp z; omega
      have x2 : x ≤ 2 := le_i.mpr (by omega)
      obtain ⟨sc, sm, sg, sf, hS⟩ := h.2.2.2.1.fn hb.1
      obtain ⟨N1, a1, a2, a3, a4, a5⟩ := c_finds k hS he
      obtain ⟨k1, eu⟩ := k.cls a2 a3
      have hl1 : 187 ≤ N1.1.length := k1.cv.ln
      have e140 : N1.2.1 140 = M.2.1 140 := funext fun k => a2.i (by omega) rfl
      obtain ⟨fit, hfit⟩ : ∃ fit, fit = fitS (fun l g m => cbS (uR M) c0 E (LF (M.2.1 140)) (upF (M.2.1 140) G) e l g m) sc sm sg sf := ⟨_, rfl⟩
      rw [← hfit] at a1 a5
      have hle := flS_le fit 100
      obtain ⟨N2, b1, b2, b3, b4⟩ := c_countS (fl := flS fit 100) k1 he hle (fun i hi => by
        rw [List.getD_eq_getElem?_getD, List.getElem?_eq_getElem hi]
        exact (flS_mem (List.getElem_mem hi)).1) a5 (by rw [eu, e140]; exact a4)
      rw [eu, e140] at b4
      rw [eu] at b3
      have F2 : FrB scC scQ rRow M N2 := a2.tr b2
      obtain ⟨k2, eu2⟩ := k.cls F2 b3
      have e140' : N2.2.1 140 = M.2.1 140 := funext fun k => F2.i (by omega) rfl
      have hS2 : SnS N2 G sc sm sg sf := by
        obtain ⟨s1, s2, s3, s4⟩ := hS
        refine ⟨s1, by rw [F2.i (by omega) rfl]; exact s2, by rw [F2.i (by omega) rfl]; exact s3, fun i hi => ?_⟩
        rw [F2.i (by omega) rfl, F2.i (by omega) rfl, F2.i (by omega) rfl, F2.i (by omega) rfl, F2.i (by omega) rfl, F2.i (by omega) rfl]
        exact s4 i hi
      obtain ⟨N3, d1, d2, d3, d4, d5⟩ := r_fits k2 hS2 he (fit := fit) (by rw [eu2, e140']; exact hfit)
      rw [eu2, e140'] at d5
      have hs3 := d2.hs k2.1
      have hu2 := k2.2.1
      rw [eu2] at hu2
      have hR3 : RV (uR M) N3 := by
        have := (RV_uR k2.1).fr d2 (fun a k h1 h2 => Bool.eq_false_iff.mpr (fun y => by unfold pFt pLay pSh at y; simp only [Bool.or_eq_true, Bool.and_eq_true, beq_iff_eq] at y; omega))
        rw [eu2] at this; exact this
      have hw := k.2.2.2.2.1.2
      by_cases h0 : (flS fit 100).length = 0
      · -- nothing fits
        refine ⟨-1, N2, N3, ?_, ?_, (h.q F2 b3 (d2.mono (fun _ _ z => ft_sc z) (fun _ _ z => r2_sc z))).inv⟩
        · unfold f_X11_tells f_X11_tells_L46
          simp only [sr0 hc, k.cv.p0, k.cv.g4, k.tE, Option.bind_some, bI_t he1, one0, if_false, if_neg x1, if_pos x2, a1, b1]
          rw [h0, itr_1 (f := fun a : (Int32 × Int32 × Int32) => f_X11_tells_K46 0 x (nI 0) a.1 a.2.1 a.2.2 N2) (b := (-1, nI 0)) (by dsimp only; unfold f_X11_tells_K46; rw [if_pos (by decide)])]
          rfl
        · unfold f_X12_tells f_X12_tells_L38
          simp only [sr94 k2.1, k2.rE, isIn_of, i64, Option.bind_some, bI_t he1, one0, if_false, d1]
          rw [if_neg (bI_y (by omega)), itr_1 (f := fun a : (Int32 × Int32 × Int32 × Int32 × sMem) => f_X12_tells_K38 94 (nI e) x a.1 a.2.1 a.2.2.1 a.2.2.2.1 a.2.2.2.2) (b := (-1, -1, 0, N3)) (by dsimp only; unfold f_X12_tells_K38; rw [if_neg (by decide), gi94 hs3, Option.bind_some, d4, h0, if_pos (by decide)])]
          rfl
      · obtain ⟨F, hF⟩ : ∃ F : Nat → Nat → Nat, F = fun g m => mxF (flS fit 100).length ((flS fit 100).countP fun l => cbS (uR M) c0 E (LF (M.2.1 140)) (upF (M.2.1 140) G) e l g m) := ⟨_, rfl⟩
        obtain ⟨q1, q2⟩ := c_best (f := fun g m => (flS fit 100).countP fun l => cbS (uR M) c0 E (LF (M.2.1 140)) (upF (M.2.1 140) G) e l g m) k2.cv hb.1 hle (fun g m hg hm => ⟨List.countP_le_length, b4 g m hg hm⟩) x h0
        rw [← hF] at q1 q2
        obtain ⟨N4, t1, t2⟩ := r_best (fit := fit) (w := M.2.1 140) (e := e) hR3 hu2 hw (fun i hi => by rw [d2.i rfl, e140']) d5 d3 d4 he h0 hF x
        have FF : Fr pFt qR2 N2 N4 := d2.tr (t2.mono (fun _ _ z => ft_sh z) (fun _ _ z => z))
        refine ⟨if k4 (alB F G 200) = -1 then -1 else if x = 0 then j3 (alB F G 200) else if x = 1 then j4 (alB F G 200) else j5 (alB F G 200), N2, N4, ?_, ?_, (h.q F2 b3 (FF.mono (fun _ _ z => ft_sc z) (fun _ _ z => r2_sc z))).inv⟩
        · unfold f_X11_tells
          simp only [sr0 hc, k.cv.p0, k.cv.g4, k.tE, Option.bind_some, bI_t he1, one0, if_false, if_neg x1, if_pos x2, a1, b1]
          rw [q1]
          unfold f_X11_tells_B142
          generalize alB F G 200 = s at q2 ⊢
          match s, q2 with
          | none, _ => rw [if_pos (show k4 none = -1 from rfl), if_pos (show k4 none = -1 from rfl)]
          | some (a, b, c), q2 =>
            obtain ⟨g1, g2, g3⟩ := q2 a b c rfl
            have hne : ¬ k4 (some (a, b, c)) = -1 := fun z => by
              have z2 : nI (6 * a + b) = mI := z
              rw [cneg (by omega)] at z2; exact z2
            rw [if_neg hne, if_neg hne]
            show (if x = 0 then some (nI (6 * a + b) / 6, N2) else if x = 1 then some (nI (6 * a + b) - nI (6 * a + b) / 6 * 6, N2) else some (nI c, N2)) = some (if x = 0 then nI a else if x = 1 then nI b else nI c, N2)
            rw [(d6 (6 * a + b) (by omega)).2, (d6 (6 * a + b) (by omega)).1, show (6 * a + b) / 6 = a by omega, show (6 * a + b) % 6 = b by omega]
            by_cases y0 : x = 0
            · rw [if_pos y0, if_pos y0]
            · rw [if_neg y0, if_neg y0]
              by_cases y1 : x = 1
              · rw [if_pos y1, if_pos y1]
              · rw [if_neg y1, if_neg y1]
        · unfold f_X12_tells
          simp only [sr94 k2.1, k2.rE, isIn_of, i64, Option.bind_some, bI_t he1, one0, if_false, d1]
          rw [if_neg (bI_y (by omega)), t1]
          unfold f_X12_tells_B114
          generalize alB F G 200 = s at q2 ⊢
          match s, q2 with
          | none, _ => rw [if_pos (show j3 none = -1 from rfl), if_pos (show k4 none = -1 from rfl)]
          | some (a, b, c), q2 =>
            obtain ⟨g1, g2, g3⟩ := q2 a b c rfl
            have hne : ¬ k4 (some (a, b, c)) = -1 := fun z => by
              have z2 : nI (6 * a + b) = mI := z
              rw [cneg (by omega)] at z2; exact z2
            have hne2 : ¬ j3 (some (a, b, c)) = -1 := fun z => by
              have z2 : nI a = mI := z
              rw [cneg (by omega)] at z2; exact z2
            rw [if_neg hne, if_neg hne2]
            by_cases y0 : x = 0
            · rw [if_pos y0, if_pos y0]
            · rw [if_neg y0, if_neg y0]
              by_cases y1 : x = 1
              · rw [if_pos y1, if_pos y1]
              · rw [if_neg y1, if_neg y1]
    · exact bad (fun z => qx z.2)
  · exact bad (fun z => hn z.1)
end TL2
