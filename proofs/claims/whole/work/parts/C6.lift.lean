/-! QUERIES: lift -/
theorem and64 : ∀ a, a < 64 → ∀ b, b < 64 → (nI a &&& nI b) = nI (a &&& b) ∧ (a &&& b) < 64 := by decide +kernel
theorem or64 : ∀ a, a < 64 → ∀ b, b < 64 → (nI a ||| nI b) = nI (a ||| b) ∧ (a ||| b) < 64 := by decide +kernel
theorem pow6 : ∀ G, G ≤ 6 → ((1 : Int32) <<< (nI G &&& 31)) = nI (2 ^ G) ∧ 2 ^ G ≤ 64 := by decide +kernel
theorem pcn_le : ∀ G, G ≤ 6 → ∀ s, s < 2 ^ G → pcn s ≤ G := by decide +kernel
/-- a set of gates will do -/
def LfG (dv : Nat → Int32) (up m s : Nat) : Prop := s &&& up = 0 ∧ dv s ≠ mI ∧ ¬ nI m < dv s
def LfP (dv : Nat → Int32) (up m K : Nat) (r : Int32) : Prop := (r = mI ∧ ∀ s, s < K → ¬ LfG dv up m s) ∨ ∃ b, r = nI b ∧ b < K ∧ LfG dv up m b ∧ ∀ s, s < K → LfG dv up m s → pcn b < pcn s ∨ (pcn b = pcn s ∧ b ≤ s)
theorem LfP.un {dv : Nat → Int32} {up m K : Nat} {r r' : Int32} (h : LfP dv up m K r) (h' : LfP dv up m K r') : r = r' := by
  rcases h with ⟨h1, h2⟩ | ⟨b, b1, b2, b3, b4⟩
  · rcases h' with ⟨h1', _⟩ | ⟨b, b1, b2, b3, b4⟩
    · rw [h1, h1']
    · exact absurd b3 (h2 b b2)
  · rcases h' with ⟨h1', h2'⟩ | ⟨d, d1, d2, d3, d4⟩
    · exact absurd b3 (h2' b b2)
    · have x1 := b4 d d2 d3
      have x2 := d4 b b2 b3
      have : b = d := by omega
      rw [b1, d1, this]
section LFT
variable {M N : sMem} {D Do G P E C W k e c g m s n pc pn row : Nat} {c0 c1 c2 : List Nat} {w : Nat → Int32} {u : Nat → Nat → Int32} {cl : Nat → Nat → Bool}
/-- the class: one count -/
theorem c_least (h : KI M D G P E C W c0 c1 c2) (hcC : c < C) (hm : m < 200) {ct : Nat} (hct : ct ≤ 6) {dv : Nat → Int32} (hdv : dv = fun s => drvF (uR M) (clS (uR M) c0 G E (LF (M.2.1 140)) 99 (upF (M.2.1 140) G ||| s)) W P (mnS (uR M) c) (atS (M.2.1 140) c) (gaS (M.2.1 140) c)) :
    ∃ r N, f_X11_leastLift 0 (nI c) (nI m) (nI ct) M = some (r, N) ∧ FrB scC scQ rRow M N ∧ RowsI (uR M) N G c0 ∧ ((r = mI ∧ ∀ s, s < 2 ^ G → pcn s = ct → ¬ LfG dv (upF (M.2.1 140) G) m s) ∨ ∃ b, r = nI b ∧ b < 2 ^ G ∧ pcn b = ct ∧ LfG dv (upF (M.2.1 140) G) m b ∧ ∀ s, s < b → pcn s = ct → ¬ LfG dv (upF (M.2.1 140) G) m s) := by
  have hc := h.hc
  have hb := h.n.2
  have hu := h.2.1
  obtain ⟨hV, hw⟩ := h.2.2.2.2.1
  have hup : upF (M.2.1 140) G < 64 := upF_lt64 hb.1
  obtain ⟨p1, p2⟩ := pow6 G hb.1
  have hmn := hu.car hcC
  unfold f_X11_leastLift f_X11_leastLift_L3
  rw [sr0 hc]
  obtain ⟨b, b1, b2⟩ := itr_up (f := fun a : (Int32 × sMem) => f_X11_leastLift_K3 0 (nI c) (nI m) (nI ct) a.1 a.2) (fun i N => FrB scC scQ rRow M N ∧ RowsI (uR M) N G c0 ∧ ∀ s, s < i → pcn s = ct → ¬ LfG dv (upF (M.2.1 140) G) m s) (fun b => FrB scC scQ rRow M b.2 ∧ RowsI (uR M) b.2 G c0 ∧ ((b.1 = mI ∧ ∀ s, s < 2 ^ G → pcn s = ct → ¬ LfG dv (upF (M.2.1 140) G) m s) ∨ ∃ x, b.1 = nI x ∧ x < 2 ^ G ∧ pcn x = ct ∧ LfG dv (upF (M.2.1 140) G) m x ∧ ∀ s, s < x → pcn s = ct → ¬ LfG dv (upF (M.2.1 140) G) m s)) (2 ^ G) (by omega) (by
    rintro i N hi ⟨i1, i2, i3⟩
    dsimp only
    obtain ⟨kN, eu⟩ := h.cls i1 i2
    have hl : 187 ≤ M.1.length := h.cv.ln
    have e140 : N.2.1 140 = M.2.1 140 := funext fun k => i1.i (by omega) rfl
    have hcN := kN.hc
    have hVN := kN.2.2.2.2.1.1
    rw [e140] at hVN
    unfold f_X11_leastLift_K3 f_X11_leastLift_B104 f_X11_leastLift_B119
    rw [kN.cv.p0, Option.bind_some, kN.cv.g1, Option.bind_some, kN.cv.nG, Option.bind_some, p1]
    by_cases q : 2 ^ G ≤ i
    · right
      rw [if_pos (by rw [cle (by omega) (by omega)]; exact q)]
      exact ⟨_, rfl, i1, i2, Or.inl ⟨rfl, fun s hs => i3 s (by omega)⟩⟩
    · rw [if_neg (by rw [cle (by omega) (by omega)]; exact q), bc_of (show i < 64 by omega), Option.bind_some, nI_1]
      have hpi : pcn i ≤ 6 := Nat.le_trans (pcn_le G hb.1 i (by omega)) hb.1
      have skip : ∀ N', FrB scC scQ rRow M N' → RowsI (uR M) N' G c0 → ¬ (pcn i = ct ∧ LfG dv (upF (M.2.1 140) G) m i) → (FrB scC scQ rRow M N' ∧ RowsI (uR M) N' G c0 ∧ ∀ s, s < i + 1 → pcn s = ct → ¬ LfG dv (upF (M.2.1 140) G) m s) := fun N' h1 h2 h3 => ⟨h1, h2, fun s hs hp hg => by
        by_cases w : s = i
        · subst w; exact h3 ⟨hp, hg⟩
        · exact i3 s (by omega) hp hg⟩
      by_cases q1 : pcn i = ct
      · rw [if_pos (by rw [q1]), gr0_4 hcN, Option.bind_some, gi54 hcN, Option.bind_some, hVN.2.1, (and64 i (by omega) _ hup).1]
        by_cases q2 : i &&& upF (M.2.1 140) G = 0
        · rw [if_pos (by rw [q2]; rfl), gr0_9 hcN, Option.bind_some, gr67_1 hcN, Option.bind_some, Option.bind_some, Option.bind_some, gi54 hcN, Option.bind_some, hVN.2.1, gr0_11 hcN, Option.bind_some, (or64 _ hup i (by omega)).1]
          obtain ⟨N1, a1, a2, a3, a4⟩ := c_close (s := 54) (up := upF (M.2.1 140) G ||| i) (but := 99) (into := 88) (L := LF (M.2.1 140)) kN.cv kN.2.1 kN.2.2.2.1.1 (StS54 hcN) (Or.inl rfl) (fun e he => by rw [hVN.2.2.1 e he]; exact hw.2.2.1 e he) (or64 _ hup i (by omega)).2 (Or.inl rfl) (Or.inr rfl)
          rw [eu] at a3 a4
          have fN1 : FrB scC scQ rRow M N1 := i1.tr (a2.mono (fun _ _ z => row_sc z) (fun _ _ z => cl_sc z) (fun _ _ z => z))
          obtain ⟨k1, eu1⟩ := h.cls fN1 a3
          have hc1 := k1.hc
          have e1 : N1.2.1 140 = M.2.1 140 := funext fun k => fN1.i (by omega) rfl
          have hV1 := k1.2.2.2.2.1.1
          rw [e1] at hV1
          obtain ⟨N2, n1, n2⟩ := c_arrF (row := 88) (m := mnS (uR M) c) (cl := clS (uR M) c0 G E (LF (M.2.1 140)) 99 (upF (M.2.1 140) G ||| i)) (w := M.2.1 140) k1.cv k1.2.1 (StS54 hc1) (Or.inl rfl) hV1 hw (a2.sh (cs88 hcN)) a4 hcC (by omega)
          have fN2 : FrB scC scQ rRow M N2 := fN1.tr (n2.fb.mono (fun _ _ z => go_sc z) (fun _ _ _ => rfl) (fun _ _ z => z))
          have hR2 : RowsI (uR M) N2 G c0 := a3.fr hc1 (n2.fb (R := fun _ _ => false)) (fun _ => rfl) (fun _ _ _ => rfl) (fun _ => rfl)
          have ecell : f_X9_cell (D + 13) (nI c) 2 N1 = some (nI (mnS (uR M) c)) := by
            have := k1.cv.cC k1.2.1 hcC (j := 2) (by decide)
            rw [eu1, show 15 + 3 * c + 2 = 17 + 3 * c by omega, hmn.1] at this
            exact this
          have edv : drvF (uR N1) (clS (uR M) c0 G E (LF (M.2.1 140)) 99 (upF (M.2.1 140) G ||| i)) W P (mnS (uR M) c) (atS (M.2.1 140) c) (gaS (M.2.1 140) c) = dv i := by rw [hdv, eu1]
          rw [show (-1 : Int32) = bI0 99 from rfl, a1, Option.bind_some, gr0_9 hc1, Option.bind_some, gr0_4 hc1, Option.bind_some, k1.cv.p0, Option.bind_some, k1.cv.g5, Option.bind_some, ecell, Option.bind_some, gr0_11 hc1, Option.bind_some, n1]
          dsimp only [Option.bind_some]
          rw [edv]
          by_cases q3 : dv i = mI
          · left
            rw [if_pos (show dv i = bI0 99 from q3)]
            exact ⟨by omega, N2, rfl, skip N2 fN2 hR2 (fun z => z.2.2.1 q3)⟩
          · rw [if_neg (show ¬ dv i = bI0 99 from q3)]
            by_cases q4 : nI m < dv i
            · left
              rw [if_pos q4]
              exact ⟨by omega, N2, rfl, skip N2 fN2 hR2 (fun z => z.2.2.2 q4)⟩
            · right
              rw [if_neg q4]
              exact ⟨_, rfl, fN2, hR2, Or.inr ⟨i, rfl, by omega, q1, ⟨q2, q3, q4⟩, i3⟩⟩
        · left
          rw [if_neg (show ¬ nI (i &&& upF (M.2.1 140) G) = (0 : Int32) from fun z => q2 ((nI_eq (Nat.lt_trans (and64 i (by omega) _ hup).2 (by decide)) (by decide)).mp z))]
          exact ⟨by omega, N, rfl, skip N i1 i2 (fun z => q2 z.2.1)⟩
      · left
        rw [if_neg (fun z => q1 ((nI_eq (by omega) (by omega)).mp z))]
        exact ⟨by omega, N, rfl, skip N i1 i2 (fun z => q1 z.1)⟩) (i := 0) (s := M) (Nat.zero_le _) ⟨FrB.rf, h.2.2.2.1.1, fun s hs => by omega⟩
  replace b1 : sItr (fun a : (Int32 × sMem) => f_X11_leastLift_K3 0 (nI c) (nI m) (nI ct) a.1 a.2) sFuel (0, M) = some b := b1
  rw [b1, Option.bind_some]
  exact ⟨b.1, b.2, rfl, b2⟩
theorem c_lift (h : KI M D G P E C W c0 c1 c2) (hcC : c < C) (hm : m < 200) {dv : Nat → Int32} (hdv : dv = fun s => drvF (uR M) (clS (uR M) c0 G E (LF (M.2.1 140)) 99 (upF (M.2.1 140) G ||| s)) W P (mnS (uR M) c) (atS (M.2.1 140) c) (gaS (M.2.1 140) c)) :
    ∃ r N, f_X11_lift_L25 0 (nI c) (nI m) 0 M = some (r, N) ∧ FrB scC scQ rRow M N ∧ RowsI (uR M) N G c0 ∧ LfP dv (upF (M.2.1 140) G) m (2 ^ G) r := by
  have hb := h.n.2
  unfold f_X11_lift_L25
  obtain ⟨b, b1, b2⟩ := itr_up (f := fun a : (Int32 × sMem) => f_X11_lift_K25 0 (nI c) (nI m) a.1 a.2) (fun i N => FrB scC scQ rRow M N ∧ RowsI (uR M) N G c0 ∧ ∀ s, s < 2 ^ G → pcn s < i → ¬ LfG dv (upF (M.2.1 140) G) m s) (fun b => FrB scC scQ rRow M b.2 ∧ RowsI (uR M) b.2 G c0 ∧ LfP dv (upF (M.2.1 140) G) m (2 ^ G) b.1) (G + 1) (by omega) (by
    rintro i N hi ⟨i1, i2, i3⟩
    dsimp only
    obtain ⟨kN, eu⟩ := h.cls i1 i2
    have hl : 187 ≤ M.1.length := h.cv.ln
    have e140 : N.2.1 140 = M.2.1 140 := funext fun k => i1.i (by omega) rfl
    unfold f_X11_lift_K25
    rw [kN.cv.p0, Option.bind_some, kN.cv.g1, Option.bind_some, kN.cv.nG, Option.bind_some]
    by_cases q : G < i
    · right
      rw [if_pos (by rw [clt (by omega) (by omega)]; exact q)]
      exact ⟨_, rfl, i1, i2, Or.inl ⟨rfl, fun s hs => i3 s hs (by have := pcn_le G hb.1 s hs; omega)⟩⟩
    · rw [if_neg (by rw [clt (by omega) (by omega)]; exact q)]
      obtain ⟨r, N', r1, r2, r3, r4⟩ := c_least kN hcC hm (ct := i) (by omega) (dv := dv) (by rw [hdv, eu, e140])
      rw [eu] at r3
      rw [e140] at r4
      rw [r1]
      dsimp only [Option.bind_some]
      rcases r4 with ⟨r4, r5⟩ | ⟨x, x1, x2, x3, x4, x5⟩
      · left
        rw [if_pos (show r = -1 from r4), nI_1]
        refine ⟨by omega, N', rfl, i1.tr r2, r3, fun s hs hp => ?_⟩
        by_cases w : pcn s = i
        · exact r5 s hs w
        · exact i3 s hs (by omega)
      · right
        have p2 := (pow6 G hb.1).2
        rw [if_neg (show ¬ r = -1 from fun z => by
          rw [x1] at z
          have z2 : nI x = mI := z
          rw [cneg (by omega)] at z2; exact z2)]
        refine ⟨_, rfl, i1.tr r2, r3, Or.inr ⟨x, x1, x2, x4, fun s hs hg => ?_⟩⟩
        have y1 : ¬ pcn s < i := fun z => i3 s hs z hg
        by_cases w : pcn s = i
        · right
          refine ⟨by omega, ?_⟩
          rcases Nat.lt_or_ge s x with z | z
          · exact absurd hg (x5 s z w)
          · exact z
        · left; omega) (i := 0) (s := M) (by omega) ⟨FrB.rf, h.2.2.2.1.1, fun s hs hp => by omega⟩
  replace b1 : sItr (fun a : (Int32 × sMem) => f_X11_lift_K25 0 (nI c) (nI m) a.1 a.2) sFuel (0, M) = some b := b1
  rw [b1, Option.bind_some]
  exact ⟨b.1, b.2, rfl, b2⟩
theorem r_lift (hR : RV u M) (hu : DU u G P E C W c0 c1 c2) (hLd : Laid u M G E c0 (LF w)) (hw : WG w G P E C) (h140 : ∀ i, i < 27 → M.2.1 140 i = w i) (hcC : c < C) (hm : m < 200) {dv : Nat → Int32} (hdv : dv = fun s => drvF u (clS u c0 G E (LF w) 99 (upF w G ||| s)) W P (mnS u c) (atS w c) (gaS w c)) :
    ∃ r N, f_X12_lift_L32 94 (nI c) (nI m) (nI (upF w G)) (-1) 0 M = some (r, N) ∧ Fr pDr q0 M N ∧ LfP dv (upF w G) m (2 ^ G) r := by
  have hb := hu.2.1
  have hup : upF w G < 64 := upF_lt64 hb.1
  obtain ⟨p1, p2⟩ := pow6 G hb.1
  have hmn := hu.car hcC
  unfold f_X12_lift_L32
  obtain ⟨b, b1, b2⟩ := itr_g (f := fun a : (Int32 × Int32 × sMem) => f_X12_lift_K32 94 (nI c) (nI m) (nI (upF w G)) a.1 a.2.1 a.2.2) (fun i (s : Int32 × sMem) => (s.1, nI i, s.2)) (fun i s => Fr pDr q0 M s.2 ∧ LfP dv (upF w G) m i s.1) (fun b => Fr pDr q0 M b.2 ∧ LfP dv (upF w G) m (2 ^ G) b.1) (2 ^ G) (by omega) (by
    rintro i ⟨x, N⟩ hi ⟨i1, i2⟩
    dsimp only at i1 i2 ⊢
    have hRN : RV u N := hR.fr i1 (fun a k h1 h2 => beq_eq_false_iff_ne.mpr (by omega))
    have g140 : ∀ i, i < 27 → N.2.1 140 i = w i := fun i hi => by rw [i1.i rfl]; exact h140 i hi
    have eG : f_X12_gateMany 94 N = some (nI G) := by rw [(r_many hRN.1).1, hRN.2 131 5 (by decide) (by decide), hu.1.1]
    unfold f_X12_lift_K32
    rw [eG, Option.bind_some, p1]
    by_cases q : 2 ^ G ≤ i
    · right
      rw [if_pos (by rw [cle (by omega) (by omega)]; exact q)]
      exact ⟨_, rfl, i1, by rw [show 2 ^ G = i by omega]; exact i2⟩
    · left
      rw [if_neg (by rw [cle (by omega) (by omega)]; exact q), (and64 i (by omega) _ hup).1]
      refine ⟨by omega, ?_⟩
      -- nothing new
      have skip : ∀ N', Fr pDr q0 M N' → (¬ LfG dv (upF w G) m i ∨ ∃ b, x = nI b ∧ b < i ∧ LfG dv (upF w G) m b ∧ pcn b ≤ pcn i) → Fr pDr q0 M N' ∧ LfP dv (upF w G) m (i + 1) x := fun N' h1 h2 => by
        refine ⟨h1, ?_⟩
        rcases i2 with ⟨y1, y2⟩ | ⟨b, y1, y2, y3, y4⟩
        · rcases h2 with h2 | ⟨b, z1, z2, z3, _⟩
          · refine Or.inl ⟨y1, fun s hs => ?_⟩
            by_cases w : s = i
            · subst w; exact h2
            · exact y2 s (by omega)
          · exact absurd z3 (y2 b z2)
        · refine Or.inr ⟨b, y1, by omega, y3, fun s hs hg => ?_⟩
          by_cases w : s = i
          · subst w
            rcases h2 with h2 | ⟨b', z1, z2, z3, z4⟩
            · exact absurd hg h2
            · have : b = b' := (nI_eq (by omega) (by omega)).mp (y1.symm.trans z1)
              subst this
              omega
          · exact y4 s (by omega) hg
      -- it is tried
      have tried : i &&& upF w G = 0 → (∀ b, x = nI b → LfG dv (upF w G) m b → b < i → pcn i < pcn b) → ∃ s' : Int32 × sMem, f_X12_lift_B72 94 (nI c) (nI m) (nI (upF w G)) x (nI i) N = some (.inl (s'.1, nI (i + 1), s'.2)) ∧ Fr pDr q0 M s'.2 ∧ LfP dv (upF w G) m (i + 1) s'.1 := fun q2 hlt => by
        obtain ⟨N', ⟨n1, n2⟩, n3, n4⟩ := r_carD (up := upF w G ||| i) (m := mnS u c) (w := w) hRN hu (fun g m hg hm => by rw [i1.i rfl]; exact hLd g m hg hm) hw g140 (or64 _ hup i (by omega)).2 hcC (by omega)
        have edv : drvF u (clS u c0 G E (LF w) 99 (upF w G ||| i)) W P (mnS u c) (atS w c) (gaS w c) = dv i := by rw [hdv]
        have emn : f_X12_minuteOf 94 (nI c) N = some (nI (mnS u c)) := by rw [r_minuteOf hRN.1 (by omega), hRN.2 136 _ (by decide) (by decide), hmn.1]
        unfold f_X12_lift_B72 f_X12_lift_B113
        rw [n1, Option.bind_some, n2, Option.bind_some, emn, Option.bind_some, (or64 _ hup i (by omega)).1, n3]
        dsimp only [Option.bind_some]
        rw [edv, nI_1]
        by_cases q3 : dv i = mI
        · rw [if_pos (show dv i = -1 from q3)]
          exact ⟨(x, N'), rfl, skip N' (i1.tr n4) (Or.inl (fun z => z.2.1 q3))⟩
        · rw [if_neg (show ¬ dv i = -1 from q3)]
          by_cases q4 : nI m < dv i
          · rw [if_pos q4]
            exact ⟨(x, N'), rfl, skip N' (i1.tr n4) (Or.inl (fun z => z.2.2 q4))⟩
          · rw [if_neg q4]
            refine ⟨(nI i, N'), rfl, i1.tr n4, Or.inr ⟨i, rfl, by omega, ⟨q2, q3, q4⟩, fun s hs hg => ?_⟩⟩
            by_cases w : s = i
            · subst w; exact Or.inr ⟨rfl, Nat.le_refl _⟩
            · rcases i2 with ⟨y1, y2⟩ | ⟨b, y1, y2, y3, y4⟩
              · exact absurd hg (y2 s (by omega))
              · have z1 := hlt b y1 y3 y2
                have z2 := y4 s (by omega) hg
                left; omega
      by_cases q2 : i &&& upF w G = 0
      · rw [if_pos (by rw [q2]; rfl)]
        rcases i2 with ⟨y1, y2⟩ | ⟨b, y1, y2, y3, y4⟩
        · rw [if_pos (show x = -1 from y1)]
          exact tried q2 (fun b hb hg hl => absurd hg (y2 b hl))
        · have hne : ¬ x = -1 := fun z => by
            rw [y1] at z
            have z2 : nI b = mI := z
            rw [cneg (by omega)] at z2; exact z2
          have pb := pcn_le G hb.1 b (by omega)
          have pi := pcn_le G hb.1 i (by omega)
          rw [if_neg hne, bits_of (show i < 64 by omega), Option.bind_some, y1, bits_of (show b < 64 by omega), Option.bind_some, ← y1]
          by_cases q5 : pcn i < pcn b
          · rw [if_pos (by rw [clt (by omega) (by omega)]; exact q5)]
            exact tried q2 (fun b' hb' _ _ => by
              have : b = b' := by
                have hx : b' < 2147483648 := by omega
                exact (nI_eq (by omega) hx).mp (y1.symm.trans hb')
              rw [← this]; exact q5)
          · rw [if_neg (by rw [clt (by omega) (by omega)]; exact q5)]
            unfold f_X12_lift_B113
            rw [nI_1]
            exact ⟨(x, N), rfl, skip N i1 (Or.inr ⟨b, y1, y2, y3, by omega⟩)⟩
      · rw [if_neg (show ¬ nI (i &&& upF w G) = (0 : Int32) from fun z => q2 ((nI_eq (Nat.lt_trans (and64 i (by omega) _ hup).2 (by decide)) (by decide)).mp z))]
        unfold f_X12_lift_B113
        rw [nI_1]
        exact ⟨(x, N), rfl, skip N i1 (Or.inl (fun z => q2 z.1))⟩) (i := 0) (s := (-1, M)) (Nat.zero_le _) ⟨Fr.rf, Or.inl ⟨rfl, fun s hs => by omega⟩⟩
  replace b1 : sItr (fun a : (Int32 × Int32 × sMem) => f_X12_lift_K32 94 (nI c) (nI m) (nI (upF w G)) a.1 a.2.1 a.2.2) sFuel (-1, 0, M) = some b := b1
  rw [b1, Option.bind_some]
  exact ⟨b.1, b.2, rfl, b2⟩
theorem ok_lift (h : IX M D Do G P E C W c0 c1 c2 n pc pn) (a b : Int32) : ∃ r M1 M2, f_X11_lift 0 a b M = some (r, M1) ∧ f_X12_lift 94 a b M1 = some (r, M2) ∧ Inv M2 := by
  have k := h.1
  have hc := k.hc
  have hb := k.n.2
  have bad : ¬ ((0 ≤ a.toInt ∧ a.toInt < (C : Int)) ∧ 0 ≤ b.toInt ∧ b.toInt < ((200 : Nat) : Int)) → ∃ r M1 M2, f_X11_lift 0 a b M = some (r, M1) ∧ f_X12_lift 94 a b M1 = some (r, M2) ∧ Inv M2 := fun hn => by
    refine ⟨-1, M, M, ?_, ?_, h.inv⟩
    · unfold f_X11_lift
      simp only [sr0 hc, k.cv.p0, k.cv.g5, k.tC, c_isMin, Option.bind_some]
      by_cases q : 0 ≤ a.toInt ∧ a.toInt < (C : Int)
      · rw [if_neg (bI_y q), if_pos (bI_0.mpr (fun z => hn ⟨q, z⟩))]
      · rw [if_pos (bI_0.mpr q)]
    · unfold f_X12_lift
      simp only [sr94 k.1, k.rC, r_isMin, Option.bind_some]
      by_cases q : 0 ≤ a.toInt ∧ a.toInt < (C : Int)
      · rw [if_neg (bI_y q), if_pos (bI_0.mpr (fun z => hn ⟨q, z⟩))]
      · rw [if_pos (bI_0.mpr q)]
  rcases arg_c a C (by omega) with ⟨c, hcC, rfl⟩ | hn
  · rcases arg_c b 200 (by decide) with ⟨m, hm, rfl⟩ | hn
    · have he1 := inR hcC (show C < 2147483648 by omega)
      have hm1 := inR hm (show 200 < 2147483648 by decide)
      obtain ⟨_, hw⟩ := k.2.2.2.2.1
      obtain ⟨r, N1, a1, a2, a3, a4⟩ := c_lift k hcC hm (dv := _) rfl
      obtain ⟨k2, eu2⟩ := k.cls a2 a3
      have hl : 187 ≤ M.1.length := k.cv.ln
      have e2 : N1.2.1 140 = M.2.1 140 := funext fun k => a2.i (by omega) rfl
      obtain ⟨N2, b1, b2, b3⟩ := r_now k2
      have f140 : N2.2.1 140 = M.2.1 140 := by rw [← e2]; exact funext fun k => b2.i rfl
      have hRV : RV (uR M) N2 := by rw [← eu2]; exact (RV_uR k2.1).fr b2 (fun a k h1 h2 => sh_130 h1 (by omega))
      rw [e2, eu2] at b3
      obtain ⟨r', N3, d1, d2, d3⟩ := r_lift (w := M.2.1 140) hRV k.2.1 b3 hw (fun i _ => by rw [f140]) hcC hm (dv := _) rfl
      have eup : f_X12_upSet 94 N2 = some (nI (upF (M.2.1 140) G)) := by
        rw [r_upSet hRV.1 (by rw [hRV.2 131 5 (by decide) (by decide)]; exact k.2.1.1.1) hb.1, f140]
      have er : r' = r := d3.un a4
      refine ⟨r, N1, N3, ?_, ?_, (h.q a2 a3 ((lay_q b2).tr (dr_q d2))).inv⟩
      · unfold f_X11_lift
        simp only [sr0 hc, k.cv.p0, k.cv.g5, k.tC, c_isMin, Option.bind_some, bI_t he1, bI_t hm1, one0, if_false, a1]
      · unfold f_X12_lift
        simp only [sr94 k2.1, k2.rC, r_isMin, Option.bind_some, bI_t he1, bI_t hm1, one0, if_false, b1, eup, d1, er]
    · exact bad (fun z => hn z.2)
  · exact bad (fun z => hn z.1)
end LFT
