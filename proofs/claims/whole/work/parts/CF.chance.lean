/-! ACTS: chance -/
def lcg (v : Nat) : Nat := (1103515245 * v + 12345) % 2147483648
theorem lcg_lt (v : Nat) : lcg v < 2147483648 := Nat.mod_lt _ (by decide)
section ACF
variable {M N N1 N2 N3 N4 : sMem} {D Do G P E C W k e c g m s n pc pn kc d v : Nat} {c0 c1 c2 : List Nat} {w w' K K' : Nat → Int32} {u : Nat → Nat → Int32}
theorem nI_bv (x : Nat) : (nI x).toBitVec.toNat = x % 4294967296 := by
  show (Int32.ofNat x).toBitVec.toNat = _
  rw [Int32.toBitVec_ofNat']
  exact BitVec.toNat_ofNat x 32
theorem c_lcg (v : Nat) : ((1103515245 : Int32) * nI v + (12345 : Int32)) &&& (2147483647 : Int32) = nI (lcg v) := by
  rw [show (1103515245 : Int32) = nI 1103515245 from rfl, pk_mul, show (12345 : Int32) = nI 12345 from rfl, nI_add, pk_and _ 31 (by decide), nI_bv]
  unfold lcg
  rw [show 2 ^ 31 = 2147483648 by decide]
  exact congrArg nI (Nat.mod_mod_of_dvd _ ⟨2, rfl⟩)
theorem c_draw (hc : ClsS M.1 M.2.2.2) {of : Nat} (hof : 0 < of) (hof2 : of < 1000) (hv : M.2.1 0 19 = nI v) : f_X11_draw 0 (nI of) M = some (nI (lcg v / 64 % of), wrI M 0 19 (nI (lcg v))) := by
  have hl := lcg_lt v
  unfold f_X11_draw
  have hc2 : ClsS (wrI M 0 19 (nI (lcg v))).1 (wrI M 0 19 (nI (lcg v))).2.2.2 := hc
  rw [sr0 hc, gi0 hc, Option.bind_some, hv, c_lcg, pi0 hc, Option.bind_some, if_neg (by rw [show (0 : Int32) = nI 0 from rfl, cle (by omega) (by decide)]; omega), gi0 hc2, Option.bind_some, wrI_eq, if_neg (by rw [show (0 : Int32) = nI 0 from rfl, ceq (by omega) (by decide)]; omega), show (64 : Int32) = nI 64 from rfl, pk_div (by omega) (by decide) (by decide), pk_rem (by omega) hof (by omega)]
theorem r_draw (hs : RefS M.1 M.2.2.2) {of : Nat} (hof : 0 < of) (hof2 : of < 1000) (hv2 : v < 2147483648) (hv : M.2.2.1 94 87 = lN v) : f_X12_drawOf 94 (nI of) M = some (nI (lcg v / 64 % of), wrJ M 94 87 (lN (lcg v))) := by
  have hl := lcg_lt v
  unfold f_X12_drawOf
  have hs2 : RefS (wrJ M 94 87 (lN (lcg v))).1 (wrJ M 94 87 (lN (lcg v))).2.2.2 := hs
  have e1 : (1103515245 : Int64) * lN v + (12345 : Int64) = lN (1103515245 * v + 12345) := by
    rw [show (1103515245 : Int64) = lN 1103515245 from rfl, show (12345 : Int64) = lN 12345 from rfl]
    have h1 : (lN 1103515245 * lN v).toInt = 1103515245 * (v : Int) := by
      rw [Int64.toInt_mul, pk_lT (by decide), pk_lT (by omega)]
      exact b64 (by omega) (by omega)
    refine eq_j.mpr ?_
    rw [Int64.toInt_add, h1, pk_lT (by decide), pk_lT (by omega), b64 (by omega) (by omega)]
    omega
  have e3 : (lN (lcg v / 64 % of)).toInt32 = nI (lcg v / 64 % of) := by
    have hm := Nat.mod_lt (lcg v / 64) hof
    refine eq_i.mpr ?_
    rw [Int64.toInt_toInt32, pk_lT (by omega), nI_i (by omega)]
    exact Int.bmod_eq_of_le (by omega) (by omega)
  rw [sr94 hs, gj94 hs, Option.bind_some, hv, e1, show (2147483648 : Int64) = lN 2147483648 from rfl, pk_lRem (by omega) (by decide) (by decide), show (1103515245 * v + 12345) % 2147483648 = lcg v from rfl, pj94 hs, Option.bind_some, gj94 hs2, Option.bind_some, wrJ_eq, nI_l (by omega), if_neg (by rw [show (0 : Int64) = lN 0 from rfl, pk_lEQ (by omega) (by decide)]; omega), show (64 : Int64) = lN 64 from rfl, pk_lDiv (by omega) (by decide) (by decide), pk_lRem (by omega) hof (by omega), e3]
/-- a draw's turn: the seed, the state, whether pigs are out -/
def pgY (u : Nat → Nat → Int32) (E v : Nat) : Bool := decide (nI (lcg v / 64 % 100) < u 130 3 ∧ 0 < E)
def pgE (E v : Nat) : Nat := lcg (lcg v) / 64 % E
def pgW (E v : Nat) (w : Nat → Int32) (i : Nat) : Int32 := if i = 7 + pgE E v then nI (min 99 (LF w (pgE E v) + lcg (lcg (lcg v)) / 64 % 20)) else w i
def chV (u : Nat → Nat → Int32) (E v : Nat) : Nat := if pgY u E v = true then lcg (lcg (lcg v)) else lcg v
def chW (u : Nat → Nat → Int32) (E v : Nat) (w : Nat → Int32) : Nat → Int32 := if pgY u E v = true then pgW E v w else w
theorem chV_lt : chV u E v < 2147483648 := by unfold chV; split <;> exact lcg_lt _
theorem pgE_lt (hE : 0 < E) : pgE E v < E := Nat.mod_lt _ hE
theorem chW_ok (hw : WG w G P E C) (hE : E ≤ 5) : WG (chW u E v w) G P E C ∧ chW u E v w 0 = w 0 := by
  unfold chW
  by_cases q : pgY u E v = true
  · rw [if_pos q]
    have hE0 : 0 < E := by unfold pgY at q; exact (of_decide_eq_true q).2
    have he := pgE_lt (v := v) hE0
    obtain ⟨w', hww⟩ : ∃ w', w' = pgW E v w := ⟨_, rfl⟩
    have wv : w' (7 + pgE E v) = nI (min 99 (LF w (pgE E v) + lcg (lcg (lcg v)) / 64 % 20)) := by rw [hww]; exact if_pos rfl
    have wo : ∀ i, i ≠ 7 + pgE E v → w' i = w i := fun i hi => by rw [hww]; exact if_neg hi
    rw [← hww]
    obtain ⟨⟨d, d1, d2⟩, g3, g4, g5⟩ := hw
    refine ⟨⟨⟨d, d1, by rw [wo 0 (by omega)]; exact d2⟩, fun g hg => by rw [wo _ (by omega)]; exact g3 g hg, fun e' he' => ?_, fun c hc' => ?_⟩, wo 0 (by omega)⟩
    · by_cases z : e' = pgE E v
      · subst z
        have : LF w' (pgE E v) = min 99 (LF w (pgE E v) + lcg (lcg (lcg v)) / 64 % 20) := by unfold LF; rw [wv, nI_i (by omega)]; rfl
        rw [this, wv]
        exact ⟨rfl, by omega⟩
      · have : LF w' e' = LF w e' := by unfold LF; rw [wo _ (by omega)]
        rw [this, wo _ (by omega)]
        exact g4 e' he'
    · have t1 : atS w' c = atS w c := by unfold atS; rw [wo _ (by omega)]
      have t2 : gaS w' c = gaS w c := by unfold gaS; rw [wo _ (by omega)]
      rw [t1, t2, wo _ (by omega), wo _ (by omega), wo _ (by omega)]
      exact g5 c hc'
  · rw [if_neg q]; exact ⟨hw, rfl⟩
def pSd : Nat → Nat → Bool := fun a k => (a == 0 && k == 19) || a == 55
theorem min99 {x : Nat} (hx : x < 10000) : f_J9_min_7cf53 99 (nI x) M = some (nI (min 99 x)) := by
  unfold f_J9_min_7cf53
  by_cases q : x < 99
  · rw [if_pos (by rw [show (99 : Int32) = nI 99 from rfl, clt (by omega) (by decide)]; exact q), show min 99 x = x by omega]
  · rw [if_neg (by rw [show (99 : Int32) = nI 99 from rfl, clt (by omega) (by decide)]; exact q), show min 99 x = 99 by omega]
    rfl
theorem c_pigs (hc : ClsS M.1 M.2.2.2) (hV : CV u M D G P E C W c0 c1 c2) (hu : DU u G P E C W c0 c1 c2) (hE : 0 < E) (hS : SV w M 54 G E C) (hw : WG w G P E C) (hv : M.2.1 0 19 = nI (lcg v)) : ∃ N, f_X11_letPigsOut 0 M = some N ∧ Fr pSd q0 M N ∧ N.2.1 0 19 = nI (lcg (lcg (lcg v))) ∧ SV (pgW E v w) N 54 G E C := by
  have hb := hu.2.1
  have he := pgE_lt (v := v) hE
  have hS54 := StS54 hc
  obtain ⟨l1, l2⟩ := hw.2.2.1 _ he
  unfold f_X11_letPigsOut
  obtain ⟨M1, m1⟩ : ∃ M1, M1 = wrI M 0 19 (nI (lcg (lcg v))) := ⟨_, rfl⟩
  obtain ⟨M2, m2⟩ : ∃ M2, M2 = wrI M1 0 19 (nI (lcg (lcg (lcg v)))) := ⟨_, rfl⟩
  have hc1 : ClsS M1.1 M1.2.2.2 := by rw [m1]; exact hc
  have hc2 : ClsS M2.1 M2.2.2.2 := by rw [m2]; exact hc1
  have d1 := c_draw hc (of := E) hE (by omega) hv
  rw [← m1] at d1
  have d2 := c_draw (v := lcg (lcg v)) hc1 (of := 20) (by decide) (by decide) (by rw [m1, wrI_eq])
  rw [← m2] at d2
  replace d2 : f_X11_draw 0 20 M1 = _ := d2
  have hl20 : lcg (lcg (lcg v)) / 64 % 20 < 20 := Nat.mod_lt _ (by decide)
  rw [sr0 hc, hV.p0, Option.bind_some, hV.g4, Option.bind_some, hV.nE, Option.bind_some, d1]
  dsimp only [Option.bind_some]
  rw [gr0_4 hc1, Option.bind_some, gS2 (StS54 hc1), Option.bind_some, Option.bind_some, gS2 (StS54 hc1), Option.bind_some, show lcg (lcg v) / 64 % E = pgE E v from rfl, lS1 (StS54 hc1) (by omega), Option.bind_some, d2]
  dsimp only [Option.bind_some]
  rw [show M1.2.1 (54 + 1) (pgE E v) = w (7 + pgE E v) from (by rw [m1, wrI_ne (by omega)]; exact hS.2.2.1 _ he), l1, nI_add, min99 (by omega), Option.bind_some, show ∀ x, stI M2 (54 + 1) (nI (pgE E v)) x = some (wrI M2 55 (pgE E v) x) from fun x => tS1 (StS54 hc2) (by omega), Option.bind_some]
  have vo : ∀ a k, ¬ (a = 0 ∧ k = 19) → ¬ (a = 55 ∧ k = pgE E v) → (wrI M2 55 (pgE E v) (nI (min 99 (LF w (pgE E v) + lcg (lcg (lcg v)) / 64 % 20)))).2.1 a k = M.2.1 a k := fun a k h1 h2 => by rw [wrI_ne h2, m2, wrI_ne h1, m1, wrI_ne h1]
  refine ⟨_, rfl, ?_, ?_, ?_⟩
  · rw [m2, m1]; exact ((Fr.rf.wi rfl).wi rfl).wi rfl
  · rw [wrI_ne (by omega), m2, wrI_eq]
  · obtain ⟨s1, s2, s3, s4⟩ := hS
    have wo : ∀ i, i ≠ 7 + pgE E v → pgW E v w i = w i := fun i hi => if_neg hi
    refine ⟨by rw [vo _ _ (by omega) (by omega), wo _ (by omega)]; exact s1, by rw [vo _ _ (by omega) (by omega), upF_cong (w := w) (fun g hg => wo _ (by omega))]; exact s2, fun e' he' => ?_, fun c hc' => ?_⟩
    · by_cases z : e' = pgE E v
      · subst z
        rw [show (54 + 1 : Nat) = 55 from rfl, wrI_eq]
        exact (if_pos rfl).symm
      · rw [vo _ _ (by omega) (by omega), wo _ (by omega)]; exact s3 e' he'
    · rw [vo _ _ (by omega) (by omega), vo _ _ (by omega) (by omega), vo _ _ (by omega) (by omega), wo _ (by omega), wo _ (by omega), wo _ (by omega)]
      exact s4 c hc'
/-- one turn of the class, but for the day -/
theorem c_turn (hV : CV u M D G P E C W c0 c1 c2) (hu : DU u G P E C W c0 c1 c2) (hC : CR M G P E C w kc K) (hw : WG w G P E C) (hv : M.2.1 0 19 = nI v) (v1 v2 v3 : Int32) (hnl : ¬ v1 ≤ v3) : ∃ N, f_X11_chance_K22 0 v1 v2 v3 M = f_X11_chance_B63 0 v1 (if pgY u E v = true then v2 + 1 else v2) v3 N ∧ Fr pSd q0 M N ∧ N.2.1 0 19 = nI (chV u E v) ∧ CR N G P E C (chW u E v w) kc K := by
  have hc := hV.hc
  have hb := hu.2.1
  obtain ⟨C1, C2, C3, C4⟩ := hC
  unfold f_X11_chance_K22
  obtain ⟨M1, m1⟩ : ∃ M1, M1 = wrI M 0 19 (nI (lcg v)) := ⟨_, rfl⟩
  have hc1 : ClsS M1.1 M1.2.2.2 := by rw [m1]; exact hc
  have d1 := c_draw hc (of := 100) (by decide) (by decide) hv
  rw [← m1] at d1
  replace d1 : f_X11_draw 0 100 M = _ := d1
  have F1 : Fr pSd q0 M M1 := by rw [m1]; exact Fr.rf.wi rfl
  have o1 : ∀ a k, ¬ (a = 0 ∧ k = 19) → M1.2.1 a k = M.2.1 a k := fun a k h => by rw [m1, wrI_ne h]
  have hV1 : CV u M1 D G P E C W c0 c1 c2 := hV.fr (R := fun _ _ => false) (X := fun a k => a == 0 && k == 19) (Q := q0) (by rw [m1]; exact (Fr.rf.wi rfl).fa) (fun a k z => by simp only [Bool.and_eq_true, beq_iff_eq] at z; omega) offR_0
  have hS1 : SV w M1 54 G E C := C1.sm (fun _ => rfl) (fun j k hj => o1 _ _ (by omega))
  rw [if_neg hnl, d1]
  dsimp only [Option.bind_some]
  rw [hV1.p0, Option.bind_some, hV1.pg, Option.bind_some]
  have no : ¬ pgY u E v = true → ∃ N, f_X11_chance_B63 0 v1 v2 v3 M1 = f_X11_chance_B63 0 v1 (if pgY u E v = true then v2 + 1 else v2) v3 N ∧ Fr pSd q0 M N ∧ N.2.1 0 19 = nI (chV u E v) ∧ CR N G P E C (chW u E v w) kc K := fun q => by
    refine ⟨M1, by rw [if_neg q], F1, ?_, ?_⟩
    · unfold chV; rw [if_neg q, m1, wrI_eq]
    · unfold chW; rw [if_neg q]
      exact ⟨hS1, C2, by rw [o1 _ _ (by omega)]; exact C3, fun k hk => by rw [o1 _ _ (by omega)]; exact C4 k hk⟩
  by_cases q1 : u 130 3 ≤ nI (lcg v / 64 % 100)
  · rw [if_pos q1]
    exact no (fun z => by
      unfold pgY at z
      have := (of_decide_eq_true z).1
      exact absurd q1 (Int32.not_le.mpr this))
  · rw [if_neg q1, Option.bind_some, hV1.g4, Option.bind_some, hV1.nE, Option.bind_some]
    by_cases q2 : E = 0
    · rw [if_pos (by rw [q2]; decide)]
      exact no (fun z => by
        unfold pgY at z
        have := (of_decide_eq_true z).2
        omega)
    · have hy : pgY u E v = true := decide_eq_true ⟨Int32.not_le.mp q1, by omega⟩
      obtain ⟨N, n1, n2, n3, n4⟩ := c_pigs (v := v) hc1 hV1 hu (by omega) hS1 hw (by rw [m1, wrI_eq])
      rw [if_neg (by rw [show (0 : Int32) = nI 0 from rfl, cle (by omega) (by decide)]; omega), n1, Option.bind_some, if_pos hy]
      have o2 : ∀ a k, a ≠ 0 → a ≠ 55 → N.2.1 a k = M.2.1 a k := fun a k h1 h2 => by
        rw [n2.i (by unfold pSd; rw [beq_eq_false_iff_ne.mpr h1, beq_eq_false_iff_ne.mpr h2]; rfl)]; exact o1 _ _ (by omega)
      refine ⟨N, rfl, F1.tr n2, ?_, ?_⟩
      · unfold chV; rw [if_pos hy]; exact n3
      · unfold chW; rw [if_pos hy]
        exact ⟨n4, C2, by rw [o2 _ _ (by decide) (by decide)]; exact C3, fun k hk => by rw [o2 _ _ (by decide) (by decide)]; exact C4 k hk⟩
def pSr : Nat → Nat → Bool := fun a k => a == 140 && decide (k < 27)
def qSr : Nat → Nat → Bool := fun a k => a == 94 && k == 87
theorem r_turn (hR : RV u M) (hu : DU u G P E C W c0 c1 c2) (hC : RR M w kc K) (hw : WG w G P E C) (hv2 : v < 2147483648) (hv : M.2.2.1 94 87 = lN v) (v1 v2 v3 : Int32) (hnl : ¬ v1 ≤ v3) : ∃ N, f_X12_chance_K25 94 v1 v2 v3 M = f_X12_chance_B94 94 v1 (if pgY u E v = true then v2 + 1 else v2) v3 N ∧ Fr pSr qSr M N ∧ N.2.2.1 94 87 = lN (chV u E v) ∧ RR N (chW u E v w) kc K := by
  have hs := hR.1
  have hb := hu.2.1
  obtain ⟨R1, R2, R3, R4⟩ := hC
  have eE : M.2.1 131 7 = nI E := by rw [hR.2 131 7 (by decide) (by decide)]; exact hu.1.2.2.1
  unfold f_X12_chance_K25
  obtain ⟨M1, m1⟩ : ∃ M1, M1 = wrJ M 94 87 (lN (lcg v)) := ⟨_, rfl⟩
  have hs1 : RefS M1.1 M1.2.2.2 := by rw [m1]; exact hs
  have d1 := r_draw hs (of := 100) (by decide) (by decide) hv2 hv
  rw [← m1] at d1
  replace d1 : f_X12_drawOf 94 100 M = _ := d1
  have F1 : Fr pSr qSr M M1 := by rw [m1]; exact Fr.rf.wj rfl
  have i1 : M1.2.1 = M.2.1 := by rw [m1]; rfl
  rw [if_neg hnl, d1]
  dsimp only [Option.bind_some]
  rw [gr94_45 hs1, Option.bind_some, show ldI 14 M1 130 3 = some (M1.2.1 130 3) from ld130 hs1 (j := 3) (by decide), Option.bind_some, i1, hR.2 130 3 (by decide) (by decide), (r_many hs1).2.2.1, i1, eE]
  have no : ¬ pgY u E v = true → ∃ N, f_X12_chance_B94 94 v1 v2 v3 M1 = f_X12_chance_B94 94 v1 (if pgY u E v = true then v2 + 1 else v2) v3 N ∧ Fr pSr qSr M N ∧ N.2.2.1 94 87 = lN (chV u E v) ∧ RR N (chW u E v w) kc K := fun q => by
    refine ⟨M1, by rw [if_neg q], F1, ?_, ?_⟩
    · unfold chV; rw [if_neg q, m1, wrJ_eq]
    · unfold chW; rw [if_neg q]
      exact ⟨fun i hi => by rw [i1]; exact R1 i hi, R2, by rw [i1]; exact R3, fun k hk => by rw [i1]; exact R4 k hk⟩
  by_cases q1 : u 130 3 ≤ nI (lcg v / 64 % 100)
  · rw [if_pos q1]
    exact no (fun z => by
      unfold pgY at z
      have := (of_decide_eq_true z).1
      exact absurd q1 (Int32.not_le.mpr this))
  · rw [if_neg q1, Option.bind_some]
    by_cases q2 : E = 0
    · rw [if_pos (by rw [q2]; decide)]
      exact no (fun z => by
        unfold pgY at z
        have := (of_decide_eq_true z).2
        omega)
    · have hy : pgY u E v = true := decide_eq_true ⟨Int32.not_le.mp q1, by omega⟩
      have hE0 : 0 < E := by omega
      have he := pgE_lt (v := v) hE0
      obtain ⟨l1, l2⟩ := hw.2.2.1 _ he
      obtain ⟨M2, m2⟩ : ∃ M2, M2 = wrJ M1 94 87 (lN (lcg (lcg v))) := ⟨_, rfl⟩
      obtain ⟨M3, m3⟩ : ∃ M3, M3 = wrJ M2 94 87 (lN (lcg (lcg (lcg v)))) := ⟨_, rfl⟩
      have hs2 : RefS M2.1 M2.2.2.2 := by rw [m2]; exact hs1
      have hs3 : RefS M3.1 M3.2.2.2 := by rw [m3]; exact hs2
      have i2 : M2.2.1 = M.2.1 := by rw [m2]; exact i1
      have i3 : M3.2.1 = M.2.1 := by rw [m3]; exact i2
      have d2 := r_draw (v := lcg v) hs1 (of := E) hE0 (by omega) (lcg_lt v) (by rw [m1, wrJ_eq])
      rw [← m2] at d2
      have d3 := r_draw (v := lcg (lcg v)) hs2 (of := 20) (by decide) (by decide) (lcg_lt _) (by rw [m2, wrJ_eq])
      rw [← m3] at d3
      replace d3 : f_X12_drawOf 94 20 M2 = _ := d3
      have hl20 : lcg (lcg (lcg v)) / 64 % 20 < 20 := Nat.mod_lt _ (by decide)
      rw [if_neg (by rw [show (0 : Int32) = nI 0 from rfl, cle (by omega) (by decide)]; omega), Option.bind_some, d2]
      dsimp only [Option.bind_some]
      rw [gr94_59 hs2, Option.bind_some, show lcg (lcg v) / 64 % E = pgE E v from rfl, r_lateOf hs2 (by omega), Option.bind_some, d3]
      dsimp only [Option.bind_some]
      have ec : f_X12_cut (nI (LF w (pgE E v) + lcg (lcg (lcg v)) / 64 % 20)).toInt64 99 M3 = some (nI (min 99 (LF w (pgE E v) + lcg (lcg (lcg v)) / 64 % 20))) := by
        have := cut_of (M := M3) (m := 99) (by decide) (nI (LF w (pgE E v) + lcg (lcg (lcg v)) / 64 % 20)).toInt64
        rw [i64, nI_i (by omega)] at this
        replace this : f_X12_cut (nI (LF w (pgE E v) + lcg (lcg (lcg v)) / 64 % 20)).toInt64 99 M3 = _ := this
        rw [this]
        congr 2
        unfold clm
        split
        · omega
        · split <;> omega
      rw [i2, R1 _ (by omega), l1, nI_add, ec, Option.bind_some, show (7 : Int32) + nI (pgE E v) = nI (7 + pgE E v) from nI_add 7 _, st140 hs3 (by omega), Option.bind_some, if_pos hy]
      refine ⟨_, rfl, ?_, ?_, ?_⟩
      · rw [m3, m2, m1]
        exact (((Fr.rf.wj rfl).wj rfl).wj rfl).wi (by unfold pSr; rw [decide_eq_true (show 7 + pgE E v < 27 by omega)]; rfl)
      · unfold chV; rw [if_pos hy, m3]; exact wrJ_eq
      · unfold chW; rw [if_pos hy]
        refine ⟨fun i hi => ?_, R2, by rw [wrI_ne (by omega), i3]; exact R3, fun k hk => by rw [wrI_ne (by omega), i3]; exact R4 k hk⟩
        rw [wrI_get, i3]
        unfold pgW
        by_cases z : i = 7 + pgE E v
        · rw [if_pos ⟨rfl, z⟩, if_pos z]
        · rw [if_neg (fun y => z y.2), if_neg z]; exact R1 i hi
end ACF
