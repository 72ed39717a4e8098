/-! THE REFERENCE answers a question, car by car -/
/-- all answers joined -/
def fq (k : Nat) (a : Int64) (v : Nat → Int64) : Nat → Int64
  | 0 => a
  | j + 1 => jn k (fq k a v j) (nI j) (v j)
noncomputable def vQ (u : Nat → Nat → Int32) (c0 : List Nat) (G E W P : Nat) (w : Nat → Int32) (cs : List Nat) (c : Nat) : Int64 := Int64.ofInt ((evA (envQ u w (wtS u c0 G E W P w c) c) (shQ (cw u c0 G E w) (mnS u c)) (drQ u (cw u c0 G E w) W P (mnS u c) (atS w c)) cs []).headD 0)
section RAK
variable {M N : sMem} {D G P E C W c : Nat} {c0 c1 c2 cs : List Nat} {w : Nat → Int32} {u : Nat → Nat → Int32}
theorem vQ_of {x : Int64} (h : evA (envQ u w (wtS u c0 G E W P w c) c) (shQ (cw u c0 G E w) (mnS u c)) (drQ u (cw u c0 G E w) W P (mnS u c) (atS w c)) cs [] = [x.toInt]) : x = vQ u c0 G E W P w cs c := by
  unfold vQ
  rw [h]
  exact (Int64.ofInt_toInt x).symm
theorem evA_cg {env env' : Nat → Int} {sh dr : Int → Int} : ∀ {cs : List Nat} {s : List Int}, (∀ c ∈ cs, 40 ≤ c → c < 60 → env (c - 40) = env' (c - 40)) → evA env sh dr cs s = evA env' sh dr cs s
  | [], _, _ => rfl
  | c :: cs, s, h => by
    show evA env sh dr cs (evS env sh dr c s) = evA env' sh dr cs (evS env' sh dr c s)
    have hc := h c List.mem_cons_self
    have e : evS env sh dr c s = evS env' sh dr c s := by
      unfold evS
      by_cases h1 : 1000 ≤ c
      · rw [if_pos h1, if_pos h1]
      · rw [if_neg h1, if_neg h1]
        by_cases h2 : 60 ≤ c
        · rw [if_pos h2, if_pos h2]
        · rw [if_neg h2, if_neg h2]
          by_cases h3 : 40 ≤ c
          · rw [if_pos h3, if_pos h3, hc h3 (by omega)]
          · rw [if_neg h3, if_neg h3]
    rw [e]
    exact evA_cg (fun c' hc' => h c' (List.mem_cons_of_mem _ hc'))
theorem lo_nI {y : Int64} {g : Nat} (h : y.toInt = g) (hg : g < 1000) : y.toInt32 = nI g := by
  apply Int32.toInt_inj.mp
  rw [Int64.toInt_toInt32, h, nI_i (by omega), b32 (by omega) (by omega)]
/-- what is asked of a gate, of a place -/
theorem r_qOf (hR : RV u M) (hu : DU u G P E C W c0 c1 c2) (hLd : Laid u M G E c0 (LF w)) (hw : WG w G P E C) (h140 : M.2.1 140 = w) (hc : c < C) (h143 : ∀ p, p < P → M.2.1 143 (7 * c + p) = drvF u (cw u c0 G E w) W P (mnS u c) (atS w c) p) (x : Nat) (hx : x = 60 ∨ x = 61) (y : Int64) : ∃ z, f_X12_qOf 94 (nI (x - 60)) y (nI c) M = some z ∧ z.toInt = if x = 60 then shQ (cw u c0 G E w) (mnS u c) y.toInt else drQ u (cw u c0 G E w) W P (mnS u c) (atS w c) y.toInt := by
  have hb := hu.2.1
  have hs := hR.1
  have hcar := hu.car hc
  obtain ⟨w1, w2, w3, w4, w5, w6⟩ := hw.2.2.2 c hc
  unfold f_X12_qOf
  rw [sr94 hs]
  rcases hx with rfl | rfl
  · rw [if_pos (show nI (60 - 60) = (0 : Int32) from rfl), if_pos rfl, r_isGate hs (by rw [hR.2 131 5 (by decide) (by decide)]; exact hu.1.1) hb.1, Option.bind_some]
    by_cases q : 0 ≤ y.toInt ∧ y.toInt < (G : Int)
    · obtain ⟨g, hg⟩ : ∃ g : Nat, y.toInt = g := ⟨y.toInt.toNat, by omega⟩
      have hgG : g < G := by omega
      subst h140
      rw [if_neg (bI_y q), r_minuteOf hs (by omega), Option.bind_some, hR.2 136 _ (by decide) (by decide), hcar.1, lo_nI hg (by omega), r_isClosed hs hw hb.1 hLd hgG (by omega), Option.bind_some]
      unfold shQ
      rw [hg, if_pos (show (0 : Int) ≤ (g : Int) ∧ (g : Int) < 6 by omega), Int.toNat_natCast]
      by_cases z : cw u c0 G E (M.2.1 140) g (mnS u c) = true
      · rw [if_neg (bI_y z), bI_t z]
        exact ⟨_, rfl, rfl⟩
      · rw [if_pos (bI_0.mpr z), bI_f z]
        exact ⟨_, rfl, rfl⟩
    · rw [if_pos (bI_0.mpr q)]
      refine ⟨_, rfl, ?_⟩
      unfold shQ
      by_cases z : 0 ≤ y.toInt ∧ y.toInt < 6
      · rw [if_pos z, cw_out (show G ≤ y.toInt.toNat by omega), bI_f (by decide)]
        rfl
      · rw [if_neg z]
        rfl
  · rw [if_neg (show ¬ nI (61 - 60) = (0 : Int32) by decide), if_neg (by decide), r_isPlace hs (by rw [hR.2 131 6 (by decide) (by decide)]; exact hu.1.2.1) hb.2.1, Option.bind_some]
    by_cases q : 0 ≤ y.toInt ∧ y.toInt < (P : Int)
    · obtain ⟨g, hg⟩ : ∃ g : Nat, y.toInt = g := ⟨y.toInt.toNat, by omega⟩
      have hgG : g < P := by omega
      rw [if_neg (bI_y q), gr94_67 hs, Option.bind_some, lo_nI hg (by omega), show (7 : Int32) * nI c + nI g = nI (7 * c + g) from (by rw [show (7 : Int32) = nI 7 from rfl, pk_mul, nI_add]), ld143 hs (by omega), Option.bind_some, h143 g hgG]
      refine ⟨_, rfl, ?_⟩
      unfold drQ
      rw [i64, hg, if_pos (show (0 : Int) ≤ (g : Int) ∧ (g : Int) < 7 by omega), Int.toNat_natCast]
    · rw [if_pos (bI_0.mpr q)]
      refine ⟨_, rfl, ?_⟩
      unfold drQ
      by_cases z : 0 ≤ y.toInt ∧ y.toInt < 7
      · rw [if_pos z, drvF_out hu w3 (show P ≤ y.toInt.toNat by omega)]
        rfl
      · rw [if_neg z]
        rfl
def pQj : Nat → Nat → Bool := fun a k => a == 94 && (k == 122 || k == 124)
def qQj : Nat → Nat → Bool := fun a k => a == 185 || (a == 94 && k == 123)
theorem pQj_R {a k : Nat} (h : pQj a k = false) : pR2 a k = false := imF (fun y => by unfold pR2 at y; unfold pQj; simp only [Bool.or_eq_true, Bool.and_eq_true, beq_iff_eq] at y ⊢; omega) h
theorem pQj_j {a k : Nat} (h : pQj a k = false) : jX a k = false := imF (fun y => by unfold jX at y; unfold pQj; simp only [Bool.or_eq_true, Bool.and_eq_true, beq_iff_eq] at y ⊢; omega) h
theorem qQj_R {a k : Nat} (h : qQj a k = false) : qR2 a k = false := imF (fun y => by unfold qR2 at y; unfold qQj; simp only [Bool.or_eq_true, Bool.and_eq_true, beq_iff_eq] at y ⊢; omega) h
theorem qQj_j {a k : Nat} (h : qQj a k = false) : jJ a k = false := imF (fun y => by unfold jJ at y; unfold qQj; simp only [Bool.or_eq_true, Bool.and_eq_true, beq_iff_eq] at y ⊢; omega) h
theorem pQj_n {a k : Nat} (h : a ≠ 94) : pQj a k = false := by unfold pQj; rw [beq_eq_false_iff_ne.mpr h]; rfl
theorem envR_Q {v : Nat → Nat → Int32} {wt : Int32} {k : Nat} (h1 : v 140 = w) (h2 : ∀ k, v 136 k = u 136 k) (hk : 6 ≤ k) : envR v wt.toInt 0 c k = envQ u w wt c k := by
  unfold envR envQ
  rw [if_neg (by omega), if_neg (by omega), if_neg (by omega), if_neg (by omega), if_neg (by omega), if_neg (by omega), h1, h2]
theorem r_askL {kd : Nat} (hR : RV u M) (hu : DU u G P E C W c0 c1 c2) (hLd : Laid u M G E c0 (LF w)) (hw : WG w G P E C) (h140 : M.2.1 140 = w) (h58 : M.2.1 94 58 = 3) (hend : M.2.1 94 116 = nI cs.length) (hen : cs.length ≤ 1600) (hcode : ∀ (i : Nat) (h : i < cs.length), M.2.1 183 i = nI cs[i]) (hty : tyA cs [] = some [decide (kd ≤ 2)]) (hok : ∀ x ∈ cs, okCode 3 x = true) (hfl : ∀ c, c < C → M.2.1 142 c = wtS u c0 G E W P w c ∧ ∀ p, p < P → M.2.1 143 (7 * c + p) = drvF u (cw u c0 G E w) W P (mnS u c) (atS w c) p) (h124 : M.2.1 94 124 = 1) (hk : kd ≤ 5) : ∃ N, sItr (fun a : (Int32 × sMem) => f_X12_ask_K265 94 (nI kd) a.1 a.2) sFuel (0, M) = some N ∧ Fr pQj qQj M N ∧ N.2.2.1 94 123 = fq kd (M.2.2.1 94 123) (vQ u c0 G E W P w cs) C := by
  have hb := hu.2.1
  have hs := hR.1
  obtain ⟨N, b1, b2⟩ := itr_up (f := fun a : (Int32 × sMem) => f_X12_ask_K265 94 (nI kd) a.1 a.2) (fun j N => Fr pQj qQj M N ∧ N.2.2.1 94 123 = fq kd (M.2.2.1 94 123) (vQ u c0 G E W P w cs) j ∧ N.2.1 94 124 = if j = 0 then 1 else 0) (fun N => Fr pQj qQj M N ∧ N.2.2.1 94 123 = fq kd (M.2.2.1 94 123) (vQ u c0 G E W P w cs) C) C (by omega) (by
    rintro j N hj ⟨i1, i2, i3⟩
    dsimp only
    have hsN := i1.hs hs
    have RN : RV u N := hR.fr i1 (fun a k h1 h2 => pQj_n (by omega))
    unfold f_X12_ask_K265
    rw [(r_many hsN).2.2.2.1, Option.bind_some, RN.2 131 8 (by decide) (by decide), hu.1.2.2.2.1]
    by_cases q : j = C
    · right
      subst q
      rw [if_pos (nI_le (Nat.le_refl _) (by omega))]
      exact ⟨N, rfl, i1, i2⟩
    · left
      refine ⟨by omega, ?_⟩
      have hjC : j < C := by omega
      have e140 : N.2.1 140 = w := by rw [← h140]; exact funext fun k => i1.i (pQj_n (by decide))
      have e136 : ∀ k, N.2.1 136 k = u 136 k := fun k => RN.2 136 k (by decide) (by decide)
      have ecg : ∀ x ∈ cs, 40 ≤ x → x < 60 → envR N.2.1 (wtS u c0 G E W P w j).toInt 0 j (x - 40) = envQ u w (wtS u c0 G E W P w j) j (x - 40) := fun x hx x1 x2 => envR_Q e140 e136 (by
        have := okc3 (hok x hx)
        omega)
      have hQ := envQ_ok (c := j) (cl := cw u c0 G E w) (m := mnS u j) (fr := atS w j) (cs := cs) hu hw hjC
      have hEn : Env (envR N.2.1 (wtS u c0 G E W P w j).toInt 0 j) (shQ (cw u c0 G E w) (mnS u j)) (drQ u (cw u c0 G E w) W P (mnS u j) (atS w j)) cs := fun x hx => ⟨fun x1 x2 => by rw [ecg x hx x1 (by omega)]; exact (hQ x hx).1 x1 x2, (hQ x hx).2⟩
      obtain ⟨x, N1, n1, n2, _, n4⟩ := r_qtold (M := N) (cs := cs) (b := decide (kd ≤ 2)) (car := j) (e := 0) (wt := (wtS u c0 G E W P w j).toInt) (sh := shQ (cw u c0 G E w) (mnS u j)) (dr := drQ u (cw u c0 G E w) W P (mnS u j) (atS w j)) hsN (by rw [i1.i rfl]; exact h58) (by rw [i1.i rfl]; exact hend) hen (fun i hi => by rw [i1.i rfl]; exact hcode i hi) (by omega) (fun x hx y => by
          have := okc3 (hok x hx)
          omega) (by rw [i1.i rfl, (hfl j hjC).1]) hEn hty (fun x _ y N' hF z _ _ => by
          have RN' : RV u N' := RN.fr hF (fun a k h1 h2 => by unfold pR2; rw [beq_eq_false_iff_ne.mpr (by omega)]; rfl)
          exact r_qOf RN' hu (fun g m hg hm => by rw [hF.i rfl, i1.i rfl]; exact hLd g m hg hm) hw (by rw [← e140]; exact funext fun k => hF.i rfl) hjC (fun p hp => by rw [hF.i rfl, i1.i rfl]; exact (hfl j hjC).2 p hp) x y z)
      rw [evA_cg ecg] at n2
      have hx := vQ_of n2
      have hs1 := n4.hs hsN
      obtain ⟨N2, m1, m2, m3, m4⟩ := r_takesQ (M := N1) (k := kd) (c := j) (y := x) hs1 hk (by omega) (by rw [n4.i rfl]; exact i3)
      rw [n4.j rfl, i2, hx] at m4
      rw [if_neg (nI_ge (by omega) (by omega)), n1]
      dsimp only [Option.bind_some]
      rw [m1, Option.bind_some, nI_1]
      exact ⟨N2, rfl, (i1.tr (n4.mono (fun _ _ z => pQj_R z) (fun _ _ z => qQj_R z))).tr (m2.mono (fun _ _ z => pQj_j z) (fun _ _ z => qQj_j z)), m4, by rw [m3, if_neg (by omega)]⟩) (i := 0) (s := M) (by omega) ⟨Fr.rf, rfl, by rw [if_pos rfl]; exact h124⟩
  exact ⟨N, b1, b2⟩
end RAK
