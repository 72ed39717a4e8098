/-! THE CLASS looks for a way on, in memory -/
def pKt : Nat → Nat → Bool := fun a _ => a == 86 || a == 87
def KCk (n : Nat) (b : Nat → Option Nat) (T : Nat → Bool) (M : sMem) : Prop := ∀ j, j < n → M.2.1 86 j = oI (b j) ∧ M.2.1 87 j = bI (T j = true)
/-- the closings, as the class holds them -/
def KDk (n : Nat) (vF vL vM : Nat → Int32) (M : sMem) : Prop := n ≤ 40 ∧ M.2.1 82 5 = nI n ∧ ∀ i, i < n → (M.2.1 83 i = vF i ∧ M.2.1 84 i = vL i ∧ M.2.1 85 i = vM i) ∧ (0 ≤ (vF i).toInt ∧ (vF i).toInt < 200) ∧ (0 ≤ (vL i).toInt ∧ (vL i).toInt < 200) ∧ 0 ≤ (vM i).toInt ∧ (vM i).toInt ≤ 60
/-- looked for, and not found -/
def FSC (n : Nat) (R : Nat → Nat → Prop) (x : Nat) (b : Nat → Option Nat) (T T' : Nat → Bool) : Prop := (∀ j, T j = true → T' j = true) ∧ (∀ j, j < n → R x j → T' j = true) ∧ ∀ j, j < n → T' j = true → T j = false → ∃ i, b j = some i ∧ ∀ j', j' < n → R i j' → T' j' = true
def cnU (n : Nat) (b : Nat → Option Nat) (T : Nat → Bool) : Nat := cntN (fun j => (b j).isSome && !(T j)) n
section CGO
variable {M N : sMem} {n i j x : Nat} {vF vL vM : Nat → Int32} {b : Nat → Option Nat} {T : Nat → Bool}
theorem KDk.fr (h : KDk n vF vL vM M) (hF : Fr pKt q0 M N) : KDk n vF vL vM N := ⟨h.1, by rw [hF.i rfl]; exact h.2.1, fun i hi => by
  rw [hF.i rfl, hF.i rfl, hF.i rfl]
  exact h.2.2 i hi⟩
theorem abs_i {x : Int32} (h1 : -100 ≤ x.toInt) (h2 : x.toInt ≤ 100) : ∃ a : Int32, f_J9_abs_0f7a4 x M = some a ∧ a.toInt = (x.toInt.natAbs : Int) := by
  unfold f_J9_abs_0f7a4
  by_cases q : 0 ≤ x
  · have q' := le_i.mp q
    have e0 : (0 : Int32).toInt = 0 := rfl
    rw [if_pos q]
    exact ⟨x, rfl, by omega⟩
  · have e0 : (0 : Int32).toInt = 0 := rfl
    have q' : ¬ (0 : Int32).toInt ≤ x.toInt := fun z => q (le_i.mpr z)
    rw [if_neg q]
    refine ⟨-x, rfl, ?_⟩
    rw [Int32.toInt_neg, b32 (by omega) (by omega)]
    omega
theorem c_canGo (hc : ClsS M.1 M.2.2.2) (h : KDk n vF vL vM M) (hi : i < n) (hj : j < n) : (RelK vF vL vM i j → f_X3_canGo 82 (nI i) (nI j) M = some 1) ∧ (¬ RelK vF vL vM i j → f_X3_canGo 82 (nI i) (nI j) M = some 0) := by
  have hn := h.1
  obtain ⟨⟨a1, a2, a3⟩, a4, a5, a6⟩ := h.2.2 i hi
  obtain ⟨⟨b1, b2, b3⟩, b4, b5, b6⟩ := h.2.2 j hj
  have ed : (vM i - vM j).toInt = (vM i).toInt - (vM j).toInt := by rw [Int32.toInt_sub, b32 (by omega) (by omega)]
  obtain ⟨a, e1, e2⟩ := abs_i (M := M) (x := vM i - vM j) (by omega) (by omega)
  have es : (vL i + 1 + a).toInt = (vL i).toInt + 1 + a.toInt := by
    have e3 : (vL i + 1).toInt = (vL i).toInt + 1 := by rw [Int32.toInt_add, show (1 : Int32).toInt = 1 from rfl, b32 (by omega) (by omega)]
    rw [Int32.toInt_add, e3, b32 (by omega) (by omega)]
  have e : f_X3_canGo 82 (nI i) (nI j) M = if vF j < vL i + 1 + a then some 0 else some 1 := by
    unfold f_X3_canGo
    rw [sr82 hc, gr82_0 hc, Option.bind_some, ld83 hc (by omega), Option.bind_some, gr82_1 hc, Option.bind_some, ld84 hc (by omega), Option.bind_some, gr82_2 hc, Option.bind_some, ld85 hc (by omega), Option.bind_some, Option.bind_some, ld85 hc (by omega), Option.bind_some, a2, a3, b1, b3, e1, Option.bind_some]
  rw [e]
  unfold RelK
  rw [← ed, ← e2, ← es]
  exact ⟨fun z => if_neg (fun y => by have := lt_i.mp y; omega), fun z => if_pos (lt_i.mpr (by omega))⟩
theorem cntN_mono {f g : Nat → Bool} : ∀ {n : Nat}, (∀ i, i < n → f i = true → g i = true) → cntN f n ≤ cntN g n
  | 0, _ => Nat.le_refl _
  | n + 1, h => by
    have ih := cntN_mono (n := n) (fun i hi => h i (by omega))
    show cntN f n + _ ≤ cntN g n + _
    by_cases q : f n = true
    · rw [if_pos q, if_pos (h n (by omega) q)]; omega
    · rw [if_neg q]; omega
theorem bool_f {p : Bool} {q : Bool} (h : p = true → q = true) (hq : q = false) : p = false := by
  cases p with
  | false => rfl
  | true => rw [h rfl] at hq; cases hq
theorem cnU_one {T1 T2 : Nat → Bool} {nx y : Nat} (hTT : ∀ j, T j = true → T1 j = true) (hT1 : T1 nx = false) (hT2 : ∀ j, T2 j = (T1 j || decide (j = nx))) (hn : nx < n) (hb : b nx = some y) : cnU n b T2 + 1 ≤ cnU n b T := by
  have h1 : cnU n b T1 = cnU n b T2 + 1 := by
    unfold cnU
    refine cntN_off (w := nx) hn ?_ ?_ (fun i hi => ?_)
    · rw [hb, hT1]; rfl
    · rw [hb, hT2, decide_eq_true (show nx = nx from rfl), Bool.or_true]; rfl
    · rw [hT2, decide_eq_false hi, Bool.or_false]
  have h2 : cnU n b T1 ≤ cnU n b T := by
    unfold cnU
    refine cntN_mono (fun i _ hi => ?_)
    rw [Bool.and_eq_true] at hi ⊢
    refine ⟨hi.1, ?_⟩
    cases q : T i with
    | false => rfl
    | true =>
      rw [hTT i q] at hi
      exact hi.2
  omega
theorem c_goes : ∀ (fu x dp : Nat) (M : sMem) (b : Nat → Option Nat) (T : Nat → Bool), ClsS M.1 M.2.2.2 → KDk n vF vL vM M → KCk n b T M → x < n → PSC n (RelK vF vL vM) x b T → cnU n b T + 1 ≤ fu → dp + cnU n b T ≤ 39 → ∃ r N, F_goes fu 82 (nI x) (nI dp) M = some (r, N) ∧ Fr pKt q0 M N ∧ ((r = 0 ∧ ∃ T', KCk n b T' N ∧ FSC n (RelK vF vL vM) x b T T') ∨ (r = 1 ∧ ∃ b' T', KCk n b' T' N ∧ ASK n (RelK vF vL vM) x b T b'))
  | 0, x, dp, M, b, T, hc, hD, hK, hx, hP, h1, h2 => by omega
  | fu + 1, x, dp, M, b, T, hc, hD, hK, hx, hP, h1, h2 => by
    have hn := hD.1
    obtain ⟨v, v1, v2⟩ := itr_up (f := fun a : (Int32 × sMem) => f_X3_goesOn_K20 (F_goes fu) 82 (nI x) (nI dp) a.1 a.2)
      (fun j N => Fr pKt q0 M N ∧ ∃ T1, KCk n b T1 N ∧ (∀ i, T i = true → T1 i = true) ∧ (∀ i, i < j → RelK vF vL vM x i → T1 i = true) ∧ ∀ i, i < n → T1 i = true → T i = false → ∃ y, b i = some y ∧ ∀ j', j' < n → RelK vF vL vM y j' → T1 j' = true)
      (fun v => match v with
        | .inl q => ∃ nx b1 T2, q.1 = nI nx ∧ nx < n ∧ Fr pKt q0 M q.2 ∧ KCk n b1 T2 q.2 ∧ ASK n (RelK vF vL vM) x b T (updO b1 nx x)
        | .inr q => q.1 = 0 ∧ Fr pKt q0 M q.2 ∧ ∃ T', KCk n b T' q.2 ∧ FSC n (RelK vF vL vM) x b T T') n (by omega) (by
      rintro j N hj ⟨i1, T1, i2, i3, i4, i5⟩
      have hcN := i1.hc hc
      have hDN := hD.fr i1
      dsimp only
      unfold f_X3_goesOn_K20
      rw [gi82 hcN, Option.bind_some, hDN.2.1]
      by_cases q : j = n
      · right
        rw [if_pos (nI_le (show n ≤ j by omega) (by omega))]
        exact ⟨_, rfl, rfl, i1, T1, i2, i3, fun i hi hr => i4 i (by omega) hr, i5⟩
      · have hjn : j < n := by omega
        have kj := i2 j hjn
        rw [if_neg (nI_ge (by omega) (by omega)), gr82_4 hcN, Option.bind_some, ld87 hcN (by omega), Option.bind_some, kj.2]
        cases ht : T1 j with
        | true =>
          left
          rw [if_neg (bI_y (show true = true from rfl))]
          unfold f_X3_goesOn_B88
          rw [nI_1]
          refine ⟨hjn, N, rfl, i1, T1, i2, i3, fun i hi hr => ?_, i5⟩
          by_cases w : i = j
          · rw [w]; exact ht
          · exact i4 i (by omega) hr
        | false =>
          rw [if_pos (bI_0.mpr (show ¬ (false = true) by decide))]
          by_cases hr : RelK vF vL vM x j
          · rw [(c_canGo hcN hDN hx hjn).1 hr, Option.bind_some, if_neg (by decide), Option.bind_some, st87 hcN (by omega), Option.bind_some]
            obtain ⟨N8, hN8⟩ : ∃ X, X = wrI N 87 j 1 := ⟨_, rfl⟩
            rw [← hN8]
            have F8 : Fr pKt q0 M N8 := by rw [hN8]; exact i1.wi rfl
            have hc8 := F8.hc hc
            have hD8 := hD.fr F8
            obtain ⟨T2, hT2⟩ : ∃ T2 : Nat → Bool, ∀ i, T2 i = (T1 i || decide (i = j)) := ⟨fun i => T1 i || decide (i = j), fun _ => rfl⟩
            have t2j : T2 j = true := by rw [hT2, decide_eq_true (show j = j from rfl), Bool.or_true]
            have t12 : ∀ i, T1 i = true → T2 i = true := fun i hi => by rw [hT2, hi]; rfl
            have hK8 : KCk n b T2 N8 := fun i hi => by
              obtain ⟨k1, k2⟩ := i2 i hi
              refine ⟨by rw [hN8, wrI_ne (by omega)]; exact k1, ?_⟩
              by_cases w : i = j
              · rw [w, hN8, wrI_eq, bI_t t2j]
              · rw [hN8, wrI_ne (by omega), k2, hT2, decide_eq_false w, Bool.or_false]
            rw [gr82_3 hc8, Option.bind_some, ld86 hc8 (by omega), Option.bind_some, (hK8 j hjn).1]
            cases hb : b j with
            | none =>
              right
              rw [if_pos (show oI none = -1 from rfl)]
              exact ⟨_, rfl, j, b, T2, rfl, hjn, F8, hK8, asc_free hP hx hjn (bool_f (i3 j) ht) hr hb⟩
            | some y =>
              have hy := (hP.1 j y hjn hb).1
              rw [if_neg (show ¬ oI (some y) = -1 from fun z => by
                have z' : nI y = mI := z
                rw [cneg (by omega)] at z'; exact z'), Option.bind_some, ld86 hc8 (by omega), Option.bind_some, (hK8 j hjn).1, hb, nI_1]
              have hcnt := cnU_one (n := n) (b := b) (T := T) (T1 := T1) (T2 := T2) i3 ht hT2 hjn hb
              obtain ⟨r, N', g1, g2, g3⟩ := c_goes fu y (dp + 1) N8 b T2 hc8 hD8 hK8 hy (psc_rec hP hjn i3 ht hT2 hb) (by omega) (by omega)
              rw [show oI (some y) = nI y from rfl, g1]
              dsimp only [Option.bind_some]
              rcases g3 with ⟨rfl, T', g4, g5, g6, g7⟩ | ⟨rfl, b', T', g4, g5⟩
              · left
                rw [if_pos rfl]
                unfold f_X3_goesOn_B88
                rw [nI_1]
                refine ⟨hjn, N', rfl, F8.tr g2, T', g4, fun i hi => g5 i (t12 i (i3 i hi)), fun i hi hr => ?_, fun i hi z z' => ?_⟩
                · by_cases w : i = j
                  · rw [w]; exact g5 j t2j
                  · exact g5 i (t12 i (i4 i (by omega) hr))
                · cases w : T2 i with
                  | false => exact g7 i hi z w
                  | true =>
                    by_cases e : i = j
                    · exact ⟨y, by rw [e]; exact hb, g6⟩
                    · rw [hT2, decide_eq_false e, Bool.or_false] at w
                      obtain ⟨y', y1, y2⟩ := i5 i hi w z'
                      exact ⟨y', y1, fun j' hj' hr' => g5 j' (t12 j' (y2 j' hj' hr'))⟩
              · right
                rw [if_neg (by decide)]
                exact ⟨_, rfl, j, b', T', rfl, hjn, F8.tr g2, g4, asc_rec hP hx hjn i3 ht hT2 hr hb g5⟩
          · left
            rw [(c_canGo hcN hDN hx hjn).2 hr, Option.bind_some, if_pos rfl]
            unfold f_X3_goesOn_B88
            rw [nI_1]
            refine ⟨hjn, N, rfl, i1, T1, i2, i3, fun i hi hr' => ?_, i5⟩
            by_cases w : i = j
            · rw [w] at hr'; exact absurd hr' hr
            · exact i4 i (by omega) hr') (i := 0) (s := M) (by omega) ⟨Fr.rf, T, hK, fun _ h => h, fun i hi => by omega, fun i _ h h' => by rw [h] at h'; cases h'⟩
    show ∃ r N, f_X3_goesOn (F_goes fu) 82 (nI x) (nI dp) M = some (r, N) ∧ _
    unfold f_X3_goesOn f_X3_goesOn_L20
    replace v1 : sItr (fun a : (Int32 × sMem) => f_X3_goesOn_K20 (F_goes fu) 82 (nI x) (nI dp) a.1 a.2) sFuel (0, M) = some v := v1
    rw [sr82 hc, if_neg (by rw [show (40 : Int32) = nI 40 from rfl, cle (by decide) (by omega)]; omega), if_neg (by rw [show (0 : Int32) = nI 0 from rfl, clt (by omega) (by decide)]; omega), if_pos (by rw [show (40 : Int32) = nI 40 from rfl, clt (by omega) (by decide)]; omega), v1, Option.bind_some]
    match v, v2 with
    | .inl q, ⟨nx, b1, T2, e1, e2, e3, e4, e5⟩ =>
      have hcq := e3.hc hc
      refine ⟨1, wrI q.2 86 nx (nI x), ?_, e3.wi rfl, Or.inr ⟨rfl, updO b1 nx x, T2, fun j hj => ?_, e5⟩⟩
      · show f_X3_goesOn_B79 (F_goes fu) 82 (nI x) q.1 q.2 = _
        unfold f_X3_goesOn_B79
        rw [gr82_3 hcq, Option.bind_some, e1, st86 hcq (by omega), Option.bind_some]
      · obtain ⟨k1, k2⟩ := e4 j hj
        refine ⟨?_, by rw [wrI_ne (by omega)]; exact k2⟩
        by_cases w : j = nx
        · rw [w, wrI_eq, updO_e]; rfl
        · rw [wrI_ne (by omega), updO_n w]; exact k1
    | .inr q, ⟨e1, e2, T', e3, e4⟩ =>
      exact ⟨q.1, q.2, rfl, e2, Or.inl ⟨e1, T', e3, e4⟩⟩
end CGO
