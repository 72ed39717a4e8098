/-! WHAT QUERIES NEED of the memory, and what they may change -/
def uR (M : sMem) : Nat → Nat → Int32 := fun a k => if 130 ≤ a ∧ a ≤ 139 then M.2.1 a k else 0
theorem uR_eq {M : sMem} {a k : Nat} (h1 : 130 ≤ a) (h2 : a ≤ 139) : M.2.1 a k = uR M a k := (if_pos ⟨h1, h2⟩).symm
theorem uR_cong {M N : sMem} (h : ∀ a k, 130 ≤ a → a ≤ 139 → N.2.1 a k = M.2.1 a k) : uR N = uR M := by
  funext a k
  unfold uR
  by_cases q : 130 ≤ a ∧ a ≤ 139
  · rw [if_pos q, if_pos q]; exact h a k q.1 q.2
  · rw [if_neg q, if_neg q]
theorem RV_uR {M : sMem} (hs : RefS M.1 M.2.2.2) : RV (uR M) M := ⟨hs, fun _ _ h1 h2 => uR_eq h1 h2⟩
/-- the class's cells that hold nothing between calls -/
def scC : Nat → Nat → Bool := fun a k => a == 69 || a == 70 || a == 71 || a == 72 || (a == 68 && k == 4) || a == 75 || a == 78 || a == 81 || (a == 82 && k == 5) || (decide (83 ≤ a) && decide (a ≤ 87)) || a == 90 || a == 91 || (decide (61 ≤ a) && decide (a ≤ 65)) || a == 60
def scQ : Nat → Nat → Bool := fun a _ => decide (187 ≤ a) || a == 73 || a == 88
/-- the reference's -/
def scR : Nat → Nat → Bool := fun a k => (a == 94 && (k == 58 || (decide (61 ≤ k) && decide (k ≤ 64)) || k == 71 || k == 72 || k == 83 || k == 122 || k == 123 || k == 124)) || a == 141 || a == 142 || a == 143 || a == 144 || a == 145 || (decide (146 ≤ a) && decide (a ≤ 152)) || a == 154
def scS : Nat → Nat → Bool := fun a k => a == 185 || (a == 94 && (k == 65 || k == 123))
def KI (M : sMem) (D G P E C W : Nat) (c0 c1 c2 : List Nat) : Prop :=
  RefS M.1 M.2.2.2 ∧ DU (uR M) G P E C W c0 c1 c2 ∧ CV (uR M) M D G P E C W c0 c1 c2 ∧ (RowsI (uR M) M G c0 ∧ AU M) ∧ (SV (M.2.1 140) M 54 G E C ∧ WG (M.2.1 140) G P E C) ∧ M.2.1 94 70 = 0 ∧ (∃ kc, kc ≤ 40 ∧ M.2.1 140 27 = nI kc ∧ M.2.1 54 7 = nI kc) ∧ M.2.1 94 57 = bI (0 < (uR M 130 2).toInt)
theorem StS54 {M : sMem} (hc : ClsS M.1 M.2.2.2) : StS M 54 := ⟨⟨cs54 hc, cs55 hc, cs56 hc, cs57 hc, cs58 hc, cs59 hc⟩, cr54_2 hc, cr54_3 hc, cr54_4 hc, cr54_5 hc, cr54_6 hc⟩
theorem StS60 {M : sMem} (hc : ClsS M.1 M.2.2.2) : StS M 60 := ⟨⟨cs60 hc, cs61 hc, cs62 hc, cs63 hc, cs64 hc, cs65 hc⟩, cr60_2 hc, cr60_3 hc, cr60_4 hc, cr60_5 hc, cr60_6 hc⟩
theorem offD_sc : offD scC := by
  intro a k h
  unfold scC at h
  simp only [Bool.or_eq_true, Bool.and_eq_true, beq_iff_eq, decide_eq_true_eq] at h
  omega
theorem sc_out {a k : Nat} (h : 94 ≤ a ∨ a < 60) : scC a k = false := by
  cases q : scC a k with
  | false => rfl
  | true =>
    unfold scC at q
    simp only [Bool.or_eq_true, Bool.and_eq_true, beq_iff_eq, decide_eq_true_eq] at q
    omega
theorem scR_out {a k : Nat} (h : a < 94 ∨ (95 ≤ a ∧ a ≤ 140) ∨ 155 ≤ a ∨ a = 153) : scR a k = false := by
  cases q : scR a k with
  | false => rfl
  | true =>
    unfold scR at q
    simp only [Bool.or_eq_true, Bool.and_eq_true, beq_iff_eq, decide_eq_true_eq] at q
    omega
section KQ
variable {M N : sMem} {D G P E C W k e c g m s : Nat} {c0 c1 c2 : List Nat}
theorem KI.cls (h : KI M D G P E C W c0 c1 c2) (hF : FrB scC scQ rRow M N) (hI : RowsI (uR M) N G c0) : KI N D G P E C W c0 c1 c2 ∧ uR N = uR M := by
  obtain ⟨h1, h2, h3, ⟨h4, h5⟩, ⟨h6, h7⟩, h8, ⟨kc, h9, h10, h11⟩, h12⟩ := h
  have hl : 187 ≤ M.1.length := h3.ln
  have eu : uR N = uR M := uR_cong (fun a k q1 q2 => hF.i (by omega) (sc_out (by omega)))
  have e140 : N.2.1 140 = M.2.1 140 := funext fun k => hF.i (by omega) (sc_out (by omega))
  refine ⟨⟨hF.hs (by decide) h1, by rw [eu]; exact h2, by rw [eu]; exact h3.fb hF offD_sc offR_row, ⟨by rw [eu]; exact hI, fun k hk => by rw [hF.j (by omega) rfl]; exact h5 k hk⟩, ⟨by rw [e140]; exact h6.fr (StS54 h3.hc) hF.1 (fun j i hj => sc_out (by omega)), by rw [e140]; exact h7⟩, by rw [hF.i (by omega) (sc_out (by omega))]; exact h8, ⟨kc, h9, by rw [e140]; exact h10, by rw [hF.i (by omega) (sc_out (by omega))]; exact h11⟩, by rw [eu, hF.i (by omega) (sc_out (by omega))]; exact h12⟩, eu⟩
theorem KI.ref (h : KI M D G P E C W c0 c1 c2) (hF : Fr scR scS M N) : KI N D G P E C W c0 c1 c2 ∧ uR N = uR M := by
  obtain ⟨h1, h2, h3, ⟨h4, h5⟩, ⟨h6, h7⟩, h8, ⟨kc, h9, h10, h11⟩, h12⟩ := h
  have eu : uR N = uR M := uR_cong (fun a k q1 q2 => hF.i (scR_out (by omega)))
  have e140 : N.2.1 140 = M.2.1 140 := funext fun k => hF.i (scR_out (by omega))
  have fb : FrB (fun a k => decide (94 ≤ a) && scR a k) (fun a k => decide (94 ≤ a) && (decide (a < 187) && scS a k)) (fun _ _ => false) M N := by
    refine ⟨⟨fun a q z => by rw [hF.1]; exact z, fun a k _ z => hF.i ?_, fun a k _ z => hF.j ?_, fun a k _ _ => by rw [hF.2.1]⟩, Nat.le_of_eq hF.phi⟩
    · rcases Nat.lt_or_ge a 94 with q | q
      · exact scR_out (Or.inl q)
      · have q' : 94 ≤ a := q
        simpa [q'] using z
    · unfold scS at z ⊢
      cases q1 : (a == 185) with
      | true => have := beq_iff_eq.mp q1; subst this; simp at z
      | false =>
        cases q2 : (a == 94) with
        | false => rfl
        | true => have := beq_iff_eq.mp q2; subst this; simpa using z
  have offX : offD (fun a k => decide (94 ≤ a) && scR a k) := by
    intro a k z
    simp only [Bool.and_eq_true, decide_eq_true_eq] at z
    refine ⟨by omega, ?_⟩
    rcases Nat.lt_or_ge a 187 with q | q
    · exact q
    · have := scR_out (a := a) (k := k) (by omega); rw [this] at z; exact absurd z.2 (by decide)
  have lt94 : ∀ a k, a < 94 → N.2.1 a k = M.2.1 a k := fun a k z => hF.i (scR_out (Or.inl z))
  have k1 : RowsI (uR M) N G c0 := h4.fr h3.hc fb (fun k => rfl) (fun a k z => by
    have : ¬ a < 187 := by omega
    simp [this]) (fun _ => rfl)
  have k2 : SV (M.2.1 140) N 54 G E C := h6.fr (StS54 h3.hc) fb.1 (fun j i hj => by
    have : ¬ 94 ≤ 54 + j := by omega
    simp [this])
  have k3 : AU N := fun k hk => by rw [hF.j rfl]; exact h5 k hk
  refine ⟨⟨hF.hs h1, by rw [eu]; exact h2, by rw [eu]; exact h3.fb fb offX offR_0, ⟨by rw [eu]; exact k1, k3⟩, ⟨by rw [e140]; exact k2, by rw [e140]; exact h7⟩, by rw [hF.i rfl]; exact h8, ⟨kc, h9, by rw [e140]; exact h10, by rw [lt94 _ _ (by decide)]; exact h11⟩, by rw [eu, hF.i rfl]; exact h12⟩, eu⟩
theorem arg_c (a : Int32) (n : Nat) (hn : n < 2147483648) : (∃ j, j < n ∧ a = nI j) ∨ ¬ (0 ≤ a.toInt ∧ a.toInt < n) := by
  by_cases h : 0 ≤ a.toInt ∧ a.toInt < n
  · refine Or.inl ⟨a.toInt.toNat, by omega, eq_i.mpr ?_⟩
    rw [nI_i (by omega)]; omega
  · exact Or.inr h
theorem r_isGate (hs : RefS M.1 M.2.2.2) (hG : M.2.1 131 5 = nI G) (h6 : G ≤ 6) (z : Int64) : f_X12_isGate 94 z M = some (bI (0 ≤ z.toInt ∧ z.toInt < G)) := by
  have e0 : (0 : Int64).toInt = 0 := rfl
  have e1 : (nI G - 1).toInt64.toInt = (G : Int) - 1 := by rw [i64, sub_i (by rw [nI_i (by omega)]; show -2147483648 ≤ (G : Int) - 1; omega) (by rw [nI_i (by omega)]; show (G : Int) - 1 < 2147483648; omega), nI_i (by omega)]; rfl
  unfold f_X12_isGate
  rw [sr94 hs, (r_many hs).1, Option.bind_some, hG, isIn_of, Option.bind_some, if_pos bI_01, e0, e1]
  exact congrArg some (bI_cong (by omega))
theorem r_isPlace (hs : RefS M.1 M.2.2.2) (hG : M.2.1 131 6 = nI P) (h6 : P ≤ 7) (z : Int64) : f_X12_isPlace 94 z M = some (bI (0 ≤ z.toInt ∧ z.toInt < P)) := by
  have e0 : (0 : Int64).toInt = 0 := rfl
  have e1 : (nI P - 1).toInt64.toInt = (P : Int) - 1 := by rw [i64, sub_i (by rw [nI_i (by omega)]; show -2147483648 ≤ (P : Int) - 1; omega) (by rw [nI_i (by omega)]; show (P : Int) - 1 < 2147483648; omega), nI_i (by omega)]; rfl
  unfold f_X12_isPlace
  rw [sr94 hs, (r_many hs).2.1, Option.bind_some, hG, isIn_of, Option.bind_some, if_pos bI_01, e0, e1]
  exact congrArg some (bI_cong (by omega))
theorem r_isEra (hs : RefS M.1 M.2.2.2) (hG : M.2.1 131 7 = nI E) (h6 : E ≤ 5) (z : Int32) : f_X12_isEra 94 z M = some (bI (0 ≤ z.toInt ∧ z.toInt < E)) := by
  have e0 : (0 : Int64).toInt = 0 := rfl
  have e1 : (nI E - 1).toInt64.toInt = (E : Int) - 1 := by rw [i64, sub_i (by rw [nI_i (by omega)]; show -2147483648 ≤ (E : Int) - 1; omega) (by rw [nI_i (by omega)]; show (E : Int) - 1 < 2147483648; omega), nI_i (by omega)]; rfl
  unfold f_X12_isEra
  rw [sr94 hs, (r_many hs).2.2.1, Option.bind_some, hG, isIn_of, Option.bind_some, if_pos bI_01, e0, e1, i64]
  exact congrArg some (bI_cong (by omega))
theorem r_isCar (hs : RefS M.1 M.2.2.2) (hG : M.2.1 131 8 = nI C) (h6 : C ≤ 5) (z : Int32) : f_X12_isCar 94 z M = some (bI (0 ≤ z.toInt ∧ z.toInt < C)) := by
  have e0 : (0 : Int64).toInt = 0 := rfl
  have e1 : (nI C - 1).toInt64.toInt = (C : Int) - 1 := by rw [i64, sub_i (by rw [nI_i (by omega)]; show -2147483648 ≤ (C : Int) - 1; omega) (by rw [nI_i (by omega)]; show (C : Int) - 1 < 2147483648; omega), nI_i (by omega)]; rfl
  unfold f_X12_isCar
  rw [sr94 hs, (r_many hs).2.2.2.1, Option.bind_some, hG, isIn_of, Option.bind_some, if_pos bI_01, e0, e1, i64]
  exact congrArg some (bI_cong (by omega))
theorem r_isMin (z : Int32) : f_X12_isMinute z M = some (bI (0 ≤ z.toInt ∧ z.toInt < ((200 : Nat) : Int))) := by
  have e0 : (0 : Int64).toInt = 0 := rfl
  have e1 : (199 : Int64).toInt = 199 := rfl
  unfold f_X12_isMinute
  rw [isIn_of, Option.bind_some, if_pos bI_01, e0, e1, i64]
  exact congrArg some (bI_cong (by omega))
theorem c_isMin (z : Int32) : f_X11_isMinute z M = some (bI (0 ≤ z.toInt ∧ z.toInt < ((200 : Nat) : Int))) := by
  have e0 : (0 : Int32).toInt = 0 := rfl
  have e2 : (200 : Int32).toInt = 200 := rfl
  unfold f_X11_isMinute
  by_cases h1 : z < 0
  · have := lt_i.mp h1
    rw [if_pos h1, bI_f (by omega)]
  · have h1' : ¬ z.toInt < (0 : Int32).toInt := fun q => h1 (lt_i.mpr q)
    rw [if_neg h1]
    by_cases h2 : (200 : Int32) ≤ z
    · have := le_i.mp h2
      rw [if_pos h2, bI_f (by omega)]
    · have h2' : ¬ (200 : Int32).toInt ≤ z.toInt := fun q => h2 (le_i.mpr q)
      rw [if_neg h2, bI_t (by omega)]
end KQ
