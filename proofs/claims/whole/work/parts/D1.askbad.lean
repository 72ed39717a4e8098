/-! A QUESTION that can't be read -/
section ASB
variable {M N : sMem} {D Do G P E C W n pc pn : Nat} {c0 c1 c2 : List Nat}
def pEn : Nat → Nat → Bool := fun a k => (a == 1 || a == 94) && k == 1
theorem ask_untold (h : IX M D Do G P E C W c0 c1 c2 n pc pn) (ht : ¬ 0 < (uR M 130 2).toInt) : ∃ r M1 M2, f_X11_ask 0 M = some (r, M1) ∧ f_X12_ask 94 M1 = some (r, M2) ∧ Inv M2 := by
  have k := h.1
  have hc := k.hc
  obtain ⟨t1, t2, t3, t4⟩ := h.2.1.1
  have e57 : M.2.1 94 57 = 0 := by rw [k.2.2.2.2.2.2.2, bI_f ht]
  have hF : Fr pEn q0 M (wrI (wrI M 1 1 0) 94 1 0) := (Fr.rf.wi rfl).wi rfl
  have v : ∀ a k, ¬ (a = 1 ∧ k = 1) → ¬ (a = 94 ∧ k = 1) → (wrI (wrI M 1 1 0) 94 1 0).2.1 a k = M.2.1 a k := fun a k h1 h2 => by rw [wrI_ne h2, wrI_ne h1]
  refine ⟨-1000000000000000, wrI M 1 1 0, wrI (wrI M 1 1 0) 94 1 0, ?_, ?_, ?_⟩
  · unfold f_X11_ask f_X11_ask_B18
    simp only [sr0 hc, c_isTold k, bI_f ht, gr0_0 hc, pi1 hc, Option.bind_some]
    rw [if_pos trivial, if_pos trivial]
  · unfold f_X12_ask
    have hs1 : RefS (wrI M 1 1 0).1 (wrI M 1 1 0).2.2.2 := k.1
    rw [sr94 hs1, gi94 hs1, Option.bind_some, wrI_ne (by omega), e57, if_pos rfl, pi94 hs1]
    rfl
  · obtain ⟨_, _, _, s4, ⟨s5, s6, s7, s8⟩, _⟩ := id h
    exact (h.st (n' := 0) hF (fun a k z => Bool.eq_false_iff.mpr (fun y => by unfold iX at z; unfold pEn at y; simp only [Bool.or_eq_true, Bool.and_eq_true, beq_iff_eq, decide_eq_true_eq] at y z; omega)) (fun _ _ _ => rfl) ⟨by omega, by rw [wrI_ne (by omega), wrI_eq]; rfl, by rw [wrI_eq]; rfl, fun i hi => by omega⟩ (s4.fr (v _ _ (by omega) (by omega)) (v _ _ (by omega) (by omega)) (fun i => v _ _ (by omega) (by omega)) (fun i => v _ _ (by omega) (by omega))) (s5.fr (v _ _ (by omega) (by omega)) rfl) (s6.fr (fun i => v _ _ (by omega) (by omega)) (fun i => v _ _ (by omega) (by omega))) (s7.fr (v _ _ (by omega) (by omega)) (v _ _ (by omega) (by omega)) (v _ _ (by omega) (by omega)) (v _ _ (by omega) (by omega))) (s8.fr (v _ _ (by omega) (by omega)) (v _ _ (by omega) (by omega)) (fun i => v _ _ (by omega) (by omega)) (fun i => v _ _ (by omega) (by omega)))).inv
/-- what reading a question leaves, in both -/
theorem ask_read (h : IX M D Do G P E C W c0 c1 c2 n pc pn) (ht : 0 < (uR M 130 2).toInt) : ∃ v N e R, f_X11_ask 0 M = f_X11_ask_B18 0 v N ∧ Cor N D Do G P E C W c0 c1 c2 pc pn ∧ (∀ a k, a < 187 → ¬ (3 ≤ a ∧ a ≤ 6) → a ≠ 8 → a ≠ 9 → (a ≠ 1 ∨ k < 6) → N.2.1 a k = M.2.1 a k) ∧ N.2.2.1 94 87 = M.2.2.1 94 87 ∧ QZ e N v R ∧
    ∀ O : sMem, (∀ a k, 94 ≤ a → a < 187 → O.2.1 a k = N.2.1 a k) → RefS O.1 O.2.2.2 → ∃ kv O', f_X12_ask 94 O = f_X12_ask_B133 94 kv O' ∧ Fr raX q0 O O' ∧ O'.2.1 94 1 = 0 ∧ match R with | .inl q => O'.2.1 94 5 = q.1 ∧ O'.2.1 94 6 = q.2 | .inr (k, cs) => kv = nI k ∧ (O'.2.1 94 5 = 0 ∧ O'.2.1 94 6 = mI) ∧ O'.2.1 94 116 = nI cs.length ∧ ∀ (i : Nat) (h : i < cs.length), O'.2.1 183 i = nI cs[i] := by
  have cor := h.cor
  obtain ⟨hn, t1, t2, t3⟩ := h.2.1.1
  obtain ⟨⟨rw', hA, hPot⟩, ⟨w1, w2⟩, r03, hDD⟩ := h.2.2.2.2.2
  have hc := h.1.hc
  have hl : 187 ≤ M.1.length := h.1.cv.ln
  obtain ⟨b, hb⟩ : ∃ b : Nat → Int32, b = fun i => M.2.1 2 i := ⟨_, rfl⟩
  have hC : CT b n M := ⟨hc, t1, hn, fun i _ => by rw [hb]⟩
  have hbe : ∀ i, i < n → M.2.1 95 i = b i := fun i hi => by rw [hb]; exact (t3 i hi).1.symm
  have hbn : ∀ i, i < n → b i ≠ mI := fun i hi z => by
    obtain ⟨v, v1, v2⟩ := (t3 i hi).2
    rw [← hbe i hi, v2, cneg (by omega)] at z
    exact z
  obtain ⟨v, N, M1, e, sa, sz, a1, a2, a3, a4, a5, a6⟩ := c_quest hC hA
  have cor1 := cor.st a2 (fun a k z => sr_ix z) (fun _ _ _ => rfl)
  have cor2 := cor1.fp a4 a5
  have hA1 : PA M1 := cor1.2.2.2.1.2.1
  have hl1 : 187 ≤ M1.1.length := cor1.1.cv.ln
  have hv : ∀ a k, a < 187 → ¬ (3 ≤ a ∧ a ≤ 6) → a ≠ 8 → a ≠ 9 → (a ≠ 1 ∨ k < 6) → N.2.1 a k = M.2.1 a k := fun a k q1 q2 q3 q4 q5 => by
    have h9 : M1.2.2.2 8 0 ≠ some a := fun z => by
      obtain ⟨_, q, m, s, b2, _, _, _, _, b7⟩ := hA1.2.1 8 (by decide)
      rw [b2] at z
      cases z
      omega
    rw [a4.2.1 a k (by omega) (tp_no2 q5) q3 h9]
    exact a2.i (sr_no q2 q5)
  refine ⟨v, N, e, quR M1.2.1, ?_, cor2, hv, ?_, a6, fun O hO hsO => ?_⟩
  · unfold f_X11_ask
    simp only [sr0 hc, c_isTold h.1, bI_t ht, gr0_1 hc, Option.bind_some, a1]
    rw [if_neg (by decide)]
  · rw [a4.2.2.1 94 87 (by omega)]; exact a2.j rfl
  · have vO : ∀ a k, 94 ≤ a → a < 187 → O.2.1 a k = M.2.1 a k := fun a k q1 q2 => by
      rw [hO a k q1 q2]
      exact hv a k q2 (by omega) (by omega) (by omega) (Or.inl (by omega))
    have hT : RT b n O := ⟨hsO, rw'.fr (fun c k hc => vO c k (by unfold isWc at hc; omega) (by unfold isWc at hc; omega)), by rw [vO 94 1 (by omega) (by omega)]; exact t2, fun i hi => by rw [vO 95 i (by omega) (by omega)]; exact hbe i hi⟩
    have h57 : O.2.1 94 57 ≠ 0 := by rw [vO 94 57 (by omega) (by omega), h.1.2.2.2.2.2.2.2, bI_t ht]; decide
    obtain ⟨kv, O', o1, o2, o3, _, o5⟩ := r_quest a3 hbn hT h57
    refine ⟨kv, O', o1, o2, o3, ?_⟩
    revert o5
    match quR M1.2.1 with
    | .inl q => exact fun o5 => ⟨o5.1, o5.2.1⟩
    | .inr (k, cs) => exact fun o5 => ⟨o5.1, ⟨o5.2.2.1.1, o5.2.2.1.2.2.2.2⟩, o5.2.2.2⟩
end ASB
