/-! WHAT A TEXT LEAVES, bad or good: the core of what holds -/
def Cor (M : sMem) (D Do G P E C W : Nat) (c0 c1 c2 : List Nat) (pc pn : Nat) : Prop := KI M D G P E C W c0 c1 c2 ∧ (I_nm M D G P E C ∧ I_kp M) ∧ (I_ps M ∧ I_un M G P E C pc pn) ∧ I_tx M D Do
section COR
variable {M N : sMem} {D Do G P E C W n pc pn : Nat} {c0 c1 c2 : List Nat} {X Q : Nat → Nat → Bool}
theorem IX.cor (h : IX M D Do G P E C W c0 c1 c2 n pc pn) : Cor M D Do G P E C W c0 c1 c2 pc pn := ⟨h.1, ⟨h.2.1.2.1, h.2.1.2.2⟩, h.2.2.1, h.2.2.2.2.2⟩
theorem Cor.st (h : Cor M D Do G P E C W c0 c1 c2 pc pn) (hF : Fr X Q M N) (hX : ∀ a k, iX a k = true → X a k = false) (hQ : ∀ a k, a = 74 ∨ a = 132 ∨ 187 ≤ a → Q a k = false) : Cor N D Do G P E C W c0 c1 c2 pc pn := by
  obtain ⟨k, ⟨t2, t3⟩, ⟨u1, u2⟩, t9⟩ := h
  obtain ⟨k2, _⟩ := k.fr hF (fun a k z => hX a k (iX_y (by unfold kX at z; simp only [Bool.or_eq_true, Bool.and_eq_true, beq_iff_eq, decide_eq_true_eq] at z; omega))) (fun a k z => hQ a k (by omega))
  have hl : 187 ≤ M.1.length := k.2.2.1.ln
  have hD : D = 10 ∨ D = 32 := k.2.2.1.hD
  refine ⟨k2, ⟨t2.fr (fun a k _ _ => hF.i (hX _ _ (iX_y (by omega)))) (fun k => hF.j (hQ _ _ (by omega))), t3.fr (fun k => hF.i (hX _ _ (iX_y (by omega)))) (fun k => hF.i (hX _ _ (iX_y (by omega))))⟩, ⟨u1.fr (fun a q z => by rw [hF.1]; exact z) (fun j => by rw [hF.2.1]) (fun a k _ _ => by rw [hF.2.1]), u2.fr u1 (hF.i (hX _ _ (iX_y (by omega)))) (hF.i (hX _ _ (iX_y (by omega)))) (hF.i (hX _ _ (iX_y (by omega)))) (hF.i (hX _ _ (iX_y (by omega)))) (fun k => hF.i (hX _ _ (iX_y (by omega)))) (fun j => by rw [hF.2.1]) (fun a k q z _ _ => hF.i (hX _ _ (iX_y (by omega))))⟩, ?_⟩
  exact t9.fb (hF.fb (R := fun _ _ => false)) (fun a k z => hX _ _ (iX_y (by unfold isWc at z; omega))) (fun _ _ => rfl) rfl
theorem pr3_prg (hD : D = 10 ∨ D = 32) {i : Nat} (hi : i < 3) : pr3 D i ∈ prgL := by
  rcases hD with rfl | rfl
  · match i, hi with
    | 0, _ => decide
    | 1, _ => decide
    | 2, _ => decide
  · match i, hi with
    | 0, _ => decide
    | 1, _ => decide
    | 2, _ => decide
theorem sf_len (hF : SF D M N) : M.1.length ≤ N.1.length := by
  rcases Nat.eq_zero_or_pos M.1.length with h0 | h0
  · omega
  · have := lt_of_sh (hF.1 (M.1.length - 1) _ (List.getElem?_eq_getElem (by omega)))
    omega
/-- cells of States behind 187 are left alone -/
theorem sf_st (hA : PA M) (hD : D = 10 ∨ D = 32) (hF : SF D M N) {a k : Nat} {q : Nat × Nat} (ha : 187 ≤ a) (hq : M.1[a]? = some q) (hs : shS q) : N.2.1 a k = M.2.1 a k := by
  refine hF.2.1 a k (lt_of_sh hq) ?_ (by omega) (fun i hi z => hA.nS (pr3_prg hD hi) z hq hs)
  unfold tpX
  rw [beq_eq_false_iff_ne.mpr (show a ≠ 1 by omega)]; rfl
theorem sf_ps (hF : SF D M N) (hD : D = 10 ∨ D = 32) (hl : 187 ≤ M.1.length) (h : I_ps M) : I_ps N := h.fr hF.1 (fun j => hF.2.2.2.1 66 j (by omega) (fun i hi z => by unfold pr3 at z; omega)) (fun a k ha hq => hF.2.2.2.1 a k (lt_of_sh hq) (fun i hi z => by unfold pr3 at z; omega))
theorem tp_no {a k : Nat} (h : a ≠ 1) : tpX a k = false := by unfold tpX; rw [beq_eq_false_iff_ne.mpr h]; rfl
theorem Cor.sf (h : Cor M D Do G P E C W c0 c1 c2 pc pn) (hF : SF Do M N) (hcN : ClsS N.1 N.2.2.2) (hAN : PA N) (hWN : TWa N Do) : Cor N D Do G P E C W c0 c1 c2 pc pn := by
  obtain ⟨k, ⟨t2, t3⟩, ⟨u1, u2⟩, ⟨⟨r1, hA, r3⟩, ⟨w1, w2⟩, r4, r5⟩⟩ := h
  have hl : 187 ≤ M.1.length := k.2.2.1.ln
  have hD : (Do = 10 ∧ D = 32) ∨ (Do = 32 ∧ D = 10) := by omega
  have hD1 : Do = 10 ∨ Do = 32 := by omega
  have v : ∀ a k, a < 187 → a ≠ 1 → ¬ (Do ≤ a ∧ a ≤ Do + 21) → N.2.1 a k = M.2.1 a k := fun a k h1 h2 h3 => sf_v hA hD1 hF h1 (tp_no h2) h3
  have rr : ∀ a k, a < M.1.length → (a < 10 ∨ 54 ≤ a) → N.2.2.2 a k = M.2.2.2 a k := fun a k h1 h2 => hF.2.2.2.1 a k h1 (fun i hi z => by unfold pr3 at z; omega)
  obtain ⟨h1, h2, h3, ⟨h4, h5⟩, ⟨h6, h7⟩, h8, ⟨kc, h9, h10, h11⟩, h12⟩ := k
  have eu : uR N = uR M := uR_cong (fun a k q1 q2 => v a k (by omega) (by omega) (by omega))
  have e140 : N.2.1 140 = M.2.1 140 := funext fun k => v 140 k (by omega) (by omega) (by omega)
  have hs : RefS N.1 N.2.2.2 := ⟨fun q hq => hF.1 _ _ (h1.1 q hq), fun q hq => by rw [rr 94 _ (by omega) (by omega)]; exact h1.2 q hq⟩
  have hV : SV (M.2.1 140) N 54 G E C := h6.sm (fun _ => rfl) (fun j k hj => v _ _ (by omega) (by omega) (by omega))
  refine ⟨⟨hs, by rw [eu]; exact h2, by rw [eu]; exact cv_sf hA hD h3 hF hcN, ⟨by rw [eu]; exact sf_rows hA hD1 hF h4, fun k hk => by rw [hF.2.2.1 74 k (by omega)]; exact h5 k hk⟩, ⟨by rw [e140]; exact hV, by rw [e140]; exact h7⟩, by rw [v 94 70 (by omega) (by omega) (by omega)]; exact h8, ⟨kc, h9, by rw [e140]; exact h10, by rw [v 54 7 (by omega) (by omega) (by omega)]; exact h11⟩, by rw [eu, v 94 57 (by omega) (by omega) (by omega)]; exact h12⟩, ⟨t2.fr (fun a k q1 q2 => v a k (by omega) (by omega) (by omega)) (fun k => hF.2.2.1 132 k (by omega)), t3.fr (fun k => v 59 k (by omega) (by omega) (by omega)) (fun k => v 140 k (by omega) (by omega) (by omega))⟩, ⟨sf_ps hF hD1 hl u1, ?_⟩, ⟨?_, hAN, Nat.le_trans hF.2.2.2.2.2 r3⟩, ?_, ?_, r5⟩
  · exact u2.fr u1 (v 0 7 (by omega) (by omega) (by omega)) (v 0 8 (by omega) (by omega) (by omega)) (v 94 85 (by omega) (by omega) (by omega)) (v 94 86 (by omega) (by omega) (by omega)) (fun k => v 155 k (by omega) (by omega) (by omega)) (fun j => rr 66 j (by omega) (by omega)) (fun a k q ha hq hs => sf_st hA hD1 hF ha hq hs)
  · exact r1.fr (fun c k hc => v c k (by unfold isWc at hc; omega) (by unfold isWc at hc; omega) (by unfold isWc at hc; omega))
  · rcases hD with ⟨q1, q2⟩ | ⟨q1, q2⟩
    · subst q1; subst q2
      exact ⟨hWN, sf_tw hA (Or.inl ⟨rfl, rfl⟩) hF w2⟩
    · subst q1; subst q2
      exact ⟨sf_tw hA (Or.inr ⟨rfl, rfl⟩) hF w1, hWN⟩
  · rw [rr 0 3 (by omega) (by omega)]; exact r4
theorem r57_n {a k : Nat} (h : ¬ (a = 94 ∧ (k = 1 ∨ k = 2 ∨ k = 3 ∨ k = 4 ∨ k = 5 ∨ k = 6 ∨ k = 10 ∨ k = 44 ∨ k = 55 ∨ k = 56 ∨ k = 58 ∨ k = 116 ∨ k = 118 ∨ k = 119 ∨ k = 120))) (h2 : a ≠ 183 ∧ a ≠ 184) (h3 : ¬ (130 ≤ a ∧ a ≤ 139)) : r57 a k = false := Bool.eq_false_iff.mpr (fun y => by
  unfold r57 r56 rdX rqX rlX qX at y
  simp only [Bool.or_eq_true, Bool.and_eq_true, beq_iff_eq, decide_eq_true_eq] at y
  omega)
theorem Cor.rr7 (h : Cor M D Do G P E C W c0 c1 c2 pc pn) (hF : Fr r57 rdJ M N) : Cor N D Do G P E C W c0 c1 c2 pc pn := by
  obtain ⟨k, ⟨t2, t3⟩, ⟨u1, u2⟩, t9⟩ := h
  have hl : 187 ≤ M.1.length := k.2.2.1.ln
  have hD : D = 10 ∨ D = 32 := k.2.2.1.hD
  obtain ⟨h1, h2, h3, ⟨h4, h5⟩, ⟨h6, h7⟩, h8, ⟨kc, h9, h10, h11⟩, h12⟩ := k
  have U : UH2 (uR M) (uR N) := uR_u2 (fun a k z => hF.i (r57_2 z))
  have v : ∀ a k, a ≠ 94 → a ≠ 183 → a ≠ 184 → ¬ (130 ≤ a ∧ a ≤ 139) → N.2.1 a k = M.2.1 a k := fun a k q1 q2 q3 q4 => hF.i (r57_n (fun z => q1 z.1) ⟨q2, q3⟩ q4)
  have e140 : N.2.1 140 = M.2.1 140 := funext fun k => v 140 k (by omega) (by omega) (by omega) (by omega)
  have fb : FrB r57 rdJ (fun _ _ => false) M N := hF.fb
  have offX : offD r57 := by
    intro a k z
    by_cases q : (a < 10 ∨ 54 ≤ a) ∧ a < 187
    · exact q
    · rw [r57_out (by omega)] at z; cases z
  refine ⟨⟨hF.hs h1, h2.u2 U, (h3.fb fb offX offR_0).u2 U, ⟨(h4.fr h3.hc fb (fun k => r57_out (by omega)) (fun a k z => by unfold rdJ; rw [beq_eq_false_iff_ne.mpr (show a ≠ 132 by omega)]; rfl) (fun _ => rfl)).u2 U, fun k hk => by rw [hF.j rfl]; exact h5 k hk⟩, ⟨by rw [e140]; exact h6.fr (StS54 h3.hc) fb.1 (fun j i hj => r57_out (by omega)), by rw [e140]; exact h7⟩, by rw [hF.i (r57_n (by omega) (by omega) (by omega))]; exact h8, ⟨kc, h9, by rw [e140]; exact h10, by rw [v 54 7 (by omega) (by omega) (by omega) (by omega)]; exact h11⟩, by rw [U 130 2 (by omega), hF.i (r57_n (by omega) (by omega) (by omega))]; exact h12⟩, ⟨fun kd i hk hi => ?_, t3.fr (fun k => v 59 k (by omega) (by omega) (by omega) (by omega)) (fun k => v 140 k (by omega) (by omega) (by omega) (by omega))⟩, ⟨u1.fr (fun a q z => by rw [hF.1]; exact z) (fun j => by rw [hF.2.1]) (fun a k _ _ => by rw [hF.2.1]), ?_⟩, ?_⟩
  · obtain ⟨L, a1, a2, a3⟩ := t2 kd i hk hi
    have hk2 : ofK kd ≤ 13 := (by match kd, hk with | 0, _ => decide | 1, _ => decide | 2, _ => decide | 3, _ => decide)
    refine ⟨L, a1, by rw [v _ _ (by omega) (by omega) (by omega) (by omega)]; exact a2, by rw [hF.j (by unfold rdJ; rw [decide_eq_false (by omega), Bool.and_false])]; exact a3⟩
  · exact u2.fr u1 (v 0 7 (by omega) (by omega) (by omega) (by omega)) (v 0 8 (by omega) (by omega) (by omega) (by omega)) (hF.i (r57_n (by omega) (by omega) (by omega))) (hF.i (r57_n (by omega) (by omega) (by omega))) (fun k => v 155 k (by omega) (by omega) (by omega) (by omega)) (fun j => by rw [hF.2.1]) (fun a k q z _ _ => v a k (by omega) (by omega) (by omega) (by omega))
  · exact t9.fb fb (fun a k z => r57_n (by unfold isWc at z; omega) (by unfold isWc at z; omega) (by unfold isWc at z; omega)) (fun _ _ => rfl) rfl
end COR
