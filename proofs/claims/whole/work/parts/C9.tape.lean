/-! CALLS that change little: feed, end, seed; refusals -/
def kX : Nat → Nat → Bool := fun a k => (decide (10 ≤ a) && decide (a ≤ 58)) || (decide (130 ≤ a) && decide (a ≤ 140)) || a == 78 || decide (187 ≤ a) || (a == 94 && (k == 57 || k == 70))
def iX : Nat → Nat → Bool := fun a k => (decide (8 ≤ a) && decide (a ≤ 59)) || (decide (97 ≤ a) && decide (a ≤ 140)) || (decide (155 ≤ a) && decide (a ≤ 182)) || decide (187 ≤ a) || a == 78 || (a == 94 && (k == 57 || k == 70 || k == 85 || k == 86)) || (a == 0 && (k == 7 || k == 8))
section SML
variable {M N : sMem} {D Do G P E C W k e c g m s n n' pc pn : Nat} {c0 c1 c2 : List Nat} {X Q : Nat → Nat → Bool}
theorem kX_y {a k : Nat} (h : (10 ≤ a ∧ a ≤ 58) ∨ (130 ≤ a ∧ a ≤ 140) ∨ a = 78 ∨ 187 ≤ a ∨ (a = 94 ∧ (k = 57 ∨ k = 70))) : kX a k = true := by
  unfold kX
  simp only [Bool.or_eq_true, Bool.and_eq_true, beq_iff_eq, decide_eq_true_eq]
  omega
theorem iX_y {a k : Nat} (h : (8 ≤ a ∧ a ≤ 59) ∨ (97 ≤ a ∧ a ≤ 140) ∨ (155 ≤ a ∧ a ≤ 182) ∨ 187 ≤ a ∨ a = 78 ∨ (a = 94 ∧ (k = 57 ∨ k = 70 ∨ k = 85 ∨ k = 86)) ∨ (a = 0 ∧ (k = 7 ∨ k = 8))) : iX a k = true := by
  unfold iX
  simp only [Bool.or_eq_true, Bool.and_eq_true, beq_iff_eq, decide_eq_true_eq]
  omega
theorem KI.fr (h : KI M D G P E C W c0 c1 c2) (hF : Fr X Q M N) (hX : ∀ a k, kX a k = true → X a k = false) (hQ : ∀ a k, a = 74 ∨ 187 ≤ a → Q a k = false) : KI N D G P E C W c0 c1 c2 ∧ uR N = uR M := by
  obtain ⟨h1, h2, h3, ⟨h4, h5⟩, ⟨h6, h7⟩, h8, ⟨kc, h9, h10, h11⟩, h12⟩ := h
  have eu : uR N = uR M := uR_cong (fun a k q1 q2 => hF.i (hX _ _ (kX_y (by omega))))
  have e140 : N.2.1 140 = M.2.1 140 := funext fun k => hF.i (hX _ _ (kX_y (by omega)))
  have fb : FrB X Q (fun _ _ => false) M N := hF.fb
  have offX : offD X := by
    intro a k z
    by_cases q : (a < 10 ∨ 54 ≤ a) ∧ a < 187
    · exact q
    · rw [hX a k (kX_y (by omega))] at z; cases z
  refine ⟨⟨hF.hs h1, by rw [eu]; exact h2, by rw [eu]; exact h3.fb fb offX offR_0, ⟨by rw [eu]; exact h4.fr h3.hc fb (fun k => hX _ _ (kX_y (by omega))) (fun a k z => hQ a k (Or.inr z)) (fun _ => rfl), fun k hk => by rw [hF.j (hQ _ _ (Or.inl rfl))]; exact h5 k hk⟩, ⟨by rw [e140]; exact h6.fr (StS54 h3.hc) fb.1 (fun j i hj => hX _ _ (kX_y (by omega))), by rw [e140]; exact h7⟩, by rw [hF.i (hX _ _ (kX_y (by omega)))]; exact h8, ⟨kc, h9, by rw [e140]; exact h10, by rw [hF.i (hX _ _ (kX_y (by omega)))]; exact h11⟩, by rw [eu, hF.i (hX _ _ (kX_y (by omega)))]; exact h12⟩, eu⟩
theorem IX.st (h : IX M D Do G P E C W c0 c1 c2 n pc pn) (hF : Fr X Q M N) (hX : ∀ a k, iX a k = true → X a k = false) (hQ : ∀ a k, a = 74 ∨ a = 132 ∨ 187 ≤ a → Q a k = false) (h1 : I_tp N n') (h2 : I_sn N G) (h3 : I_sd N) (h4 : I_rf N) (h5 : I_fl N) (h6 : I_im N) : IX N D Do G P E C W c0 c1 c2 n' pc pn := by
  obtain ⟨k, ⟨t1, t2, t3⟩, ⟨u1, u2⟩, t4, t5, t9⟩ := h
  obtain ⟨k2, _⟩ := k.fr hF (fun a k z => hX a k (iX_y (by unfold kX at z; simp only [Bool.or_eq_true, Bool.and_eq_true, beq_iff_eq, decide_eq_true_eq] at z; omega))) (fun a k z => hQ a k (by omega))
  have hl : 187 ≤ M.1.length := k.2.2.1.ln
  have hD : D = 10 ∨ D = 32 := k.2.2.1.hD
  refine ⟨k2, ⟨h1, t2.fr (fun a k _ _ => hF.i (hX _ _ (iX_y (by omega)))) (fun k => hF.j (hQ _ _ (by omega))), t3.fr (fun k => hF.i (hX _ _ (iX_y (by omega)))) (fun k => hF.i (hX _ _ (iX_y (by omega))))⟩, ⟨u1.fr (fun a q z => by rw [hF.1]; exact z) (fun j => by rw [hF.2.1]) (fun a k _ _ => by rw [hF.2.1]), u2.fr u1 (hF.i (hX _ _ (iX_y (by omega)))) (hF.i (hX _ _ (iX_y (by omega)))) (hF.i (hX _ _ (iX_y (by omega)))) (hF.i (hX _ _ (iX_y (by omega)))) (fun k => hF.i (hX _ _ (iX_y (by omega)))) (fun j => by rw [hF.2.1]) (fun a k q z _ _ => hF.i (hX _ _ (iX_y (by omega))))⟩, h2, ⟨h3, h4, h5, h6⟩, ?_⟩
  exact t9.fb (hF.fb (R := fun _ _ => false)) (fun a k z => hX _ _ (iX_y (by unfold isWc at z; omega))) (fun _ _ => rfl) rfl
theorem c_refuse (hc : ClsS M.1 M.2.2.2) (hk : k < 6) : f_X11_refuse 0 (nI k) M = some (-1, wrI M 93 k (M.2.1 93 k + 1)) := by
  unfold f_X11_refuse
  rw [sr0 hc, gr0_18 hc, Option.bind_some, ld93 hc hk, Option.bind_some, st93 hc hk]
  rfl
theorem r_refuse (hs : RefS M.1 M.2.2.2) (hk : k < 6) : f_X12_refuses 94 (nI k) M = some (-1, wrI M 96 k (M.2.1 96 k + 1)) := by
  unfold f_X12_refuses
  rw [sr94 hs, gr94_9 hs, Option.bind_some, ld96 hs hk, Option.bind_some, st96 hs hk]
  rfl
/-- both refuse -/
def rfM (M : sMem) (k : Nat) : sMem := wrI (wrI M 93 k (M.2.1 93 k + 1)) 96 k (M.2.1 96 k + 1)
theorem IX.rf (h : IX M D Do G P E C W c0 c1 c2 n pc pn) (hk : k < 6) : IX (rfM M k) D Do G P E C W c0 c1 c2 n pc pn := by
  obtain ⟨_, ⟨t1, _⟩, _, t4, ⟨t5, t6, t7, t8⟩, _⟩ := id h
  have v : ∀ a j, a ≠ 93 → a ≠ 96 → (rfM M k).2.1 a j = M.2.1 a j := fun a j h1 h2 => by unfold rfM; rw [wrI_ne (by omega), wrI_ne (by omega)]
  have hF : Fr (fun a k => a == 93 || a == 96) q0 M (rfM M k) := (Fr.rf.wi rfl).wi rfl
  refine h.st hF (fun a k z => Bool.eq_false_iff.mpr (fun y => by unfold iX at z; simp only [Bool.or_eq_true, Bool.and_eq_true, beq_iff_eq, decide_eq_true_eq] at y z; omega)) (fun _ _ _ => rfl) (t1.fr (v _ _ (by decide) (by decide)) (v _ _ (by decide) (by decide)) (fun i => v _ _ (by decide) (by decide)) (fun i => v _ _ (by decide) (by decide))) (t4.fr (v _ _ (by decide) (by decide)) (v _ _ (by decide) (by decide)) (fun i => v _ _ (by decide) (by decide)) (fun i => v _ _ (by decide) (by decide))) (t5.fr (v _ _ (by decide) (by decide)) rfl) (fun j hj => ?_) (t7.fr (v _ _ (by decide) (by decide)) (v _ _ (by decide) (by decide)) (v _ _ (by decide) (by decide)) (v _ _ (by decide) (by decide))) (t8.fr (v _ _ (by decide) (by decide)) (v _ _ (by decide) (by decide)) (fun i => v _ _ (by decide) (by decide)) (fun i => v _ _ (by decide) (by decide)))
  unfold rfM
  by_cases q : j = k
  · subst q
    rw [wrI_ne (by omega), wrI_eq, wrI_eq, t6 j hj]
  · rw [wrI_ne (by omega), wrI_ne (by omega), wrI_ne (by omega), wrI_ne (by omega)]
    exact t6 j hj
/-- the reference's refusal behind the class's -/
theorem r_rf (hs : RefS M.1 M.2.2.2) {x : Int32} (hk : k < 6) : (gR 12 127 9 (wrI M 93 k x) 94 = some 96) ∧ ldI 14 (wrI M 93 k x) 96 (nI k) = some (M.2.1 96 k) ∧ ∀ y, stI (wrI M 93 k x) 96 (nI k) y = some (wrI (wrI M 93 k x) 96 k y) := by
  have h1 : RefS (wrI M 93 k x).1 (wrI M 93 k x).2.2.2 := hs
  refine ⟨gr94_9 h1, ?_, fun y => st96 h1 hk⟩
  rw [ld96 h1 hk, wrI_ne (by omega)]
theorem KI.rf (h : KI M D G P E C W c0 c1 c2) {x : Int32} : KI (wrI M 93 k x) D G P E C W c0 c1 c2 := (h.fr (X := fun a k => a == 93) (Q := q0) (Fr.rf.wi rfl) (fun a k z => Bool.eq_false_iff.mpr (fun y => by unfold kX at z; simp only [Bool.or_eq_true, Bool.and_eq_true, beq_iff_eq, decide_eq_true_eq] at y z; omega)) (fun _ _ _ => rfl)).1
theorem ok_end (h : IX M D Do G P E C W c0 c1 c2 n pc pn) (a : Int32) : ∃ r M1 M2, f_X11_end 0 a M = some (r, M1) ∧ f_X12_end 94 a M1 = some (r, M2) ∧ Inv M2 := by
  have k := h.1
  have hc := k.hc
  obtain ⟨t1, t2, t3, t4⟩ := h.2.1.1
  have bad : ¬ (¬ a < 0 ∧ a ≤ nI n) → ∃ r M1 M2, f_X11_end 0 a M = some (r, M1) ∧ f_X12_end 94 a M1 = some (r, M2) ∧ Inv M2 := fun hn => by
    obtain ⟨r1, r2, r3⟩ := r_rf (k := 0) (x := M.2.1 93 0 + 1) k.1 (by decide)
    refine ⟨0, wrI M 93 0 (M.2.1 93 0 + 1), rfM M 0, ?_, ?_, (h.rf (k := 0) (by decide)).inv⟩
    · unfold f_X11_end f_X11_end_B15
      simp only [sr0 hc, gr0_0 hc, gi1 hc, Option.bind_some, t2, show f_X11_refuse 0 0 M = some (-1, wrI M 93 0 (M.2.1 93 0 + 1)) from c_refuse hc (by decide)]
      by_cases q : a < 0
      · rw [if_pos q]
      · rw [if_neg q, if_neg (fun z => hn ⟨q, z⟩)]
    · unfold f_X12_end f_X12_end_B12
      have e1 : gI 12 127 1 (wrI M 93 0 (M.2.1 93 0 + 1)) 94 = some (nI n) := by rw [gi94 (M := wrI M 93 0 (M.2.1 93 0 + 1)) k.1, wrI_ne (by omega), t3]
      simp only [sr94 (M := wrI M 93 0 (M.2.1 93 0 + 1)) k.1, e1, r1, show ldI 14 (wrI M 93 0 (M.2.1 93 0 + 1)) 96 0 = some (M.2.1 96 0) from r2, show ∀ y, stI (wrI M 93 0 (M.2.1 93 0 + 1)) 96 0 y = some (wrI (wrI M 93 0 (M.2.1 93 0 + 1)) 96 0 y) from r3, Option.bind_some]
      by_cases q : a < 0
      · rw [if_pos q]; rfl
      · rw [if_neg q, if_neg (fun z => hn ⟨q, z⟩)]; rfl
  by_cases q : ¬ a < 0 ∧ a ≤ nI n
  · obtain ⟨j, hj⟩ : ∃ j, j ≤ n ∧ a = nI j := by
      have q1 := le_i.mp (Int32.not_lt.mp q.1)
      have q2 := le_i.mp q.2
      have e0 : (0 : Int32).toInt = 0 := rfl
      rw [nI_i (by omega)] at q2
      exact ⟨a.toInt.toNat, by omega, eq_i.mpr (by rw [nI_i (by omega)]; omega)⟩
    obtain ⟨hj, rfl⟩ := hj
    have hF : Fr (fun a k => (a == 1 || a == 94) && k == 1) q0 M (wrI (wrI M 1 1 (nI j)) 94 1 (nI j)) := (Fr.rf.wi rfl).wi rfl
    have v : ∀ a k, ¬ (a = 1 ∧ k = 1) → ¬ (a = 94 ∧ k = 1) → (wrI (wrI M 1 1 (nI j)) 94 1 (nI j)).2.1 a k = M.2.1 a k := fun a k h1 h2 => by rw [wrI_ne h2, wrI_ne h1]
    refine ⟨1, wrI M 1 1 (nI j), wrI (wrI M 1 1 (nI j)) 94 1 (nI j), ?_, ?_, ?_⟩
    · unfold f_X11_end
      simp only [sr0 hc, gr0_0 hc, gi1 hc, pi1 hc, Option.bind_some, t2]
      rw [if_neg q.1, if_pos q.2]
    · unfold f_X12_end
      have hs1 : RefS (wrI M 1 1 (nI j)).1 (wrI M 1 1 (nI j)).2.2.2 := k.1
      simp only [sr94 hs1, gi94 hs1, pi94 hs1, Option.bind_some]
      rw [wrI_ne (by omega), t3, if_neg q.1, if_pos q.2]
    · obtain ⟨_, _, _, s4, ⟨s5, s6, s7, s8⟩, _⟩ := id h
      exact (h.st (n' := j) hF (fun a k z => Bool.eq_false_iff.mpr (fun y => by unfold iX at z; simp only [Bool.or_eq_true, Bool.and_eq_true, beq_iff_eq, decide_eq_true_eq] at y z; omega)) (fun _ _ _ => rfl) ⟨by omega, by rw [wrI_ne (by omega), wrI_eq], by rw [wrI_eq], fun i hi => by rw [v _ _ (by omega) (by omega), v _ _ (by omega) (by omega)]; exact t4 i (by omega)⟩ (s4.fr (v _ _ (by omega) (by omega)) (v _ _ (by omega) (by omega)) (fun i => v _ _ (by omega) (by omega)) (fun i => v _ _ (by omega) (by omega))) (s5.fr (v _ _ (by omega) (by omega)) rfl) (s6.fr (fun i => v _ _ (by omega) (by omega)) (fun i => v _ _ (by omega) (by omega))) (s7.fr (v _ _ (by omega) (by omega)) (v _ _ (by omega) (by omega)) (v _ _ (by omega) (by omega)) (v _ _ (by omega) (by omega))) (s8.fr (v _ _ (by omega) (by omega)) (v _ _ (by omega) (by omega)) (fun i => v _ _ (by omega) (by omega)) (fun i => v _ _ (by omega) (by omega)))).inv
  · exact bad q
theorem ok_seed (h : IX M D Do G P E C W c0 c1 c2 n pc pn) (a : Int32) : ∃ r M1 M2, f_X11_seed 0 a M = some (r, M1) ∧ f_X12_seed 94 a M1 = some (r, M2) ∧ Inv M2 := by
  have k := h.1
  have hc := k.hc
  by_cases q : 0 ≤ a
  · refine ⟨1, wrI M 0 19 a, wrJ (wrI M 0 19 a) 94 87 a.toInt64, ?_, ?_, ?_⟩
    · unfold f_X11_seed
      rw [sr0 hc, if_pos q, pi0 hc]; rfl
    · unfold f_X12_seed
      have hs1 : RefS (wrI M 0 19 a).1 (wrI M 0 19 a).2.2.2 := k.1
      rw [sr94 hs1, if_pos q, pj94 hs1]; rfl
    · have hF : Fr (fun a k => a == 0 && k == 19) (fun a k => a == 94 && k == 87) M (wrJ (wrI M 0 19 a) 94 87 a.toInt64) := (Fr.rf.wi rfl).wj rfl
      have v : ∀ x k, ¬ (x = 0 ∧ k = 19) → (wrJ (wrI M 0 19 a) 94 87 a.toInt64).2.1 x k = M.2.1 x k := fun x k h1 => wrI_ne h1
      obtain ⟨_, ⟨s1, _⟩, _, s4, ⟨s5, s6, s7, s8⟩, _⟩ := id h
      refine (h.st (n' := n) hF (fun a k z => Bool.eq_false_iff.mpr (fun y => by unfold iX at z; simp only [Bool.or_eq_true, Bool.and_eq_true, beq_iff_eq, decide_eq_true_eq] at y z; omega)) (fun a k z => Bool.eq_false_iff.mpr (fun y => by simp only [Bool.and_eq_true, beq_iff_eq] at y; omega)) (s1.fr (v _ _ (by omega)) (v _ _ (by omega)) (fun i => v _ _ (by omega)) (fun i => v _ _ (by omega))) (s4.fr (v _ _ (by omega)) (v _ _ (by omega)) (fun i => v _ _ (by omega)) (fun i => v _ _ (by omega))) ?_ (s6.fr (fun i => v _ _ (by omega)) (fun i => v _ _ (by omega))) (s7.fr (v _ _ (by omega)) (v _ _ (by omega)) (v _ _ (by omega)) (v _ _ (by omega))) (s8.fr (v _ _ (by omega)) (v _ _ (by omega)) (fun i => v _ _ (by omega)) (fun i => v _ _ (by omega)))).inv
      have e1 : (wrJ (wrI M 0 19 a) 94 87 a.toInt64).2.1 0 19 = a := wrI_eq (M := M) (a := 0) (k := 19)
      refine ⟨by rw [e1]; have := le_i.mp q; exact this, ?_⟩
      rw [e1, wrJ_eq]
  · obtain ⟨r1, r2, r3⟩ := r_rf (k := 5) (x := M.2.1 93 5 + 1) k.1 (by decide)
    refine ⟨0, wrI M 93 5 (M.2.1 93 5 + 1), rfM M 5, ?_, ?_, (h.rf (k := 5) (by decide)).inv⟩
    · unfold f_X11_seed
      rw [sr0 hc, if_neg q, show f_X11_refuse 0 5 M = some (-1, wrI M 93 5 (M.2.1 93 5 + 1)) from c_refuse hc (by decide)]; rfl
    · unfold f_X12_seed
      rw [sr94 (M := wrI M 93 5 (M.2.1 93 5 + 1)) k.1, if_neg q, r1, Option.bind_some, show ldI 14 (wrI M 93 5 (M.2.1 93 5 + 1)) 96 5 = some (M.2.1 96 5) from r2, Option.bind_some, show ∀ y, stI (wrI M 93 5 (M.2.1 93 5 + 1)) 96 5 y = some (wrI (wrI M 93 5 (M.2.1 93 5 + 1)) 96 5 y) from r3]
      rfl
def pTp : Nat → Nat → Bool := fun a k => a == 2 || (a == 1 && k == 1)
theorem c_append {t : Nat} (hc : ClsS M.1 M.2.2.2) (ht : M.2.1 1 1 = nI t) (h4 : t + 4 ≤ 1600) (x : Int32) : ∃ N, f_X10_append 1 x M = some N ∧ Fr pTp q0 M N ∧ N.2.1 1 1 = nI (t + 4) ∧ (∀ j, j < 4 → N.2.1 2 (t + j) = byt x j) ∧ ∀ j, j < t → N.2.1 2 j = M.2.1 2 j := by
  unfold f_X10_append f_X10_append_L3
  rw [sr1 hc]
  obtain ⟨N, b1, b2⟩ := itr_g (f := fun a : (Int32 × sMem) => f_X10_append_K3 1 x a.1 a.2) (fun j (N : sMem) => (([24, 16, 8, 0] : List Int32).getD j (-8), N)) (fun i N => Fr pTp q0 M N ∧ N.2.1 1 1 = nI (t + i) ∧ (∀ j, j < i → N.2.1 2 (t + j) = byt x j) ∧ ∀ j, j < t → N.2.1 2 j = M.2.1 2 j) (fun N => Fr pTp q0 M N ∧ N.2.1 1 1 = nI (t + 4) ∧ (∀ j, j < 4 → N.2.1 2 (t + j) = byt x j) ∧ ∀ j, j < t → N.2.1 2 j = M.2.1 2 j) 4 (by decide) (by
    rintro i N hi ⟨i1, i2, i3, i4⟩
    dsimp only
    unfold f_X10_append_K3 f_X10_append_B45
    by_cases q : i = 4
    · right
      subst q
      rw [if_pos (by decide)]
      exact ⟨N, rfl, i1, i2, i3, i4⟩
    · left
      refine ⟨by omega, ?_⟩
      have hcN := i1.hc hc
      have hz : ([24, 16, 8, 0] : List Int32).getD i (-8) = nI (24 - 8 * i) := (by decide : ∀ i, i < 4 → ([24, 16, 8, 0] : List Int32).getD i (-8) = nI (24 - 8 * i)) i (by omega)
      have hz2 : ([24, 16, 8, 0] : List Int32).getD i (-8) + (-8 : Int32) = ([24, 16, 8, 0] : List Int32).getD (i + 1) (-8) := (by decide : ∀ i, i < 4 → ([24, 16, 8, 0] : List Int32).getD i (-8) + (-8 : Int32) = ([24, 16, 8, 0] : List Int32).getD (i + 1) (-8)) i (by omega)
      have hc1 : ClsS (wrI N 2 (t + i) (byt x i)).1 (wrI N 2 (t + i) (byt x i)).2.2.2 := hcN
      rw [hz2, byt_u x hz (by omega), if_neg (by rw [hz]; exact nI_pos (by omega)), gi1 hcN, Option.bind_some, gr1_0 hcN, Option.bind_some, al2 hcN, Option.bind_some, i2, if_neg (nI_ge (by omega) (by omega)), Option.bind_some, Option.bind_some, st2 hcN (by omega), Option.bind_some, gi1 hc1, Option.bind_some, wrI_ne (by omega), i2, pi1 hc1, Option.bind_some, nI_1]
      refine ⟨_, rfl, (i1.wi rfl).wi rfl, by rw [wrI_eq, Nat.add_assoc], fun j hj => ?_, fun j hj => ?_⟩
      · rw [wrI_ne (by omega)]
        by_cases w : j = i
        · subst w; rw [wrI_eq]
        · rw [wrI_ne (by omega)]; exact i3 j (by omega)
      · rw [wrI_ne (by omega), wrI_ne (by omega)]; exact i4 j hj) (i := 0) (s := M) (by decide) ⟨Fr.rf, ht, fun j hj => by omega, fun _ _ => rfl⟩
  replace b1 : sItr (fun a : (Int32 × sMem) => f_X10_append_K3 1 x a.1 a.2) sFuel (24, M) = some N := b1
  rw [b1]
  exact ⟨N, rfl, b2⟩
theorem byt_v (w : Int32) (s : Nat) : ∃ v, v < 256 ∧ byt w s = nI v := ⟨_, Nat.mod_lt _ (by decide), rfl⟩
theorem ok_feed (h : IX M D Do G P E C W c0 c1 c2 n pc pn) (a b c d e : Int32) : ∃ r M1 M2, f_X11_feed 0 a b c d e M = some (r, M1) ∧ f_X12_feed 94 a b c d e M1 = some (r, M2) ∧ Inv M2 := by
  have k := h.1
  have hc := k.hc
  obtain ⟨t1, t2, t3, t4⟩ := h.2.1.1
  have e20 : nI n + (20 : Int32) = nI (n + 20) := nI_add n 20
  by_cases q : n + 20 ≤ 1600
  · obtain ⟨N1, a1, a2, a3, a4, a5⟩ := c_append hc t2 (by omega) a
    obtain ⟨N2, b1, b2, b3, b4, b5⟩ := c_append (a2.hc hc) a3 (by omega) b
    obtain ⟨N3, d1, d2, d3, d4, d5⟩ := c_append (b2.hc (a2.hc hc)) b3 (by omega) c
    obtain ⟨N4, f1, f2, f3, f4, f5⟩ := c_append (d2.hc (b2.hc (a2.hc hc))) d3 (by omega) d
    obtain ⟨N5, g1, g2, g3, g4, g5⟩ := c_append (f2.hc (d2.hc (b2.hc (a2.hc hc)))) f3 (by omega) e
    have F5 : Fr pTp q0 M N5 := (((a2.tr b2).tr d2).tr f2).tr g2
    have hs5 := F5.hs k.1
    obtain ⟨M', m1, m2, m3, m4, m5⟩ := ref_feed (M := N5) (t := n) hs5 (by rw [F5.i rfl]; exact t3) q a b c d e
    have g3' : N5.2.1 1 1 = nI (n + 20) := g3
    have cv : ∀ j, j < 20 → N5.2.1 2 (n + j) = fed a b c d e j := fun j hj => by
      unfold fed
      by_cases q1 : j < 4
      · rw [if_pos q1, g5 _ (by omega), f5 _ (by omega), d5 _ (by omega), b5 _ (by omega), a4 j q1, Nat.mod_eq_of_lt q1]
      · rw [if_neg q1]
        by_cases q2 : j < 8
        · have := b4 (j - 4) (by omega)
          rw [if_pos q2, g5 _ (by omega), f5 _ (by omega), d5 _ (by omega), show n + j = n + 4 + (j - 4) by omega, this, show j % 4 = j - 4 by omega]
        · rw [if_neg q2]
          by_cases q3 : j < 12
          · have := d4 (j - 8) (by omega)
            rw [if_pos q3, g5 _ (by omega), f5 _ (by omega), show n + j = n + 4 + 4 + (j - 8) by omega, this, show j % 4 = j - 8 by omega]
          · rw [if_neg q3]
            by_cases q4 : j < 16
            · have := f4 (j - 12) (by omega)
              rw [if_pos q4, g5 _ (by omega), show n + j = n + 4 + 4 + 4 + (j - 12) by omega, this, show j % 4 = j - 12 by omega]
            · have := g4 (j - 16) (by omega)
              rw [if_neg q4, show n + j = n + 4 + 4 + 4 + 4 + (j - 16) by omega, this, show j % 4 = j - 16 by omega]
    have cl : ∀ j, j < n → N5.2.1 2 j = M.2.1 2 j := fun j hj => by rw [g5 _ (by omega), f5 _ (by omega), d5 _ (by omega), b5 _ (by omega), a5 _ hj]
    have v5 : ∀ a k, a ≠ 1 → a ≠ 2 → N5.2.1 a k = M.2.1 a k := fun a k h1 h2 => F5.i (by unfold pTp; rw [beq_eq_false_iff_ne.mpr h1, beq_eq_false_iff_ne.mpr h2]; rfl)
    have vm : ∀ a k, a ≠ 95 → ¬ (a = 94 ∧ k = 1) → M'.2.1 a k = N5.2.1 a k := fun a k h1 h2 => m2.2.2.2 a k (fun z => by rcases z with z | z; exact h1 z; exact h2 z)
    have v : ∀ a k, ¬ (a = 1 ∧ k = 1) → a ≠ 2 → a ≠ 95 → ¬ (a = 94 ∧ k = 1) → M'.2.1 a k = M.2.1 a k := fun a k h1 h2 h3 h4 => by
      rw [vm a k h3 h4]
      by_cases w : a = 1
      · subst w
        exact F5.i (by unfold pTp; rw [beq_eq_false_iff_ne.mpr (show k ≠ 1 from fun z => h1 ⟨rfl, z⟩)]; rfl)
      · exact v5 a k w h2
    have hF : Fr (fun a k => a == 2 || a == 95 || ((a == 1 || a == 94) && k == 1)) q0 M M' := by
      refine ⟨m2.1.trans F5.1, m2.2.1.trans F5.2.1, fun a k z => ?_, fun a k _ => ?_⟩
      · simp only [Bool.or_eq_false_iff, Bool.and_eq_false_iff, beq_eq_false_iff_ne] at z
        exact v a k (by omega) (by omega) (by omega) (by omega)
      · rw [m2.2.2.1, F5.j rfl]
    refine ⟨nI (n + 20), N5, M', ?_, m1, ?_⟩
    · unfold f_X11_feed
      rw [sr0 hc, gr0_0 hc, Option.bind_some, gi1 hc, Option.bind_some, t2, e20, if_pos (by rw [show (1600 : Int32) = nI 1600 from rfl, cle (by omega) (by decide)]; exact q), Option.bind_some, a1, Option.bind_some, gr0_0 (a2.hc hc), Option.bind_some, b1, Option.bind_some, gr0_0 (b2.hc (a2.hc hc)), Option.bind_some, d1, Option.bind_some, gr0_0 (d2.hc (b2.hc (a2.hc hc))), Option.bind_some, f1, Option.bind_some, gr0_0 (f2.hc (d2.hc (b2.hc (a2.hc hc)))), Option.bind_some, g1, Option.bind_some, gr0_0 (F5.hc hc), Option.bind_some, gi1 (F5.hc hc), Option.bind_some, g3']
    · obtain ⟨_, _, _, s4, ⟨s5, s6, s7, s8⟩, _⟩ := id h
      refine (h.st (n' := n + 20) hF (fun a k z => Bool.eq_false_iff.mpr (fun y => by unfold iX at z; simp only [Bool.or_eq_true, Bool.and_eq_true, beq_iff_eq, decide_eq_true_eq] at y z; omega)) (fun _ _ _ => rfl) ⟨q, ?_, m3, fun i hi => ?_⟩ (s4.fr (v _ _ (by omega) (by omega) (by omega) (by omega)) (v _ _ (by omega) (by omega) (by omega) (by omega)) (fun i => v _ _ (by omega) (by omega) (by omega) (by omega)) (fun i => v _ _ (by omega) (by omega) (by omega) (by omega))) (s5.fr (v _ _ (by omega) (by omega) (by omega) (by omega)) (hF.j rfl)) (s6.fr (fun i => v _ _ (by omega) (by omega) (by omega) (by omega)) (fun i => v _ _ (by omega) (by omega) (by omega) (by omega))) (s7.fr (v _ _ (by omega) (by omega) (by omega) (by omega)) (v _ _ (by omega) (by omega) (by omega) (by omega)) (v _ _ (by omega) (by omega) (by omega) (by omega)) (v _ _ (by omega) (by omega) (by omega) (by omega))) (s8.fr (v _ _ (by omega) (by omega) (by omega) (by omega)) (v _ _ (by omega) (by omega) (by omega) (by omega)) (fun i => v _ _ (by omega) (by omega) (by omega) (by omega)) (fun i => v _ _ (by omega) (by omega) (by omega) (by omega)))).inv
      · rw [vm _ _ (by omega) (by omega)]; exact g3'
      · rw [vm 2 _ (by omega) (by omega)]
        by_cases w : i < n
        · rw [cl i w, m5 i w, v5 _ _ (by decide) (by decide)]
          exact t4 i w
        · have x1 := cv (i - n) (by omega)
          have x2 := m4 (i - n) (by omega)
          rw [show n + (i - n) = i by omega] at x1 x2
          rw [x1, x2]
          exact ⟨rfl, byt_v _ _⟩
  · obtain ⟨r1, r2, r3⟩ := r_rf (k := 0) (x := M.2.1 93 0 + 1) k.1 (by decide)
    have hq : ¬ nI (n + 20) ≤ (1600 : Int32) := by rw [show (1600 : Int32) = nI 1600 from rfl, cle (by omega) (by decide)]; exact q
    refine ⟨-1, wrI M 93 0 (M.2.1 93 0 + 1), rfM M 0, ?_, ?_, (h.rf (k := 0) (by decide)).inv⟩
    · unfold f_X11_feed
      rw [sr0 hc, gr0_0 hc, Option.bind_some, gi1 hc, Option.bind_some, t2, e20, if_neg hq, show f_X11_refuse 0 0 M = some (-1, wrI M 93 0 (M.2.1 93 0 + 1)) from c_refuse hc (by decide)]; rfl
    · unfold f_X12_feed
      rw [sr94 (M := wrI M 93 0 (M.2.1 93 0 + 1)) k.1, gi94 (M := wrI M 93 0 (M.2.1 93 0 + 1)) k.1, Option.bind_some, wrI_ne (by omega), t3, e20, if_neg hq, r1, Option.bind_some, show ldI 14 (wrI M 93 0 (M.2.1 93 0 + 1)) 96 0 = some (M.2.1 96 0) from r2, Option.bind_some, show ∀ y, stI (wrI M 93 0 (M.2.1 93 0 + 1)) 96 0 y = some (wrI (wrI M 93 0 (M.2.1 93 0 + 1)) 96 0 y) from r3]
      rfl
end SML
