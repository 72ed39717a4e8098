/-! THE CLASS reads statements -/
def TWa (M : sMem) (D : Nat) : Prop := ∀ kd, kd < 5 → TbW M D kd
def TA (M : sMem) (D : Nat) (d : Ds) : Prop := ∀ kd, kd < 5 → TbC M D kd (d.2.1 kd)
section CSS
variable {b : Nat → Int32} {n e t c D kd : Nat} {T : Tk} {sa sz : Nat → Nat} {M N : sMem} {s : Cs} {d : Ds} {rows : List Row} {L : List Nat}
theorem TbC.of (h : TbC M D kd rows) (hk : kd < 5) (hN : ∀ a i, D + ofK kd ≤ a → a ≤ D + ofK kd + 2 → N.2.1 a i = M.2.1 a i) : TbC N D kd rows :=
  ⟨by rw [hN _ _ (by omega) (by omega)]; exact h.1, h.2.1, fun i hi => ⟨by rw [hN _ _ (by omega) (by omega)]; exact (h.2.2 i hi).1, fun j hj => by rw [hN _ _ (by omega) (by omega)]; exact (h.2.2 i hi).2 j hj⟩⟩
theorem TbW.of (h : TbW M D kd) (hN : ∀ i, N.2.1 (D + ofK kd) i = M.2.1 (D + ofK kd) i) : TbW N D kd := by
  obtain ⟨h1, k, h2, h3⟩ := h
  exact ⟨by rw [hN]; exact h1, k, h2, by rw [hN]; exact h3⟩
theorem tp_out {a i : Nat} (h : a ≠ 1) : tpX a i = false := by unfold tpX; rw [beq_eq_false_iff_ne.mpr h]; rfl
theorem TA.tp (h : TA M D d) (hD : D = 10 ∨ D = 32) (hF : Fr tpX q0 M N) : TA N D d := fun kd hk => (h kd hk).of hk (fun a i h1 h2 => hF.i (tp_out (by omega)))
theorem TWa.tp (h : TWa M D) (hD : D = 10 ∨ D = 32) (hF : Fr tpX q0 M N) : TWa N D := fun kd hk => (h kd hk).of (fun i => hF.i (tp_out (by omega)))
/-- a row more, in all tables -/
theorem t_add (hc : ClsS M.1 M.2.2.2) (hD : D = 10 ∨ D = 32) (hk : kd < 5) (hW : TWa M D) (v x y z w : Int32) : ∃ N, f_X9_add (D + ofK kd) v x y z w M = some N ∧ Fr (stX D) q0 M N ∧ (∀ i, N.2.1 1 i = M.2.1 1 i) ∧ (∀ i, N.2.1 D i = M.2.1 D i) ∧ TWa N D ∧ (TA M D d → (d.2.1 kd).length < mxK kd → v = nI (nv L 6) → TA N D (addD d kd (L, [x, y, z, w]))) := by
  obtain ⟨m1, m2, m3, m4⟩ := mx_le hk
  obtain ⟨N, a1, a2, a3, a4⟩ := c_tadd hc hD hk (hW kd hk) v x y z w
  have out : ∀ a i, ¬ (D + ofK kd ≤ a ∧ a ≤ D + ofK kd + 2) → N.2.1 a i = M.2.1 a i := fun a i h => a2.i (by
    by_cases q1 : D + ofK kd ≤ a
    · have q2 : ¬ a ≤ D + ofK kd + 2 := fun z => h ⟨q1, z⟩
      simp [q1, q2]
    · simp [q1])
  refine ⟨N, a1, a2.mono (fun a k z => ?_) (fun _ _ z => z), fun i => out 1 i (by omega), fun i => out D i (by omega), fun k2 hk2 => ?_, fun hT hl hv k2 hk2 => ?_⟩
  · unfold stX at z
    have : ¬ (D ≤ a ∧ a ≤ D + 15) := fun w => by
      simp [w.1, w.2] at z
    by_cases q1 : D + ofK kd ≤ a
    · have q2 : ¬ a ≤ D + ofK kd + 2 := by omega
      simp [q1, q2]
    · simp [q1]
  · by_cases q : k2 = kd
    · rw [q]; exact a3
    · exact (hW k2 hk2).of (fun i => out _ i (fun w => by
        have h0 := of_ne hk2 hk q 0 0 (by omega) (by omega)
        have h1 := of_ne hk2 hk q 0 1 (by omega) (by omega)
        have h2 := of_ne hk2 hk q 0 2 (by omega) (by omega)
        omega))
  · by_cases q : k2 = kd
    · subst q
      show TbC N D k2 (if k2 = k2 then _ else _)
      rw [if_pos rfl]
      exact a4 _ L (hT k2 hk2) hl hv
    · show TbC N D k2 (if k2 = kd then _ else d.2.1 k2)
      rw [if_neg q]
      refine (hT k2 hk2).of hk2 (fun a i h1 h2 => out a i (fun w => ?_))
      have key : ∀ i j, i ≤ 2 → j ≤ 2 → ofK k2 + i ≠ ofK kd + j := fun i j hi hj => of_ne hk2 hk q i j hi hj
      obtain ⟨i, i1, i2⟩ : ∃ i, i ≤ 2 ∧ a = D + ofK k2 + i := ⟨a - (D + ofK k2), by omega, by omega⟩
      obtain ⟨j, j1, j2⟩ : ∃ j, j ≤ 2 ∧ a = D + ofK kd + j := ⟨a - (D + ofK kd), by omega, by omega⟩
      exact key i j i1 j1 (by omega)
theorem c_full (hT : TG T e M) (hD : D = 10 ∨ D = 32) (hk : kd < 5) (hW : TWa M D) (h : CS e M (.inr t)) (hC : TbC M D kd rows) (at' : Int32) : ∃ x N, f_X5_isFull 7 (D + ofK kd) at' M = some (x, N) ∧ Fr tpX q0 M N ∧ ((rows.length = mxK kd ∧ x = 1 ∧ CS e N (.inl (5, at'))) ∨ (rows.length < mxK kd ∧ x = 0 ∧ N = M)) := by
  obtain ⟨h1, _⟩ := dTb hT.1 hD hk
  obtain ⟨m1, m2, m3, m4⟩ := mx_le hk
  obtain ⟨w1, k, w2, w3⟩ := hW kd hk
  have t2 := hC.2.1
  unfold f_X5_isFull
  rw [sr7 hT.1, gI_of h1, Option.bind_some, gI_of h1, Option.bind_some, w1, hC.1]
  by_cases q : mxK kd ≤ rows.length
  · obtain ⟨N, f1, f2, f3⟩ := c_fail hT h 5 at' (by decide)
    rw [if_pos (by rw [cle (by omega) (by omega)]; exact q), gr7_0 hT.1, Option.bind_some, f1]
    exact ⟨1, N, rfl, f2, Or.inl ⟨by omega, rfl, f3⟩⟩
  · rw [if_neg (by rw [cle (by omega) (by omega)]; exact q)]
    exact ⟨0, M, rfl, Fr.rf, Or.inr ⟨by omega, rfl, rfl⟩⟩
theorem fd_none {rows : List Row} {L : List Nat} (hl : rows.length ≤ 100) : fdI rows L = -1 ↔ fnd rows L = none := by
  unfold fdI
  cases q : fnd rows L with
  | none => simp
  | some i =>
    have hi : i < rows.length := by
      unfold fnd at q
      rw [List.findIdx?_eq_some_iff_getElem] at q
      exact q.1
    refine ⟨fun z => ?_, fun z => by cases z⟩
    have w : nI i = mI := z
    rw [cneg (by omega)] at w; exact w.elim
theorem nameR_gd (hL : Lex b n T e sa sz) (ht : t ≤ e) {L : List Nat} {t1 : Nat} (h : nameR b T sa sz t = .inr (L, t1)) : GdN L ∧ t1 = t + 1 ∧ t < e := by
  unfold nameR at h
  by_cases h1 : T 3 t = 1 ∧ ¬ ownF T t 0 33 = true
  · rw [if_pos h1] at h
    have hlt := hL.ne ht (by rw [h1.1]; decide)
    have hW := hL.k1 hlt h1.1
    have hl := hL.2.2.2.1 t ht
    have hn := hL.2.1
    by_cases h2 : T 5 t - T 4 t ≤ 6
    · rw [if_pos h2] at h
      obtain ⟨rfl, rfl⟩ := Prod.mk.inj (Sum.inr.inj h)
      refine ⟨nm_gd hW.2.1 ?_ hW.2.2.1, rfl, hlt⟩
      rw [hl.2.1, hl.1, nsub (by omega), show (6 : Int32) = nI 6 from rfl, cle (by omega) (by omega)] at h2
      exact h2
    · rw [if_neg h2] at h; cases h
  · rw [if_neg h1] at h; cases h
theorem c_newName (hL : Lex b n T e sa sz) (hC : CT b n M) (hT : TG T e M) (hD : D = 10 ∨ D = 32) (hW : TWa M D) (hA : TA M D d) (hG : GdD d) (h : CS e M (.inr t)) : ∃ v N, f_X5_newName 7 D M = some (v, N) ∧ Fr tpX q0 M N ∧ (match nwR b T sa sz d t with | .inl q => CS e N (.inl q) | .inr q => v = nI (nv q.1 6) ∧ CS e N (.inr q.2)) := by
  have hte := h.2.1
  obtain ⟨v, N, a1, a2, a3⟩ := c_name (s := .inr t) hL hC hT h
  have hTN := hT.fr a2
  have hcN := hTN.1
  have hWN := hW.tp hD a2
  have hAN := hA.tp hD a2
  unfold f_X5_newName
  rw [sr7 hT.1, gr7_0 hT.1, Option.bind_some, c_place hT h, Option.bind_some, Option.bind_some, a1]
  dsimp only [Option.bind_some]
  dsimp only at a3
  unfold nwR sb
  have B64 : ∀ s : Cs, CS e N s → ∃ O, f_X5_newName_B64 7 (T 4 (ps e (.inr t))) v N = some (v, O) ∧ Fr tpX q0 N O ∧ CS e O (cbd s fun _ => .inl (3, T 4 t)) := by
    intro s hs
    obtain ⟨O, f1, f2, f3⟩ := c_fail hTN hs 3 (T 4 t) (by decide)
    refine ⟨O, ?_, f2, f3⟩
    unfold f_X5_newName_B64
    rw [gr7_0 hcN, Option.bind_some]
    show (f_X10_fail 1 3 (T 4 t) N).bind _ = _
    rw [f1]; rfl
  match z : nameR b T sa sz t with
  | .inl q =>
    rw [z] at a3
    dsimp only at a3 ⊢
    obtain ⟨x0, e0⟩ := c_findW (kd := 0) hcN hD (by decide) (hWN 0 (by decide)) v
    obtain ⟨x1, e1⟩ := c_findW (kd := 1) hcN hD (by decide) (hWN 1 (by decide)) v
    obtain ⟨x2, e2⟩ := c_findW (kd := 2) hcN hD (by decide) (hWN 2 (by decide)) v
    obtain ⟨x3, e3⟩ := c_findW (kd := 3) hcN hD (by decide) (hWN 3 (by decide)) v
    obtain ⟨O, f1, f2, f3⟩ := B64 (.inl q) a3
    rw [grD_1 hcN hD, Option.bind_some, show D + 1 = D + ofK 0 from rfl, e0, Option.bind_some]
    by_cases q0 : x0 = -1
    · rw [if_pos q0, grD_2 hcN hD, Option.bind_some, show D + 4 = D + ofK 1 from rfl, e1, Option.bind_some]
      by_cases q1 : x1 = -1
      · rw [if_pos q1, grD_4 hcN hD, Option.bind_some, show D + 10 = D + ofK 2 from rfl, e2, Option.bind_some]
        by_cases q2 : x2 = -1
        · rw [if_pos q2, grD_5 hcN hD, Option.bind_some, show D + 13 = D + ofK 3 from rfl, e3, Option.bind_some]
          by_cases q3 : x3 = -1
          · rw [if_pos q3]
            exact ⟨v, N, rfl, a2, a3⟩
          · rw [if_neg q3, f1]
            exact ⟨v, O, rfl, a2.tr f2, f3⟩
        · rw [if_neg q2, f1]
          exact ⟨v, O, rfl, a2.tr f2, f3⟩
      · rw [if_neg q1, f1]
        exact ⟨v, O, rfl, a2.tr f2, f3⟩
    · rw [if_neg q0, f1]
      exact ⟨v, O, rfl, a2.tr f2, f3⟩
  | .inr (L, t1) =>
    rw [z] at a3
    dsimp only at a3 ⊢
    obtain ⟨hgd, ht1, hlt⟩ := nameR_gd hL hte z
    obtain ⟨O, f1, f2, f3⟩ := B64 (.inr t1) a3.2
    have E : ∀ kd, kd < 4 → f_X9_find (D + ofK kd) v N = some (fdI (d.2.1 kd) L) := fun kd hk => by
      rw [a3.1]; exact c_find hcN hD (by omega) (hAN kd (by omega)) (hG.1 kd hk) hgd
    have F : ∀ kd, kd < 4 → (fdI (d.2.1 kd) L = -1 ↔ fnd (d.2.1 kd) L = none) := fun kd hk => fd_none (by have := hG.2.2 kd (by omega); have := mx_le (kd := kd) (by omega); omega)
    rw [grD_1 hcN hD, Option.bind_some, show D + 1 = D + ofK 0 from rfl, E 0 (by decide), Option.bind_some]
    by_cases q0 : fnd (d.2.1 0) L = none
    · rw [if_pos ((F 0 (by decide)).mpr q0), grD_2 hcN hD, Option.bind_some, show D + 4 = D + ofK 1 from rfl, E 1 (by decide), Option.bind_some]
      by_cases q1 : fnd (d.2.1 1) L = none
      · rw [if_pos ((F 1 (by decide)).mpr q1), grD_4 hcN hD, Option.bind_some, show D + 10 = D + ofK 2 from rfl, E 2 (by decide), Option.bind_some]
        by_cases q2 : fnd (d.2.1 2) L = none
        · rw [if_pos ((F 2 (by decide)).mpr q2), grD_5 hcN hD, Option.bind_some, show D + 13 = D + ofK 3 from rfl, E 3 (by decide), Option.bind_some]
          by_cases q3 : fnd (d.2.1 3) L = none
          · rw [if_pos ((F 3 (by decide)).mpr q3), if_pos ⟨q0, q1, q2, q3⟩]
            exact ⟨v, N, rfl, a2, a3⟩
          · rw [if_neg (fun w => q3 ((F 3 (by decide)).mp w)), f1, if_neg (fun w => q3 w.2.2.2)]
            exact ⟨v, O, rfl, a2.tr f2, f3⟩
        · rw [if_neg (fun w => q2 ((F 2 (by decide)).mp w)), f1, if_neg (fun w => q2 w.2.2.1)]
          exact ⟨v, O, rfl, a2.tr f2, f3⟩
      · rw [if_neg (fun w => q1 ((F 1 (by decide)).mp w)), f1, if_neg (fun w => q1 w.2.1)]
        exact ⟨v, O, rfl, a2.tr f2, f3⟩
    · rw [if_neg (fun w => q0 ((F 0 (by decide)).mp w)), f1, if_neg (fun w => q0 w.1)]
      exact ⟨v, O, rfl, a2.tr f2, f3⟩
theorem c_oldName (hL : Lex b n T e sa sz) (hC : CT b n M) (hT : TG T e M) (hD : D = 10 ∨ D = 32) (hk : kd < 4) (hW : TWa M D) (hA : TA M D d) (hG : GdD d) (h : CS e M s) (but : Int32) : ∃ v N, f_X5_oldName 7 (D + ofK kd) but M = some (v, N) ∧ Fr tpX q0 M N ∧ CV2 e N s (odR b T sa sz (d.2.1 kd) but) v := by
  obtain ⟨v, N, a1, a2, a3⟩ := c_name hL hC hT h
  have hTN := hT.fr a2
  have hcN := hTN.1
  have hWN := hW.tp hD a2
  have hAN := hA.tp hD a2
  unfold f_X5_oldName
  rw [sr7 hT.1, gr7_0 hT.1, Option.bind_some, c_place hT h, Option.bind_some, Option.bind_some, a1]
  dsimp only [Option.bind_some]
  have B33 : ∀ (s : Cs) (p : Int32), CS e N s → ∃ O, f_X5_oldName_B33 7 p N = some (-1, O) ∧ Fr tpX q0 N O ∧ CS e O (cbd s fun _ => .inl (3, p)) := by
    intro s p hs
    obtain ⟨O, f1, f2, f3⟩ := c_fail hTN hs 3 p (by decide)
    refine ⟨O, ?_, f2, f3⟩
    unfold f_X5_oldName_B33
    rw [gr7_0 hcN, Option.bind_some, f1]; rfl
  have bad : ∀ q p, CS e N (.inl q) → ∃ v' O, ((f_X9_find (D + ofK kd) v N).bind fun x8 => if x8 = (-1 : Int32) then f_X5_oldName_B33 7 p N else if x8 = but then f_X5_oldName_B33 7 p N else some ((x8, N))) = some (v', O) ∧ Fr tpX q0 M O ∧ CS e O (.inl q) := by
    intro q p hq
    obtain ⟨x0, e0⟩ := c_findW (kd := kd) hcN hD (by omega) (hWN kd (by omega)) v
    obtain ⟨O, f1, f2, f3⟩ := B33 (.inl q) p hq
    rw [e0, Option.bind_some]
    by_cases q0 : x0 = -1
    · rw [if_pos q0, f1]; exact ⟨_, O, rfl, a2.tr f2, f3⟩
    · rw [if_neg q0]
      by_cases q1 : x0 = but
      · rw [if_pos q1, f1]; exact ⟨_, O, rfl, a2.tr f2, f3⟩
      · rw [if_neg q1]; exact ⟨_, N, rfl, a2, hq⟩
  match s, h, a3 with
  | .inl q, h, a3 => exact bad q _ a3
  | .inr t, h, a3 =>
    dsimp only at a3
    match z : nameR b T sa sz t with
    | .inl q =>
      rw [z] at a3
      obtain ⟨v', O, c1, c2, c3⟩ := bad q (T 4 (ps e (.inr t))) a3
      exact ⟨v', O, c1, c2, CV2_l (q := q) (by unfold odR sb; rw [z]) c3⟩
    | .inr (L, t1) =>
      rw [z] at a3
      dsimp only at a3
      obtain ⟨hgd, ht1, hlt⟩ := nameR_gd hL h.2.1 z
      obtain ⟨O, f1, f2, f3⟩ := B33 (.inr t1) (T 4 (ps e (.inr t))) a3.2
      rw [show f_X9_find (D + ofK kd) v N = some (fdI (d.2.1 kd) L) by rw [a3.1]; exact c_find hcN hD (by omega) (hAN kd (by omega)) (hG.1 kd hk) hgd, Option.bind_some]
      have eo : odR b T sa sz (d.2.1 kd) but t = if fdI (d.2.1 kd) L = -1 ∨ fdI (d.2.1 kd) L = but then .inl (3, T 4 t) else .inr (fdI (d.2.1 kd) L, t1) := by unfold odR sb; rw [z]
      by_cases q0 : fdI (d.2.1 kd) L = -1
      · rw [if_pos q0, f1]
        exact ⟨_, O, rfl, a2.tr f2, CV2_l (by rw [eo, if_pos (Or.inl q0)]; rfl) f3⟩
      · rw [if_neg q0]
        by_cases q1 : fdI (d.2.1 kd) L = but
        · rw [if_pos q1, f1]
          exact ⟨_, O, rfl, a2.tr f2, CV2_l (by rw [eo, if_pos (Or.inr q1)]; rfl) f3⟩
        · rw [if_neg q1]
          exact ⟨_, N, rfl, a2, CV2_r (by rw [eo, if_neg (fun w => by rcases w with w | w; exact q0 w; exact q1 w)]) a3.2⟩
end CSS
