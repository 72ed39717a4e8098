/-! THE REFERENCE reads a district -/
def r57 : Nat → Nat → Bool := fun a k => r56 a k || (a == 94 && (k == 1 || k == 3))
def RT (b : Nat → Int32) (n : Nat) (M : sMem) : Prop := RefS M.1 M.2.2.2 ∧ RWd M ∧ M.2.1 94 1 = nI n ∧ ∀ i, i < n → M.2.1 95 i = b i
section RD2
variable {b : Nat → Int32} {n e t c k wh : Nat} {T : Tk} {sa sz : Nat → Nat} {M N : sMem} {s : Cs} {d : Ds}
theorem up_57 (h : Fr r56 rdJ M N) : Fr r57 rdJ M N := h.mono (fun a k z => by unfold r57 at z; revert z; cases r56 a k <;> simp) (fun _ _ z => z)
theorem r57_c {c : Nat} (h : (95 ≤ c ∧ c < 130) ∨ (156 ≤ c ∧ c < 183)) (k : Nat) : r56 c k = false := by unfold r56; rw [rd_c h, beq_eq_false_iff_ne.mpr (show c ≠ 94 by omega)]; rfl
theorem RB.r6 (h : RB b n M) (hF : Fr r56 rdJ M N) : RB b n N := h.fr hF rfl (fun c hc k => r57_c hc k)
/-- a fill of the first slots -/
theorem r_zero (hs : RefS M.1 M.2.2.2) : ∃ N, f_X12_district_L47 94 0 M = f_X12_district_B65 94 N ∧ Fr rdX rdJ M N ∧ (∀ k, k < 5 → N.2.1 131 k = 0) ∧ ∀ a k, ¬ (a = 131 ∧ k < 5) → N.2.1 a k = M.2.1 a k := by
  unfold f_X12_district_L47
  obtain ⟨r, r1, r2, r3, r4⟩ := itr_g (f := fun a : Int32 × sMem => f_X12_district_K47 94 a.1 a.2) (fun k s => (nI k, s)) (fun k s => Fr rdX rdJ M s ∧ (∀ j, j < k → s.2.1 131 j = 0) ∧ ∀ a j, ¬ (a = 131 ∧ j < 5) → s.2.1 a j = M.2.1 a j) (fun s => Fr rdX rdJ M s ∧ (∀ j, j < 5 → s.2.1 131 j = 0) ∧ ∀ a j, ¬ (a = 131 ∧ j < 5) → s.2.1 a j = M.2.1 a j) 5 (by decide) (fun k s hk hI => by
    obtain ⟨i1, i2, i3⟩ := hI
    have hss := i1.hs hs
    dsimp only
    unfold f_X12_district_K47
    by_cases q : k < 5
    · left
      rw [if_neg (by rw [show (5 : Int32) = nI 5 from rfl, cle (by decide) (by omega)]; omega), gr94_46 hss, Option.bind_some, stI_n (rs131 hss) (show k < 10 by omega) (by decide), Option.bind_some, nI_1]
      refine ⟨q, _, rfl, i1.wi (rx0 q), fun j hj => ?_, fun a j h => ?_⟩
      · by_cases w : j = k
        · rw [w]; exact wrI_eq
        · rw [wrI_ne (by omega)]; exact i2 j (by omega)
      · rw [wrI_ne (by omega)]; exact i3 a j h
    · right
      rw [if_pos (by rw [show (5 : Int32) = nI 5 from rfl, cle (by decide) (by omega)]; omega)]
      exact ⟨s, rfl, i1, fun j hj => i2 j (by omega), i3⟩) (i := 0) (s := M) (by decide) ⟨Fr.rf, fun j hj => by omega, fun a j _ => rfl⟩
  replace r1 : sItr (fun a : Int32 × sMem => f_X12_district_K47 94 a.1 a.2) sFuel (0, M) = some r := r1
  rw [r1]
  exact ⟨r, rfl, r2, r3, r4⟩
theorem r_minus (hs : RefS M.1 M.2.2.2) : ∃ N, f_X12_district_B65 94 M = f_X12_district_B85 94 N ∧ Fr rdX rdJ M N ∧ (∀ k, k < 3 → N.2.1 137 k = mI) ∧ ∀ a k, ¬ (a = 137 ∧ k < 3) → N.2.1 a k = M.2.1 a k := by
  unfold f_X12_district_B65 f_X12_district_L67
  obtain ⟨r, r1, r2, r3, r4⟩ := itr_g (f := fun a : Int32 × sMem => f_X12_district_K67 94 a.1 a.2) (fun k s => (nI k, s)) (fun k s => Fr rdX rdJ M s ∧ (∀ j, j < k → s.2.1 137 j = mI) ∧ ∀ a j, ¬ (a = 137 ∧ j < 3) → s.2.1 a j = M.2.1 a j) (fun s => Fr rdX rdJ M s ∧ (∀ j, j < 3 → s.2.1 137 j = mI) ∧ ∀ a j, ¬ (a = 137 ∧ j < 3) → s.2.1 a j = M.2.1 a j) 3 (by decide) (fun k s hk hI => by
    obtain ⟨i1, i2, i3⟩ := hI
    have hss := i1.hs hs
    dsimp only
    unfold f_X12_district_K67
    by_cases q : k < 3
    · left
      rw [if_neg (by rw [show (3 : Int32) = nI 3 from rfl, cle (by decide) (by omega)]; omega), gr94_52 hss, Option.bind_some, stI_n (rs137 hss) (show k < 6 by omega) (by decide), Option.bind_some, nI_1]
      refine ⟨q, _, rfl, i1.wi (rx137 q), fun j hj => ?_, fun a j h => ?_⟩
      · by_cases w : j = k
        · rw [w, wrI_eq]; rfl
        · rw [wrI_ne (by omega)]; exact i2 j (by omega)
      · rw [wrI_ne (by omega)]; exact i3 a j h
    · right
      rw [if_pos (by rw [show (3 : Int32) = nI 3 from rfl, cle (by decide) (by omega)]; omega)]
      exact ⟨s, rfl, i1, fun j hj => i2 j (by omega), i3⟩) (i := 0) (s := M) (by decide) ⟨Fr.rf, fun j hj => by omega, fun a j _ => rfl⟩
  replace r1 : sItr (fun a : Int32 × sMem => f_X12_district_K67 94 a.1 a.2) sFuel (0, M) = some r := r1
  rw [r1]
  exact ⟨r, rfl, r2, r3, r4⟩
theorem sm_t {x : Int32} : smR b T sa sz true d00 0 = sb (sb (sb (.inr ((), 0)) fun (a : Unit) t => sb (aW T 0 t) fun _ t' => .inr (a, t')) fun a t => sb (numR T 5 60 t) fun x t' => .inr ((a, x), t')) fun (q : Unit × Int32) t => (.inr (((q.2, ((x, 0), d00.2).1.2), d00.2), t) : Flt ⊕ (Ds × Nat)) := by
  simp only [sb_a, sb_r]
  unfold smR aW
  by_cases q : T 3 0 = 1 ∧ T 6 0 = nI 0
  · rw [if_pos ⟨q.1, by rw [q.2]; decide, fun _ => q.2, fun _ => rfl⟩, if_pos (show T 6 0 = 0 from q.2), if_pos q, sb_r]
    rfl
  · rw [if_neg (fun z => q ⟨z.1, z.2.2.mp rfl⟩), if_neg q]
    rfl
/-- the first statement -/
theorem h_first (hL : Lex b n T e sa sz) {x : Int32} (hB : RG b n ((x, 0), d00.2) M) (hS : RS T e sa sz M (.inr 0)) : ∃ O, f_X12_districtTold 94 M = some O ∧ RE b n T e sa sz M O (sb (smR b T sa sz true d00 0) fun d t => sb (aS T 59 t) fun _ t' => .inr (d, t')) := by
  have hs := hB.1.1
  have h0 : RH T e sa sz M (.inr ((), 0)) (fun _ : Unit => True) := ⟨trivial, hS⟩
  obtain ⟨M10, y1, y2, y3, y4⟩ := h_w2 hL hB h0 97 (Or.inl ⟨by decide, by decide⟩) (w := 0) rfl
  obtain ⟨v, M11, z1, z2, z3, z4⟩ := h_n hL y3 y4 5 60
  unfold f_X12_districtTold
  rw [sr94 hs, gr94_11 hs, Option.bind_some, y1, Option.bind_some, gr94_45 y3.1.1, Option.bind_some, z1]
  dsimp only [Option.bind_some]
  rw [show stI M11 130 0 v = some (wrI M11 130 0 v) from stI_n (j := 0) (rs130 z3.1.1) (by decide) (by decide), Option.bind_some]
  have F : Fr rdX rdJ M11 (wrI M11 130 0 v) := Fr.rf.wi rfl
  have hB2 : RB b n (wrI M11 130 0 v) := z3.1.rd F
  have z5 := z4.of (N := wrI M11 130 0 v) (fun k hk => wrI_ne (by omega))
  have z6 : RH T e sa sz (wrI M11 130 0 v) (smR b T sa sz true d00 0) (fun d' => RD (wrI M11 130 0 v) d') := by
    rw [sm_t (x := x)]
    rcases z5.cs2 with ⟨q, c1, c2, c3⟩ | ⟨a, t', c1, c2, c3⟩
    · rw [c1]; exact c3
    · rw [c1, sb_r]
      refine ⟨?_, c3⟩
      obtain ⟨hRN, a3, a4, a5, a6, a7, a8, a9⟩ := z3.2.1
      rw [← c2.2]
      refine ⟨⟨fun kd hk => by rw [wrI_ne (by omega)]; exact hRN.1 kd hk, hRN.2⟩, fun i h => by rw [wrI_ne (by omega)]; exact a3 i h, fun i h j hj => by rw [wrI_ne (by omega)]; exact a4 i h j hj, fun i h j hj => by rw [wrI_ne (by omega)]; exact a5 i h j hj, fun i h j hj => by rw [wrI_ne (by omega)]; exact a6 i h j hj, ⟨wrI_eq, by rw [wrI_ne (by omega)]; exact a7.2⟩, by rw [wrI_ne (by omega)]; exact a8, fun wh hw => ?_⟩
      have := a9 wh hw
      show (wrI M11 130 0 v).2.1 137 wh = mI
      rw [wrI_ne (by omega)]; exact this
  obtain ⟨N1, a1, a2, a3⟩ := r_asksS (z := 59) (c := 59) hL hB2 sg59 z6.rs rfl
  rw [a1, Option.bind_some]
  refine ⟨N1, rfl, ((up_rd (y2.tr z2)).tr F).tr (up_rd a2), hB2.rl a2, ?_⟩
  exact (z6.mono (P' := fun d' => RD N1 d') (fun d' hd => hd.of (fun a k h1 h2 => a2.i (rl_out (by omega))) (fun k => a2.j rfl) (a2.i rfl))).sg a3
/-- what the loop keeps -/
def RI (b : Nat → Int32) (n : Nat) (T : Tk) (e : Nat) (sa sz : Nat → Nat) (M : sMem) (k : Nat) (N : sMem) : Prop := Fr r56 rdJ M N ∧ RB b n N ∧ ((∃ q, diR b T sa sz = .inl q ∧ RS T e sa sz N (.inl q)) ∨ ∃ d t, RS T e sa sz N (.inr t) ∧ RD N d ∧ GF d t ∧ (1 ≤ k ∧ k ≤ 80) ∧ N.2.1 94 56 = nI k ∧ (∃ m, 5 ≤ m ∧ m ≤ 60 ∧ d.1.1 = nI m) ∧ rsR b T sa sz k d t = diR b T sa sz)
/-- what comes of it -/
def RJ (b : Nat → Int32) (n : Nat) (T : Tk) (e : Nat) (sa sz : Nat → Nat) (M N : sMem) (R : Flt ⊕ (Ds × Nat)) : Prop := Fr r56 rdJ M N ∧ RB b n N ∧ match R with | .inl q => RS T e sa sz N (.inl q) | .inr (d, k) => RS T e sa sz N (.inr e) ∧ RD N d ∧ GF d e ∧ (1 ≤ k ∧ k ≤ 80) ∧ N.2.1 94 56 = nI k ∧ ∃ m, 5 ≤ m ∧ m ≤ 60 ∧ d.1.1 = nI m
theorem Lex.k0 (hL : Lex b n T e sa sz) (ht : t ≤ e) (h : T 3 t = 0) : t = e := by
  by_cases z : t = e
  · exact z
  · obtain ⟨_, _, z3⟩ := hL.2.2.2.2.1 t (by omega)
    rcases z3 with z3 | z3 | z3
    · rcases z3.2.2.2.2.1 with z4 | z4 <;> (rw [h] at z4; exact absurd z4 (by decide))
    · rcases z3.2.2.2.2.1 with z4 | z4 <;> (rw [h] at z4; exact absurd z4 (by decide))
    · have z4 := z3.2.2.1; rw [h] at z4; exact absurd z4 (by decide)
theorem r_dstep (hL : Lex b n T e sa sz) (hb : ∀ i, i < n → b i ≠ mI) (k : Nat) (N : sMem) (hk : k ≤ 81) (h : RI b n T e sa sz M k N) : (k < 81 ∧ ∃ N', f_X12_district_K94 94 N = some (.inl N') ∧ RI b n T e sa sz M (k + 1) N') ∨ ∃ N', f_X12_district_K94 94 N = some (.inr N') ∧ RJ b n T e sa sz M N' (diR b T sa sz) := by
  obtain ⟨h1, h2, h3⟩ := h
  have hs := h2.1
  unfold f_X12_district_K94
  rw [gi94 hs, Option.bind_some]
  rcases h3 with ⟨q, q1, q2⟩ | ⟨d, t, a1, a2, a3, a4, a5, a6, a7⟩
  · right
    rw [if_neg (by rw [q2.1]; exact q2.2.2), q1]
    exact ⟨N, rfl, h1, h2, q2⟩
  · obtain ⟨N1, l1, l2, l3⟩ := r_look hL h2 a1
    have hte := a1.2.1
    have hR := l2
    rw [a1.1, if_pos rfl, l1]
    dsimp only [Option.bind_some]
    have hG1 : RG b n d N1 := RG.rl ⟨h2, a2, a3.1⟩ l2
    have e56 : N1.2.1 94 56 = nI k := by rw [l2.i rfl]; exact a5
    by_cases z : t = e
    · right
      rw [show chr b e sa t = mI from if_pos z, if_pos mIe]
      have hr : diR b T sa sz = .inr (d, k) := by
        rw [← a7]
        unfold rsR
        rw [if_neg (by omega)]
        have h0 : T 3 t = 0 := by rw [z]; exact hL.1.1
        cases y : 80 - k with
        | zero => unfold dsR; rw [if_pos h0, show k = 80 by omega]
        | succ f => unfold dsR; rw [if_pos h0, show 79 - f = k by omega]
      rw [hr]
      refine ⟨N1, rfl, h1.tr (up_56 (up_rd l2)), hG1.1, ?_, hG1.2.1, ?_, a4, e56, a6⟩
      · have : ∀ x, t = x → RS T e sa sz N1 (.inr x) := fun x hx => by rw [← hx]; exact l3.1
        exact this e z
      · exact z ▸ a3
    · left
      refine ⟨by omega, ?_⟩
      have hc : chr b e sa t ≠ mI := by
        rw [show chr b e sa t = b (sa t) from if_neg z]
        exact hb _ (hL.2.2.2.2.1 t (by omega)).1
      rw [if_neg (show ¬ chr b e sa t = (-1 : Int32) from hc)]
      have h3 : T 3 t ≠ 0 := fun w => z (hL.k0 hte w)
      by_cases q : k = 80
      · unfold f_X12_statementTold
        obtain ⟨O, f1, f2, f3⟩ := r_fail hG1.1 l3.1 5 (T 4 t) (by decide)
        rw [sr94 hG1.1.1, gi94 hG1.1.1, Option.bind_some, gi94 hG1.1.1, Option.bind_some, e56, if_pos (by rw [q]; rfl), l3.2, ← hL.t4 hte, f1]
        dsimp only [Option.bind_some]
        refine ⟨O, rfl, (h1.tr (up_56 (up_rd l2))).tr (up_56 (up_rd f2)), hG1.1.rl f2, Or.inl ⟨(5, T 4 t), ?_, f3⟩⟩
        rw [← a7, q]
        unfold rsR
        rw [if_neg (by decide), show 80 - 80 = 0 from rfl, dsR, if_neg h3]
      · obtain ⟨O, o1, ⟨o2, o3, o4⟩, o5⟩ := h_stat hL hG1 a3 l3 e56 (by omega)
        rw [o1, Option.bind_some]
        refine ⟨O, rfl, (h1.tr (up_56 (up_rd l2))).tr o2, o3, ?_⟩
        have hst := rs_step (b := b) (sa := sa) (sz := sz) (d := d) (t := t) hL.1 k (by omega) (fun w => by omega) h3
        rw [a7, show decide (k = 0) = false from decide_eq_false (by omega)] at hst
        match z1 : smR b T sa sz false d t with
        | .inl w =>
          rw [z1] at o4 hst
          exact Or.inl ⟨w, hst, o4⟩
        | .inr (d', t1) =>
          rw [z1] at o4 hst
          rw [sb_r] at o4 hst
          obtain ⟨g1, g2, g3, g4, g5⟩ := sm_gd hL hte a3 z1
          by_cases y : isS T t1 59 = true
          · rw [show aS T 59 t1 = .inr ((), t1 + 1) from if_pos y, sb_r] at hst o4
            exact Or.inr ⟨d', t1 + 1, o4.2, o4.1, ⟨g1.1, g1.2.1, g1.2.2.1, g1.2.2.2.1, by have := g1.2.2.2.2; omega⟩, ⟨by omega, by omega⟩, o5, by rw [g5 rfl]; exact a6, hst.symm⟩
          · rw [show aS T 59 t1 = .inl (1, T 4 t1) from if_neg y] at hst o4
            exact Or.inl ⟨_, hst, o4⟩
/-- all the reading of a district -/
theorem r_dread (hL : Lex b n T e sa sz) (hb : ∀ i, i < n → b i ≠ mI) (hT : RT b n M) : ∃ N, f_X12_district 94 M = f_X12_district_B116 94 N ∧ Fr r57 rdJ M N ∧ N.2.1 94 1 = 0 ∧ RJ b n T e sa sz N N (diR b T sa sz) := by
  obtain ⟨hs, hW, h1, h95⟩ := hT
  unfold f_X12_district
  obtain ⟨M1, m1⟩ : ∃ M1, M1 = wrI (wrI (wrI (wrI (wrI (wrI (wrI (wrI M 94 3 (M.2.1 94 1)) 94 1 0) 94 2 0) 94 4 (-1)) 94 5 0) 94 6 (-1)) 94 55 0) 130 1 0 := ⟨_, rfl⟩
  have F1 : Fr r57 rdJ M M1 := by rw [m1]; exact (((((((Fr.rf.wi rfl).wi rfl).wi rfl).wi rfl).wi rfl).wi rfl).wi rfl).wi rfl
  have e1 : f_X12_district 94 M = f_X12_district_L47 94 0 M1 := by
    unfold f_X12_district
    simp (disch := first | assumption | (simp only [wrI_sh, wrI_rf, wrJ_sh, wrJ_rf, StS_wi, StS_wj]; assumption) | omega | rfl | decide) only [gi94, gj94, pi94, pj94, pr94, sr94, gr94_0, gr94_9, gr94_11, gr94_12, gr94_13, gr94_14, gr94_15, gr94_16, gr94_17, gr94_18, gr94_19, gr94_20, gr94_21, gr94_22, gr94_23, gr94_24, gr94_25, gr94_26, gr94_27, gr94_28, gr94_29, gr94_30, gr94_31, gr94_32, gr94_33, gr94_34, gr94_35, gr94_36, gr94_37, gr94_38, gr94_39, gr94_40, gr94_41, gr94_42, gr94_43, gr94_45, gr94_46, gr94_47, gr94_48, gr94_49, gr94_50, gr94_51, gr94_52, gr94_53, gr94_54, gr94_59, gr94_60, gr94_66, gr94_67, gr94_68, gr94_69, gr94_73, gr94_74, gr94_75, gr94_76, gr94_77, gr94_78, gr94_79, gr94_81, gr94_82, gr94_84, gr94_88, gr94_89, gr94_90, gr94_91, gr94_92, gr94_93, gr94_94, gr94_95, gr94_96, gr94_97, gr94_98, gr94_99, gr94_100, gr94_101, gr94_102, gr94_103, gr94_104, gr94_105, gr94_106, gr94_107, gr94_108, gr94_109, gr94_110, gr94_111, gr94_112, gr94_113, gr94_114, gr94_115, gr94_117, gr94_121, gr94_125, ld130, st130, al130, wrI_eq, wrI_ne, wrJ_eq, wrJ_ne, wrI_lg, wrJ_in, nlit, nneg, nI_add, pk_mul, nsub, Option.bind_some, if_true, if_false, Nat.reduceEqDiff, Nat.reduceLeDiff, Nat.reduceLT, Nat.reduceAdd, Nat.reduceMul, Nat.reduceSub]
    rw [m1]; rfl
  unfold f_X12_district at e1
  rw [e1]
  have v1 : ∀ a k, M1.2.1 a k = if a = 130 ∧ k = 1 then 0 else if a = 94 ∧ k = 55 then 0 else if a = 94 ∧ k = 6 then -1 else if a = 94 ∧ k = 5 then 0 else if a = 94 ∧ k = 4 then -1 else if a = 94 ∧ k = 2 then 0 else if a = 94 ∧ k = 1 then 0 else if a = 94 ∧ k = 3 then M.2.1 94 1 else M.2.1 a k := fun a k => by rw [m1, wrI_get, wrI_get, wrI_get, wrI_get, wrI_get, wrI_get, wrI_get, wrI_get]
  have hs1 := F1.hs hs
  obtain ⟨M2, a1, a2, a3, a4⟩ := r_zero hs1
  obtain ⟨M3, b1, b2, b3, b4⟩ := r_minus (a2.hs hs1)
  rw [a1, b1]
  have w3 : ∀ a k, ¬ (a = 131 ∧ k < 5) → ¬ (a = 137 ∧ k < 3) → M3.2.1 a k = M1.2.1 a k := fun a k p q => by rw [b4 a k q, a4 a k p]
  have hB3 : RB b n M3 := by
    have hB1 : RB b n M1 := by
      refine ⟨hs1, fun c hc i hi => ?_, ?_, fun i hi => ?_⟩
      · have hc2 := hc; unfold isWc at hc2
        rw [v1, if_neg (by omega), if_neg (by omega), if_neg (by omega), if_neg (by omega), if_neg (by omega), if_neg (by omega), if_neg (by omega), if_neg (by omega)]; exact hW c hc i hi
      · rw [v1, if_neg (by omega), if_neg (by omega), if_neg (by omega), if_neg (by omega), if_neg (by omega), if_neg (by omega), if_neg (by omega), if_pos (by omega)]; exact h1
      · rw [v1, if_neg (by omega), if_neg (by omega), if_neg (by omega), if_neg (by omega), if_neg (by omega), if_neg (by omega), if_neg (by omega), if_neg (by omega)]; exact h95 i hi
    exact (hB1.rd a2).rd b2
  have hRD : RD M3 ((M.2.1 130 0, 0), d00.2) := by
    refine ⟨⟨fun kd hk => ?_, fun kd hk i h => absurd h (Nat.not_lt_zero i)⟩, fun i h => absurd h (Nat.not_lt_zero i), fun i h => absurd h (Nat.not_lt_zero i), fun i h => absurd h (Nat.not_lt_zero i), fun i h => absurd h (Nat.not_lt_zero i), ⟨?_, ?_⟩, ?_, fun wh hw => b3 wh hw⟩
    · rw [b4 _ _ (by omega), a3 kd hk]; rfl
    · rw [w3 _ _ (by omega) (by omega), v1, if_neg (by omega), if_neg (by omega), if_neg (by omega), if_neg (by omega), if_neg (by omega), if_neg (by omega), if_neg (by omega), if_neg (by omega)]
    · rw [w3 _ _ (by omega) (by omega), v1, if_pos (by omega)]
    · rw [w3 _ _ (by omega) (by omega), v1, if_neg (by omega), if_pos (by omega)]; rfl
  have hG3 : RG b n ((M.2.1 130 0, 0), d00.2) M3 := ⟨hB3, hRD, fun _ _ r hr => absurd hr (by simp [d00]), fun _ _ => by simp [d00], fun kd hk => by simp [d00]⟩
  have hS3 : RS T e sa sz M3 (.inr 0) := by
    refine ⟨?_, Nat.zero_le _, ⟨0, ?_, ?_, Nat.zero_le _⟩, ?_, ?_⟩
    · rw [w3 _ _ (by omega) (by omega), v1, if_neg (by omega), if_neg (by omega), if_neg (by omega), if_pos (by omega)]
    · rw [w3 _ _ (by omega) (by omega), v1, if_neg (by omega), if_neg (by omega), if_neg (by omega), if_neg (by omega), if_neg (by omega), if_pos (by omega)]; rfl
    · unfold pv; rw [if_pos rfl]; exact Nat.le_refl _
    · rw [w3 _ _ (by omega) (by omega), v1, if_neg (by omega), if_neg (by omega), if_neg (by omega), if_neg (by omega), if_pos (by omega)]
      refine ⟨Or.inl rfl, fun z => ?_, fun z => by omega⟩
      have hsa : sa 0 ≤ n := by have := hL.2.2.2.1 0 (Nat.zero_le _); omega
      have hn := hL.2.1
      have z2 : nI (sa 0) = mI := z
      rw [cneg (by omega)] at z2; exact z2.elim
    · rw [w3 _ _ (by omega) (by omega), v1, if_neg (by omega), if_neg (by omega), if_pos (by omega)]; rfl
  unfold f_X12_district_B85
  obtain ⟨M4, c1, c2, c3, c4⟩ := h_first hL hG3 hS3
  rw [c1, Option.bind_some, pi94 c3.1, Option.bind_some]
  have F5 : Fr r56 rdJ M4 (wrI M4 94 56 1) := Fr.rf.wi rfl
  have hB5 := c3.r6 F5
  have h0 : RI b n T e sa sz (wrI M4 94 56 1) 1 (wrI M4 94 56 1) := by
    refine ⟨Fr.rf, hB5, ?_⟩
    have c5 := (c4.mono (P' := fun d' => RD (wrI M4 94 56 1) d') (fun d' hd => hd.of (fun a k p q => wrI_ne (by omega)) (fun k => rfl) (wrI_ne (by omega)))).of (N := wrI M4 94 56 1) (fun k hk => wrI_ne (by omega))
    have hst : diR b T sa sz = sb (smR b T sa sz true d00 0) fun d' t1 => sb (aS T 59 t1) fun _ t2 => rsR b T sa sz 1 d' t2 := rfl
    match z1 : smR b T sa sz true d00 0 with
    | .inl w =>
      rw [z1] at c5 hst
      exact Or.inl ⟨w, hst, c5⟩
    | .inr (d', t1) =>
      rw [z1] at c5 hst
      rw [sb_r] at c5 hst
      obtain ⟨g1, g2, g3, g4, g5⟩ := sm_gd hL (Nat.zero_le _) gf00 z1
      by_cases y : isS T t1 59 = true
      · rw [show aS T 59 t1 = .inr ((), t1 + 1) from if_pos y, sb_r] at hst c5
        exact Or.inr ⟨d', t1 + 1, c5.2, c5.1, ⟨g1.1, g1.2.1, g1.2.2.1, g1.2.2.2.1, by have := g1.2.2.2.2; omega⟩, ⟨by omega, by omega⟩, wrI_eq, g4 rfl, hst.symm⟩
      · rw [show aS T 59 t1 = .inl (1, T 4 t1) from if_neg y] at hst c5
        exact Or.inl ⟨_, hst, c5⟩
  unfold f_X12_district_L94
  obtain ⟨r, r1, r2, r3, r4⟩ := itr_g (f := fun a : sMem => f_X12_district_K94 94 a) (fun _ s => s) (fun k s => RI b n T e sa sz (wrI M4 94 56 1) k s) (fun s => RJ b n T e sa sz (wrI M4 94 56 1) s (diR b T sa sz)) 81 (by decide) (fun k s hk hI => r_dstep hL hb k s hk hI) (i := 1) (s := wrI M4 94 56 1) (by decide) h0
  rw [r1]
  have F : Fr r57 rdJ M r := (((F1.tr (up_57 (up_56 ((a2.tr b2).tr c2)))).tr (up_57 F5)).tr (up_57 r2))
  refine ⟨r, rfl, F, ?_, Fr.rf, r3, r4⟩
  rw [r2.i rfl, F5.i rfl, c2.i rfl, w3 _ _ (by omega) (by omega), v1, if_neg (by omega), if_neg (by omega), if_neg (by omega), if_neg (by omega), if_neg (by omega), if_neg (by omega), if_pos (by omega)]
end RD2
