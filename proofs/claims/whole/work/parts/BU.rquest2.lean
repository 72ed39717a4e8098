/-! THE QUESTION: all the reading of the reference -/
def raX : Nat → Nat → Bool := fun a k => rqX a k || (a == 94 && (k == 1 || k == 3 || k == 58))
section RQ2
variable {b : Nat → Int32} {n e t : Nat} {T : Tk} {sa sz : Nat → Nat} {M N : sMem}
theorem up_ra (h : Fr rqX q0 M N) : Fr raX q0 M N := h.mono (fun a k z => by unfold raX at z; revert z; cases rqX a k <;> simp) (fun _ _ z => z)
theorem up_ra2 (h : Fr rlX q0 M N) : Fr raX q0 M N := up_ra (h.mono (fun a k z => by unfold rqX at z; revert z; cases rlX a k <;> simp) (fun _ _ z => z))
theorem r_quest (hL : Lex b n T e sa sz) (hb : ∀ i, i < n → b i ≠ mI) (hT : RT b n M) (h57 : M.2.1 94 57 ≠ 0) : ∃ kv N, f_X12_ask 94 M = f_X12_ask_B133 94 kv N ∧ Fr raX q0 M N ∧ N.2.1 94 1 = 0 ∧ RB b n N ∧ match quR T with | .inl q => RS T e sa sz N (.inl q) | .inr (k, cs) => kv = nI k ∧ k ≤ 5 ∧ RS T e sa sz N (.inr e) ∧ N.2.1 94 116 = nI cs.length ∧ ∀ (i : Nat) (h : i < cs.length), N.2.1 183 i = nI cs[i] := by
  obtain ⟨hs, hW, h1, h95⟩ := hT
  have hE := hL.1
  have he := hE.2
  obtain ⟨M1, m1⟩ : ∃ M1, M1 = wrI (wrI (wrI (wrI (wrI (wrI (wrI (wrI (wrI (wrI (wrI M 94 3 (M.2.1 94 1)) 94 1 0) 94 2 0) 94 4 (-1)) 94 5 0) 94 6 (-1)) 94 58 3) 94 116 0) 94 118 0) 94 119 0) 94 120 0 := ⟨_, rfl⟩
  have F1 : Fr raX q0 M M1 := by rw [m1]; exact ((((((((((Fr.rf.wi rfl).wi rfl).wi rfl).wi rfl).wi rfl).wi rfl).wi rfl).wi rfl).wi rfl).wi rfl).wi rfl
  have e1 : f_X12_ask 94 M = (f_X12_qKind 94 M1).bind fun (x51, M52) => f_X12_ask_B79 94 x51 M52 := by
    unfold f_X12_ask
    rw [sr94 hs, gi94 hs, Option.bind_some, if_neg h57]
    simp (disch := first | assumption | (simp only [wrI_sh, wrI_rf, wrJ_sh, wrJ_rf, StS_wi, StS_wj]; assumption) | omega | rfl | decide) only [gi94, gj94, pi94, pj94, pr94, sr94, gr94_0, gr94_9, gr94_11, gr94_12, gr94_13, gr94_14, gr94_15, gr94_16, gr94_17, gr94_18, gr94_19, gr94_20, gr94_21, gr94_22, gr94_23, gr94_24, gr94_25, gr94_26, gr94_27, gr94_28, gr94_29, gr94_30, gr94_31, gr94_32, gr94_33, gr94_34, gr94_35, gr94_36, gr94_37, gr94_38, gr94_39, gr94_40, gr94_41, gr94_42, gr94_43, gr94_45, gr94_46, gr94_47, gr94_48, gr94_49, gr94_50, gr94_51, gr94_52, gr94_53, gr94_54, gr94_59, gr94_60, gr94_66, gr94_67, gr94_68, gr94_69, gr94_73, gr94_74, gr94_75, gr94_76, gr94_77, gr94_78, gr94_79, gr94_81, gr94_82, gr94_84, gr94_88, gr94_89, gr94_90, gr94_91, gr94_92, gr94_93, gr94_94, gr94_95, gr94_96, gr94_97, gr94_98, gr94_99, gr94_100, gr94_101, gr94_102, gr94_103, gr94_104, gr94_105, gr94_106, gr94_107, gr94_108, gr94_109, gr94_110, gr94_111, gr94_112, gr94_113, gr94_114, gr94_115, gr94_117, gr94_121, gr94_125, wrI_eq, wrI_ne, wrJ_eq, wrJ_ne, wrI_lg, wrJ_in, nlit, nneg, nI_add, pk_mul, nsub, Option.bind_some, if_true, if_false, Nat.reduceEqDiff, Nat.reduceLeDiff, Nat.reduceLT, Nat.reduceAdd, Nat.reduceMul, Nat.reduceSub]
    rw [m1]; rfl
  have v1 : ∀ a k, M1.2.1 a k = if a = 94 ∧ k = 120 then 0 else if a = 94 ∧ k = 119 then 0 else if a = 94 ∧ k = 118 then 0 else if a = 94 ∧ k = 116 then 0 else if a = 94 ∧ k = 58 then 3 else if a = 94 ∧ k = 6 then -1 else if a = 94 ∧ k = 5 then 0 else if a = 94 ∧ k = 4 then -1 else if a = 94 ∧ k = 2 then 0 else if a = 94 ∧ k = 1 then 0 else if a = 94 ∧ k = 3 then M.2.1 94 1 else M.2.1 a k := fun a k => by rw [m1, wrI_get, wrI_get, wrI_get, wrI_get, wrI_get, wrI_get, wrI_get, wrI_get, wrI_get, wrI_get, wrI_get]
  have v0 : ∀ a k, a ≠ 94 → M1.2.1 a k = M.2.1 a k := fun a k h => by
    rw [v1, if_neg (fun z => h z.1), if_neg (fun z => h z.1), if_neg (fun z => h z.1), if_neg (fun z => h z.1), if_neg (fun z => h z.1), if_neg (fun z => h z.1), if_neg (fun z => h z.1), if_neg (fun z => h z.1), if_neg (fun z => h z.1), if_neg (fun z => h z.1), if_neg (fun z => h z.1)]
  have v3 : M1.2.1 94 3 = nI n := by rw [v1]; simp [h1]
  have v2 : M1.2.1 94 2 = nI 0 := by rw [v1]; simp; rfl
  have v4 : M1.2.1 94 4 = -1 := by rw [v1]; simp
  have v5 : M1.2.1 94 5 = 0 := by rw [v1]; simp
  have v6 : M1.2.1 94 6 = -1 := by rw [v1]; simp
  have v58 : M1.2.1 94 58 = nI 3 := by rw [v1]; simp; rfl
  have v1' : M1.2.1 94 1 = 0 := by rw [v1]; simp
  have hQ : RQ M1 [] [] [] 0 := ⟨by rw [v1]; simp; rfl, trivial, by rw [v1]; simp; rfl, fun i h => absurd h (Nat.not_lt_zero i), by rw [v1]; simp; rfl, by rw [v1]; simp; rfl⟩
  have hs1 := F1.hs hs
  have hB1 : RB b n M1 := ⟨hs1, fun c hc i hi => by rw [v0 _ _ (by unfold isWc at hc; omega)]; exact hW c hc i hi, v3, fun i hi => by rw [v0 _ _ (by decide)]; exact h95 i hi⟩
  have hS1 : RS T e sa sz M1 (.inr 0) := by
    refine ⟨v5, Nat.zero_le _, ⟨0, v2, ?_, Nat.zero_le _⟩, ?_, v6⟩
    · unfold pv; rw [if_pos rfl]; exact Nat.le_refl _
    · rw [v4]
      refine ⟨Or.inl rfl, fun z => ?_, fun z => by omega⟩
      have hsa : sa 0 ≤ n := by have := hL.2.2.2.1 0 (Nat.zero_le _); omega
      have hn := hL.2.1
      have z2 : nI (sa 0) = mI := z
      rw [cneg (by omega)] at z2; exact z2.elim
  obtain ⟨kv, M2, a1, a2, a3⟩ := r_kind hL hB1 hS1
  have hB2 := hB1.rl a2
  rw [e1, a1]
  dsimp only [Option.bind_some]
  unfold f_X12_ask_B79
  rw [gi94 hB2.1, Option.bind_some]
  rcases a3 with ⟨k, k1, k2, k3, k4⟩ | ⟨k3, k4⟩
  · have kw : T 3 0 = 1 ∧ T 6 0 = nI (33 + k) := by unfold isW at k3; exact of_decide_eq_true k3
    have h33 : (33 : Int32) ≤ T 6 0 := by rw [kw.2, show (33 : Int32) = nI 33 from rfl, cle (by decide) (by omega)]; omega
    have kt : (T 6 0).toInt.toNat - 33 = k := by
      rw [kw.2, nI_int (by omega)]
      show 33 + k - 33 = k
      omega
    have hqu : quR T = match (if k ≤ 2 then pTest 3 T 6 1 else pSum 3 T 6 1) with | .inl q => .inl q | .inr q => if T 3 q.2 = 0 then .inr (k, q.1) else .inl (1, T 4 q.2) := by
      unfold quR
      rw [if_pos ⟨kw.1, h33⟩, kt]
      rfl
    replace k4 : RS T e sa sz M2 (.inr 1) := k4
    have h1e : 1 ≤ e := k4.2.1
    have hQ2 : RQ M2 [] [] [] 0 := ⟨by rw [a2.i rfl]; exact hQ.1, trivial, by rw [a2.i rfl]; exact hQ.2.2.1, fun i h => absurd h (Nat.not_lt_zero i), by rw [a2.i rfl]; exact hQ.2.2.2.2.1, by rw [a2.i rfl]; exact hQ.2.2.2.2.2⟩
    have w58 : M2.2.1 94 58 = nI 3 := by rw [a2.i rfl]; exact v58
    have fin : ∀ (N : sMem) (R : Rs), Fr rqX q0 M2 N → (match R with | .inl q => RS T e sa sz N (.inl q) | .inr q => RS T e sa sz N (.inr q.2) ∧ ∃ o, RQ N [] [] q.1 o) → ∃ O, f_X12_ask_B109 94 kv N = f_X12_ask_B133 94 kv O ∧ Fr raX q0 M O ∧ O.2.1 94 1 = 0 ∧ RB b n O ∧ match (match R with | .inl q => .inl q | .inr q => if T 3 q.2 = 0 then .inr (k, q.1) else .inl (1, T 4 q.2) : Flt ⊕ (Nat × List Nat)) with | .inl q => RS T e sa sz O (.inl q) | .inr (k, cs) => kv = nI k ∧ k ≤ 5 ∧ RS T e sa sz O (.inr e) ∧ O.2.1 94 116 = nI cs.length ∧ ∀ (i : Nat) (h : i < cs.length), O.2.1 183 i = nI cs[i] := by
      intro N R hF hR
      have hBN := hB2.rq hF
      have FN := (F1.tr (up_ra2 a2)).tr (up_ra hF)
      have n1 : N.2.1 94 1 = 0 := by rw [hF.i rfl, a2.i rfl]; exact v1'
      unfold f_X12_ask_B109
      rw [gi94 hBN.1, Option.bind_some]
      match R, hR with
      | .inl q, hR =>
        rw [if_neg (by rw [hR.1]; exact hR.2.2)]
        exact ⟨N, rfl, FN, n1, hBN, hR⟩
      | .inr (cs, t'), hR =>
        obtain ⟨hR1, o, hR2⟩ := hR
        dsimp only at hR1 hR2 ⊢
        obtain ⟨O, l1, l2, l3⟩ := r_look hL hBN hR1
        rw [hR1.1, if_pos rfl, l1]
        dsimp only [Option.bind_some]
        by_cases z : T 3 t' = 0
        · have te := hL.k0 hR1.2.1 z
          rw [show chr b e sa t' = (-1 : Int32) from if_pos te, if_pos rfl, if_pos z]
          refine ⟨O, rfl, FN.tr (up_ra2 l2), by rw [l2.i rfl]; exact n1, hBN.rl l2, k2, k1, ?_, by rw [l2.i rfl]; exact hR2.2.2.1, fun i hi => by rw [l2.i (rl_out (by decide))]; exact hR2.2.2.2.1 i hi⟩
          have : ∀ x, t' = x → RS T e sa sz O (.inr x) := fun x hx => by rw [← hx]; exact l3.1
          exact this e te
        · have te : ¬ t' = e := fun w => z (by rw [w]; exact hE.1)
          have hc : ¬ chr b e sa t' = (-1 : Int32) := by
            rw [show chr b e sa t' = b (sa t') from if_neg te]
            exact hb _ (hL.2.2.2.2.1 t' (by have := hR1.2.1; omega)).1
          have hBO := hBN.rl l2
          obtain ⟨Q, f1, f2, f3⟩ := r_fail hBO l3.1 1 (T 4 t') (by decide)
          rw [if_neg hc, gi94 hBO.1, Option.bind_some, l3.2, ← hL.t4 hR1.2.1, f1, Option.bind_some, if_neg z]
          exact ⟨Q, rfl, (FN.tr (up_ra2 l2)).tr (up_ra2 f2), by rw [f2.i rfl, l2.i rfl]; exact n1, hBO.rl f2, f3⟩
    rw [k4.1, if_pos rfl, hqu, k2]
    by_cases q : k ≤ 2
    · rw [if_neg (by rw [show (3 : Int32) = nI 3 from rfl, cle (by decide) (by omega)]; omega), if_pos q]
      obtain ⟨N, n1, n2, n3⟩ := r_qTest (wh := 3) hL (by decide) hB2 w58 k4 hQ2
      rw [n1, Option.bind_some]
      obtain ⟨O, o1, o2⟩ := fin N (pTest 3 T 6 1) n2 n3
      rw [k2] at o1 o2
      exact ⟨nI k, O, o1, o2⟩
    · rw [if_pos (by rw [show (3 : Int32) = nI 3 from rfl, cle (by decide) (by omega)]; omega), if_neg q]
      unfold f_X12_ask_B98
      obtain ⟨N, n1, n2, n3⟩ := r_qSums (wh := 3) hL (by decide) hB2 w58 k4 hQ2 (fun s hs => absurd hs (by simp)) (by decide) (by decide)
      rw [gi94 hB2.1, Option.bind_some, k4.1, if_pos rfl, n1, Option.bind_some]
      obtain ⟨O, o1, o2⟩ := fin N (pSum 3 T 6 1) n2 (by
        rw [show 6 - 0 = 6 from rfl] at n3
        match zz : pSum 3 T 6 1 with
        | .inl w => rw [zz] at n3; exact n3.1
        | .inr w => rw [zz] at n3; exact ⟨n3.1, 0, by simpa using n3.2⟩)
      rw [k2] at o1 o2
      exact ⟨nI k, O, o1, o2⟩
  · have n5 : M2.2.1 94 5 ≠ 0 := by rw [k4.1]; exact k4.2.2
    unfold f_X12_ask_B98 f_X12_ask_B109
    rw [if_neg n5, gi94 hB2.1, Option.bind_some, if_neg n5, Option.bind_some, if_neg n5]
    refine ⟨kv, M2, rfl, F1.tr (up_ra2 a2), by rw [a2.i rfl]; exact v1', hB2, ?_⟩
    unfold quR
    rw [if_neg k3]
    exact k4
end RQ2
