/-! THE REFERENCE's statements: which one it is -/
section RD1
variable {b : Nat → Int32} {n e t c k wh : Nat} {T : Tk} {sa sz : Nat → Nat} {M N : sMem} {s : Cs} {d : Ds} {α : Type} {r : Flt ⊕ (α × Nat)} {P P' : α → Prop}
theorem isW_i {j : Nat} (h3 : T 3 t = 1) : isW T t j = true ↔ T 6 t = nI j := by
  unfold isW; rw [decide_eq_true_iff]; exact ⟨fun z => z.2, fun z => ⟨h3, z⟩⟩
theorem sm_f : smR b T sa sz false d t = if isW T t 1 = true then gateR b T sa sz d (T 4 t) (t + 1) else if isW T t 3 = true then placeR b T sa sz d (T 4 t) (t + 1) else if isW T t 4 = true then wayR b T sa sz d false (T 4 t) (t + 1) else if isW T t 7 = true then wayR b T sa sz d true (T 4 t) (t + 1) else if isW T t 9 = true then eraR b T sa sz d (T 4 t) (t + 1) else if isW T t 13 = true then carR b T sa sz d (T 4 t) (t + 1) else if isW T t 14 = true then codeR T d 0 (T 4 t) (t + 1) else if isW T t 15 = true then codeR T d 1 (T 4 t) (t + 1) else if isW T t 16 = true then codeR T d 2 (T 4 t) (t + 1) else if isW T t 17 = true then sb (numR T 0 100 (t + 1)) (fun v t => .inr (((d.1.1, v), d.2), t)) else .inl (1, T 4 t) := by
  unfold smR
  by_cases h3 : T 3 t = 1
  · simp only [isW_i h3]
    by_cases h6 : T 6 t ≠ -1 ∧ (false = true ↔ T 6 t = 0)
    · have h0 : ¬ T 6 t = 0 := fun z => by have := h6.2.mpr z; cases this
      rw [if_pos ⟨h3, h6.1, h6.2⟩, if_neg h0]
      rfl
    · rw [if_neg (fun z => h6 z.2)]
      have hv : T 6 t = mI ∨ T 6 t = nI 0 := by
        by_cases z : T 6 t = -1
        · exact Or.inl z
        · right
          by_cases w : T 6 t = 0
          · exact w
          · exact absurd ⟨z, fun y => (by cases y), fun y => absurd y w⟩ h6
      have hno : ∀ j, 1 ≤ j → j < 39 → ¬ T 6 t = nI j := fun j h1 h2 w => by
        rcases hv with z | z
        · rw [w] at z; rw [cneg (by omega)] at z; exact z
        · rw [w, nI_eq (by omega) (by omega)] at z; omega
      rw [if_neg (hno 1 (by decide) (by decide)), if_neg (hno 3 (by decide) (by decide)), if_neg (hno 4 (by decide) (by decide)), if_neg (hno 7 (by decide) (by decide)), if_neg (hno 9 (by decide) (by decide)), if_neg (hno 13 (by decide) (by decide)), if_neg (hno 14 (by decide) (by decide)), if_neg (hno 15 (by decide) (by decide)), if_neg (hno 16 (by decide) (by decide)), if_neg (hno 17 (by decide) (by decide))]
  · have hno : ∀ j, ¬ isW T t j = true := fun j w => by unfold isW at w; exact h3 (of_decide_eq_true w).1
    rw [if_neg (fun z => h3 z.1), if_neg (hno _), if_neg (hno _), if_neg (hno _), if_neg (hno _), if_neg (hno _), if_neg (hno _), if_neg (hno _), if_neg (hno _), if_neg (hno _), if_neg (hno _)]
theorem RH.mono (h : RH T e sa sz M r P) (hP : ∀ a, P a → P' a) : RH T e sa sz M r P' := by
  match r, h with
  | .inl q, h => exact h
  | .inr q, h => exact ⟨hP _ h.1, h.2⟩
theorem RH.sg {c : Nat} (h : RH T e sa sz M r P) (k : RS T e sa sz N (ndS T c (csR r))) : RH T e sa sz N (sb r fun a t => sb (aS T c t) fun _ t' => .inr (a, t')) P := by
  match r, h, k with
  | .inl q, h, k => exact k
  | .inr (a, t), h, k =>
    rw [sb_r]
    have e0 : ndS T c (csR (.inr (a, t))) = if isS T t c = true then .inr (t + 1) else .inl (1, T 4 t) := rfl
    rw [e0] at k
    unfold aS
    by_cases q : isS T t c = true
    · rw [if_pos q] at k ⊢; exact ⟨h.1, k⟩
    · rw [if_neg q] at k ⊢; exact k
theorem RH.of {N : sMem} (h : RH T e sa sz M r P) (hk : ∀ k, k = 2 ∨ k = 4 ∨ k = 5 ∨ k = 6 → N.2.1 94 k = M.2.1 94 k) : RH T e sa sz N r P := by
  match r, h with
  | .inl q, h => exact RS.of4 (show RS T e sa sz M (.inl q) from h) hk
  | .inr q, h => exact ⟨h.1, h.2.of4 hk⟩
/-- with the number of statements -/
def r56 : Nat → Nat → Bool := fun a k => rdX a k || (a == 94 && k == 56)
theorem up_56 (h : Fr rdX rdJ M N) : Fr r56 rdJ M N := h.mono (fun a k z => by unfold r56 at z; revert z; cases rdX a k <;> simp) (fun _ _ z => z)
theorem sg59 : sgB 59 := by unfold sgB; decide
def RF (b : Nat → Int32) (n : Nat) (T : Tk) (e : Nat) (sa sz : Nat → Nat) (M N : sMem) (R : Flt ⊕ (Ds × Nat)) : Prop := Fr r56 rdJ M N ∧ RB b n N ∧ RH T e sa sz N R fun d' => RD N d'
theorem h_218 (hL : Lex b n T e sa sz) {R : Flt ⊕ (Ds × Nat)} (h56 : M.2.1 94 56 = nI k) (hE : RE b n T e sa sz M N R) : ∃ O, f_X12_statementTold_B218 94 N = some O ∧ RF b n T e sa sz M O (sb R fun d t => sb (aS T 59 t) fun _ t' => .inr (d, t')) ∧ O.2.1 94 56 = nI (k + 1) := by
  obtain ⟨h1, h2, h3⟩ := hE
  obtain ⟨N1, a1, a2, a3⟩ := r_asksS (z := 59) (c := 59) hL h2 sg59 h3.rs rfl
  have hB1 := h2.rl a2
  unfold f_X12_statementTold_B218
  rw [a1, Option.bind_some, gi94 hB1.1, Option.bind_some, pi94 hB1.1, Option.bind_some, a2.i rfl, h1.i rfl, h56, nI_1]
  have F : Fr r56 rdJ N1 (wrI N1 94 56 (nI (k + 1))) := Fr.rf.wi rfl
  have h4 := (h3.mono (P' := fun d' => RD (wrI N1 94 56 (nI (k + 1))) d') (fun d' hd => (hd.of (N := N1) (fun a k h1 h2 => a2.i (rl_out (by omega))) (fun k => a2.j rfl) (a2.i rfl)).of (fun a k h1 h2 => wrI_ne (by omega)) (fun k => rfl) (wrI_ne (by omega)))).sg a3
  exact ⟨_, rfl, ⟨((up_56 h1).tr (up_56 (up_rd a2))).tr F, hB1.fr F rfl (fun c hc k => by unfold r56; rw [rd_c hc, beq_eq_false_iff_ne.mpr (show c ≠ 94 by omega)]; rfl), h4.of (fun k hk => wrI_ne (by omega))⟩, wrI_eq⟩
theorem RE.pre {O : sMem} {R : Flt ⊕ (Ds × Nat)} (hF : Fr rlX q0 O M) (h : RE b n T e sa sz M N R) : RE b n T e sa sz O N R := ⟨(up_rd hF).tr h.1, h.2⟩
/-- a statement but the first -/
theorem h_stat (hL : Lex b n T e sa sz) (hB : RG b n d M) (hg : GF d t) (hS : RSl T e sa sz M t) (h56 : M.2.1 94 56 = nI k) (hk : k < 80) : ∃ O, f_X12_statementTold 94 M = some O ∧ RF b n T e sa sz M O (sb (smR b T sa sz false d t) fun d t => sb (aS T 59 t) fun _ t' => .inr (d, t')) ∧ O.2.1 94 56 = nI (k + 1) := by
  have hs := hB.1.1
  have hte := hS.1.2.1
  have h4 : M.2.1 94 2 = T 4 t := by rw [hL.t4 hte]; exact hS.2
  have hcd : cdL d ≤ t + 1 := by have := hg.2.2.2.2; omega
  unfold f_X12_statementTold
  rw [sr94 hs, gi94 hs, Option.bind_some, gi94 hs, Option.bind_some, h56, h4, if_neg (by rw [show (80 : Int32) = nI 80 from rfl, nI_eq (by omega) (by omega)]; omega), sm_f]
  -- a word that stands there, and one that doesn't
  have yes : ∀ (M1 : sMem) (c j : Nat), isWc c → wdc c = j → Fr rlX q0 M M1 → RS T e sa sz M1 (.inr t) → isW T t j = true → ∀ (g : Int32 × sMem → Option sMem) (R : Flt ⊕ (Ds × Nat)) (f : sMem → Option sMem), (∀ N, g (1, N) = (f N).bind fun M5 => f_X12_statementTold_B218 94 M5) → (∀ N, RG b n d N → RS T e sa sz N (.inr (t + 1)) → ∃ O, f N = some O ∧ RE b n T e sa sz N O R) → ∃ O, ((f_X12_takes 94 c M1).bind g) = some O ∧ RF b n T e sa sz M O (sb R fun d t => sb (aS T 59 t) fun _ t' => .inr (d, t')) ∧ O.2.1 94 56 = nI (k + 1) := by
    intro M1 c j hc hj hF hS1 hw g R f hg hf
    subst hj
    obtain ⟨N, n1, n2, n3⟩ := r_takes_y hL (hB.rl hF).1 hc hS1 hw
    obtain ⟨O, o1, o2⟩ := hf N ((hB.rl hF).rl n2) n3
    rw [n1, Option.bind_some, hg, o1, Option.bind_some]
    exact h_218 hL h56 (o2.pre (hF.tr n2))
  have no : ∀ (M1 : sMem) (c j : Nat), isWc c → wdc c = j → Fr rlX q0 M M1 → RS T e sa sz M1 (.inr t) → ¬ isW T t j = true → ∃ N, f_X12_takes 94 c M1 = some (0, N) ∧ Fr rlX q0 M N ∧ RS T e sa sz N (.inr t) := by
    intro M1 c j hc hj hF hS1 hw
    subst hj
    obtain ⟨N, n1, n2, n3⟩ := r_takes_n hL (hB.rl hF).1 hc hS1 hw
    exact ⟨N, n1, hF.tr n2, n3.1⟩
  have hsr : ∀ M1, Fr rlX q0 M M1 → RefS M1.1 M1.2.2.2 := fun M1 h => h.hs hs
  rw [gr94_12 hs, Option.bind_some]
  by_cases w1 : isW T t 1 = true
  · rw [if_pos w1]
    exact yes M 98 1 (Or.inl ⟨by decide, by decide⟩) rfl Fr.rf hS.1 w1 _ _ (fun N => f_X12_gateTold 94 (T 4 t) N) (fun N => rfl) (fun N hN hs => h_gate hL hN hs _)
  · obtain ⟨M1, n1, n2, n3⟩ := no M 98 1 (Or.inl ⟨by decide, by decide⟩) rfl Fr.rf hS.1 w1
    rw [if_neg w1, n1]
    dsimp only [Option.bind_some]
    rw [if_pos rfl, gr94_14 (hsr _ n2), Option.bind_some]
    by_cases w2 : isW T t 3 = true
    · rw [if_pos w2]
      exact yes M1 100 3 (Or.inl ⟨by decide, by decide⟩) rfl n2 n3 w2 _ _ (fun N => f_X12_placeTold 94 (T 4 t) N) (fun N => rfl) (fun N hN hs => h_place hL hN hs _)
    · obtain ⟨M2, p1, p2, p3⟩ := no M1 100 3 (Or.inl ⟨by decide, by decide⟩) rfl n2 n3 w2
      rw [if_neg w2, p1]
      dsimp only [Option.bind_some]
      rw [if_pos rfl, gr94_15 (hsr _ p2), Option.bind_some]
      by_cases w3 : isW T t 4 = true
      · rw [if_pos w3]
        exact yes M2 101 4 (Or.inl ⟨by decide, by decide⟩) rfl p2 p3 w3 _ _ (fun N => f_X12_roadTold 94 0 (T 4 t) N) (fun N => rfl) (fun N hN hs => h_way hL hN hs false _)
      · obtain ⟨M3, q1, q2, q3⟩ := no M2 101 4 (Or.inl ⟨by decide, by decide⟩) rfl p2 p3 w3
        rw [if_neg w3, q1]
        dsimp only [Option.bind_some]
        rw [if_pos rfl, gr94_18 (hsr _ q2), Option.bind_some]
        by_cases w4 : isW T t 7 = true
        · rw [if_pos w4]
          exact yes M3 104 7 (Or.inl ⟨by decide, by decide⟩) rfl q2 q3 w4 _ _ (fun N => f_X12_roadTold 94 1 (T 4 t) N) (fun N => rfl) (fun N hN hs => h_way hL hN hs true _)
        · obtain ⟨M4, r1, r2, r3⟩ := no M3 104 7 (Or.inl ⟨by decide, by decide⟩) rfl q2 q3 w4
          rw [if_neg w4, r1]
          dsimp only [Option.bind_some]
          rw [if_pos rfl, gr94_20 (hsr _ r2), Option.bind_some]
          by_cases w5 : isW T t 9 = true
          · rw [if_pos w5]
            exact yes M4 106 9 (Or.inl ⟨by decide, by decide⟩) rfl r2 r3 w5 _ _ (fun N => f_X12_eraTold 94 (T 4 t) N) (fun N => rfl) (fun N hN hs => h_era hL hN hs _)
          · obtain ⟨M5, s1, s2, s3⟩ := no M4 106 9 (Or.inl ⟨by decide, by decide⟩) rfl r2 r3 w5
            rw [if_neg w5, s1]
            dsimp only [Option.bind_some]
            rw [if_pos rfl, gr94_24 (hsr _ s2), Option.bind_some]
            by_cases w6 : isW T t 13 = true
            · rw [if_pos w6]
              exact yes M5 110 13 (Or.inl ⟨by decide, by decide⟩) rfl s2 s3 w6 _ _ (fun N => f_X12_carTold 94 (T 4 t) N) (fun N => rfl) (fun N hN hs => h_car hL hN hs _)
            · obtain ⟨M6, t1, t2, t3⟩ := no M5 110 13 (Or.inl ⟨by decide, by decide⟩) rfl s2 s3 w6
              rw [if_neg w6, t1]
              dsimp only [Option.bind_some]
              rw [if_pos rfl, gr94_25 (hsr _ t2), Option.bind_some]
              by_cases w7 : isW T t 14 = true
              · rw [if_pos w7]
                exact yes M6 111 14 (Or.inl ⟨by decide, by decide⟩) rfl t2 t3 w7 _ _ (fun N => f_X12_codesTold 94 0 (T 4 t) N) (fun N => rfl) (fun N hN hs => h_code (wh := 0) hL hN (by decide) hcd hs _)
              · obtain ⟨M7, u1, u2, u3⟩ := no M6 111 14 (Or.inl ⟨by decide, by decide⟩) rfl t2 t3 w7
                rw [if_neg w7, u1]
                dsimp only [Option.bind_some]
                rw [if_pos rfl, gr94_26 (hsr _ u2), Option.bind_some]
                by_cases w8 : isW T t 15 = true
                · rw [if_pos w8]
                  exact yes M7 112 15 (Or.inl ⟨by decide, by decide⟩) rfl u2 u3 w8 _ _ (fun N => f_X12_codesTold 94 1 (T 4 t) N) (fun N => rfl) (fun N hN hs => h_code (wh := 1) hL hN (by decide) hcd hs _)
                · obtain ⟨M8, v1, v2, v3⟩ := no M7 112 15 (Or.inl ⟨by decide, by decide⟩) rfl u2 u3 w8
                  rw [if_neg w8, v1]
                  dsimp only [Option.bind_some]
                  rw [if_pos rfl, gr94_27 (hsr _ v2), Option.bind_some]
                  by_cases w9 : isW T t 16 = true
                  · rw [if_pos w9]
                    exact yes M8 113 16 (Or.inl ⟨by decide, by decide⟩) rfl v2 v3 w9 _ _ (fun N => f_X12_codesTold 94 2 (T 4 t) N) (fun N => rfl) (fun N hN hs => h_code (wh := 2) hL hN (by decide) hcd hs _)
                  · obtain ⟨M9, x1, x2, x3⟩ := no M8 113 16 (Or.inl ⟨by decide, by decide⟩) rfl v2 v3 w9
                    rw [if_neg w9, x1]
                    dsimp only [Option.bind_some]
                    rw [if_pos rfl, gr94_28 (hsr _ x2), Option.bind_some]
                    have h0 : RH T e sa sz M9 (.inr ((), t)) (fun _ : Unit => True) := ⟨trivial, x3⟩
                    obtain ⟨M10, y1, y2, y3, y4⟩ := h_w2 hL (hB.rl x2) h0 114 (Or.inl ⟨by decide, by decide⟩) (w := 17) rfl
                    obtain ⟨v, M11, z1, z2, z3, z4⟩ := h_n hL y3 y4 0 100
                    rw [y1, Option.bind_some, gr94_45 y3.1.1, Option.bind_some, z1]
                    dsimp only [Option.bind_some]
                    rw [show stI M11 130 1 v = some (wrI M11 130 1 v) from stI_n (j := 1) (rs130 z3.1.1) (by decide) (by decide), Option.bind_some]
                    have F : Fr rdX rdJ M11 (wrI M11 130 1 v) := Fr.rf.wi rfl
                    refine h_218 hL h56 ⟨(up_rd ((x2.tr y2).tr z2)).tr F, z3.1.rd F, ?_⟩
                    have e1 : (if isW T t 17 = true then sb (numR T 0 100 (t + 1)) (fun v t => .inr (((d.1.1, v), d.2), t)) else .inl (1, T 4 t)) = sb (sb (sb (.inr ((), t)) fun (a : Unit) t => sb (aW T 17 t) fun _ t' => .inr (a, t')) fun a t => sb (numR T 0 100 t) fun x t' => .inr ((a, x), t')) fun (q : Unit × Int32) t => (.inr (((d.1.1, q.2), d.2), t) : Flt ⊕ (Ds × Nat)) := by
                      simp only [sb_a, sb_r]
                      unfold aW
                      by_cases y : isW T t 17 = true
                      · have y' := y
                        unfold isW at y'
                        rw [if_pos y, if_pos (of_decide_eq_true y'), sb_r]
                      · have y' := y
                        unfold isW at y'
                        rw [if_neg y, if_neg (fun z => y' (decide_eq_true z))]
                        rfl
                    rw [e1]
                    have z5 := z4.of (N := wrI M11 130 1 v) (fun k hk => wrI_ne (by omega))
                    rcases z5.cs2 with ⟨q, c1, c2, c3⟩ | ⟨a, t', c1, c2, c3⟩
                    · rw [c1]; exact c3
                    · rw [c1, sb_r]
                      refine ⟨?_, c3⟩
                      obtain ⟨hRN, a3, a4, a5, a6, a7, a8, a9⟩ := z3.2.1
                      rw [← c2.2]
                      refine ⟨⟨fun kd hk => by rw [wrI_ne (by omega)]; exact hRN.1 kd hk, hRN.2⟩, fun i h => by rw [wrI_ne (by omega)]; exact a3 i h, fun i h j hj => by rw [wrI_ne (by omega)]; exact a4 i h j hj, fun i h j hj => by rw [wrI_ne (by omega)]; exact a5 i h j hj, fun i h j hj => by rw [wrI_ne (by omega)]; exact a6 i h j hj, ⟨by rw [wrI_ne (by omega)]; exact a7.1, wrI_eq⟩, by rw [wrI_ne (by omega)]; exact a8, fun wh hw => ?_⟩
                      have := a9 wh hw
                      show match d.2.2 wh with | none => _ | some c => _
                      cases z : d.2.2 wh with
                      | none => rw [z] at this; dsimp only at this ⊢; rw [wrI_ne (by omega)]; exact this
                      | some c =>
                        rw [z] at this
                        dsimp only at this ⊢
                        obtain ⟨fr, f1, f2, f3, f4⟩ := this
                        exact ⟨fr, by rw [wrI_ne (by omega)]; exact f1, by rw [wrI_ne (by omega)]; exact f2, f3, fun i h => by rw [wrI_ne (by omega)]; exact f4 i h⟩
end RD1
