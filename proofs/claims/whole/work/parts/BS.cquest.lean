/-! THE QUESTION: the spec, and the class -/
def quR (T : Tk) : Flt ⊕ (Nat × List Nat) := if T 3 0 = 1 ∧ (33 : Int32) ≤ T 6 0 then (match (if (T 6 0).toInt.toNat - 33 ≤ 2 then pTest 3 T 6 1 else pSum 3 T 6 1) with | .inl q => .inl q | .inr q => if T 3 q.2 = 0 then .inr ((T 6 0).toInt.toNat - 33, q.1) else .inl (1, T 4 q.2)) else .inl (1, T 4 0)
section CQU
variable {b : Nat → Int32} {n e t : Nat} {T : Tk} {sa sz : Nat → Nat} {M N : sMem} {s : Cs}
/-- what comes of it -/
def QZ (e : Nat) (N : sMem) (v : Int32) (R : Flt ⊕ (Nat × List Nat)) : Prop := match R with | .inl q => v = -1 ∧ CS e N (.inl q) | .inr (k, cs) => v = nI (33 + k) ∧ k ≤ 5 ∧ CS e N (.inr e) ∧ Pc N 8 cs ∧ tyA cs [] = some [decide (k ≤ 2)] ∧ (∀ x ∈ cs, okCode 3 x = true) ∧ cs.length ≤ 1600
theorem c_quest (hC : CT b n M) (hA : PA M) : ∃ v N M1 e sa sz, f_X5_readQuestion 7 M = some (v, N) ∧ Fr srX q0 M M1 ∧ Lex b n M1.2.1 e sa sz ∧ FP 8 M1 N ∧ PA N ∧ QZ e N v (quR M1.2.1) := by
  obtain ⟨M1, e, sa, sz, a1, a2, a3, a4, a5⟩ := c_start hC
  have hp : 8 ∈ prgL := by decide
  have hc := hC.1
  have hc1 := a4.1
  have hA1 : PA M1 := hA.fr a2 (by decide)
  unfold f_X5_readQuestion
  rw [sr7 hc, gr7_0 hc, Option.bind_some, a1, Option.bind_some, gr7_1 hc1, Option.bind_some, pI_of (hA1.2.1 8 hp).1, Option.bind_some]
  generalize hT : M1.2.1 = T at *
  have hE := a3.1
  have hR := a3.R
  obtain ⟨M2, m2⟩ : ∃ M2, M2 = wrI M1 8 1 0 := ⟨_, rfl⟩
  rw [← m2]
  have i2 : ∀ a k, ¬ (a = 8 ∧ k = 1) → M2.2.1 a k = M1.2.1 a k := fun a k h => by rw [m2, wrI_ne h]
  have F2 : Fr (fun a k => a == 8 && k == 1) q0 M1 M2 := by rw [m2]; exact Fr.rf.wi rfl
  have P2 : FP 8 M1 M2 := ⟨fun a q z => by rw [F2.1]; exact z, fun a k _ _ h _ => i2 a k (by omega), fun a k _ => F2.j rfl, fun a k _ _ => by rw [F2.2.1], Or.inl (by rw [F2.2.1]), Nat.le_of_eq F2.pot⟩
  have W2 : PW M2 8 := by
    obtain ⟨h1, q, n', s, w2, w3, w4, w5, w6, w7⟩ := hA1.2.1 8 hp
    exact ⟨by rw [F2.1]; exact h1, q, n', 0, by rw [F2.2.1]; exact w2, by rw [F2.1]; exact w3, w4, by rw [m2, wrI_eq]; rfl, Nat.zero_le _, w7⟩
  have hA2 : PA M2 := hA1.of P2 hp W2
  have hPc : Pc M2 8 [] := by
    obtain ⟨h1, q, n', s, w2, w3, w4, w5, w6, w7⟩ := W2
    exact ⟨q, n', w2, w3, by rw [m2, wrI_eq]; rfl, Nat.zero_le _, fun i h => absurd h (Nat.not_lt_zero i)⟩
  have T2 : TG T e M2 := a4.fp hA1 hp P2
  have S2 : CS e M2 (.inr 0) := CS.eq a5 (fun k => i2 1 k (by omega))
  have hc2 := T2.1
  rw [gr7_0 hc2, Option.bind_some, c_word T2 S2, Option.bind_some, show ps e (.inr 0) = 0 from rfl]
  have bad : T 3 0 ≠ 1 ∨ ¬ (33 : Int32) ≤ T 6 0 → ∃ v N, ((some 1).bind fun x21 => (some 1).bind fun x22 => (f_X10_place x22 M2).bind fun x23 => (f_X10_fail x21 ((1 : Int32)) x23 M2).bind fun M24 => some (((-1 : Int32), M24))) = some (v, N) ∧ FP 8 M1 N ∧ PA N ∧ QZ e N v (quR T) := by
    intro h
    obtain ⟨N, f1, f2, f3⟩ := c_fail T2 S2 1 (T 4 0) (by decide)
    rw [Option.bind_some, Option.bind_some, c_place T2 S2, Option.bind_some, show T 4 (ps e (.inr 0)) = T 4 0 from rfl, f1]
    refine ⟨-1, N, rfl, P2.tr f2.fp, hA2.tp f2, ?_⟩
    unfold quR
    rw [if_neg (fun z => by rcases h with h | h; exact h z.1; exact h z.2)]
    exact ⟨rfl, f3⟩
  by_cases h3 : T 3 0 = 1
  · rw [if_pos h3]
    by_cases h6 : (33 : Int32) ≤ T 6 0
    · rw [if_pos h6, Option.bind_some]
      obtain ⟨M3, b1, b2, b3⟩ := c_needW T2 S2 (T 6 0)
      have e0 : ndW T (T 6 0) (.inr 0) = if T 3 0 = 1 ∧ T 6 0 = T 6 0 then .inr (0 + 1) else .inl (1, T 4 0) := rfl
      rw [e0, if_pos ⟨h3, rfl⟩] at b3
      have T3 := T2.fr b2
      have hA3 := hA2.tp b2
      obtain ⟨j, j1, j2⟩ : ∃ j, j < 39 ∧ T 6 0 = nI j := by
        rcases hR.1 0 (Nat.zero_le _) h3 with z | z
        · rw [z] at h6; exact absurd h6 (by decide)
        · exact z
      have j33 : 33 ≤ j := by rw [j2, show (33 : Int32) = nI 33 from rfl, cle (by decide) (by omega)] at h6; exact h6
      have jt : (T 6 0).toInt.toNat = j := by rw [j2, nI_int (by omega)]; rfl
      have hPc3 := hPc.tp hA2 hp b2
      have B87 : ∀ (N : sMem) (R : Rs), FP 8 M1 N → PA N → TG T e N → RP e 8 M3 N [] 1 R → (∀ cs t', R = .inr (cs, t') → tyA cs [] = some [decide (j - 33 ≤ 2)] ∧ (∀ x ∈ cs, okCode 3 x = true) ∧ cs.length ≤ 1600) → ∃ v O, f_X5_readQuestion_B87 7 (nI j) N = some (v, O) ∧ FP 8 M1 O ∧ PA O ∧ QZ e O v (match R with | .inl q => .inl q | .inr q => if T 3 q.2 = 0 then .inr (j - 33, q.1) else .inl (1, T 4 q.2)) := by
        intro N R hF hAN TN hRP hty
        have B112 : ∀ (O : sMem) s, TG T e O → CS e O s → f_X5_readQuestion_B112 7 (nI j) O = some (match s with | .inl _ => -1 | .inr _ => nI j, O) := fun O s TO hs => by
          unfold f_X5_readQuestion_B112
          rw [gr7_0 TO.1, Option.bind_some, c_isGood TO hs, Option.bind_some]
          match s with
          | .inl q => rfl
          | .inr t => rfl
        unfold f_X5_readQuestion_B87
        rw [gr7_0 TN.1, Option.bind_some]
        match R, hRP, hty with
        | .inl q, hRP, hty =>
          have hs : CS e N (.inl q) := hRP
          rw [c_isOver TN hs, bI_t (show T 3 (ps e (.inl q)) = 0 from hE.1), Option.bind_some, if_neg (by decide), B112 N (.inl q) TN hs]
          exact ⟨_, N, rfl, hF, hAN, rfl, hs⟩
        | .inr (cs, t'), hRP, hty =>
          obtain ⟨hs, hq⟩ := hRP
          dsimp only at hs hq ⊢
          rw [c_isOver TN hs, show ps e (.inr t') = t' from rfl, Option.bind_some]
          by_cases z : T 3 t' = 0
          · rw [bI_t z, if_neg (by decide), B112 N (.inr t') TN hs, if_pos z]
            obtain ⟨y1, y2, y3⟩ := hty cs t' rfl
            have hpcs := hq [] hPc3 (Nat.zero_le _)
            have te := a3.k0 hs.2.1 z
            refine ⟨_, N, rfl, hF, hAN, by rw [show 33 + (j - 33) = j by omega], by omega, ?_, by simpa using hpcs, y1, y2, y3⟩
            have : ∀ x, t' = x → CS e N (.inr x) := fun x hx => by rw [← hx]; exact hs
            exact this e te
          · obtain ⟨O, f1, f2, f3⟩ := c_fail TN hs 1 (T 4 t') (by decide)
            rw [bI_f z, if_pos rfl, Option.bind_some, Option.bind_some, c_place TN hs, Option.bind_some, show T 4 (ps e (.inr t')) = T 4 t' from rfl, f1, Option.bind_some, B112 O (.inl (1, T 4 t')) (TN.fr f2) f3, if_neg z]
            exact ⟨_, O, rfl, hF.tr f2.fp, hAN.tp f2, rfl, f3⟩
      have hqu : quR T = match (if j - 33 ≤ 2 then pTest 3 T 6 1 else pSum 3 T 6 1) with | .inl q => .inl q | .inr q => if T 3 q.2 = 0 then .inr (j - 33, q.1) else .inl (1, T 4 q.2) := by
        unfold quR
        rw [if_pos ⟨h3, h6⟩, jt]
      have h1e : 1 ≤ e := b3.2.1
      have he := hE.2
      rw [b1, Option.bind_some, j2]
      by_cases q : j ≤ 35
      · rw [if_neg (by rw [show (35 : Int32) = nI 35 from rfl, clt (by decide) (by omega)]; omega), gr7_1 T3.1, Option.bind_some]
        obtain ⟨N, n1, n2, n3, n4⟩ := (cp_test0 (wh := 3) hE hR hp (by decide) M3 T3 hA3).2 1 b3
        replace n1 : F_parser 64 0 7 8 132124708 0 0 M3 = some N := n1
        rw [n1, Option.bind_some]
        obtain ⟨v, O, o1, o2, o3, o4⟩ := B87 N _ ((P2.tr b2.fp).tr n2) n3 (T3.fp hA3 hp n2) n4 (fun cs t' h => by
          have g := gd_test0 hE hR h1e h
          have l := ptest_adv hE 1 cs t' h1e h
          exact ⟨by rw [decide_eq_true (show j - 33 ≤ 2 by omega)]; exact g.1, g.2, by omega⟩)
        exact ⟨v, O, M1, e, sa, sz, o1, a2, by rw [hT]; exact a3, o2, o3, by rw [hT, hqu, if_pos (show j - 33 ≤ 2 by omega)]; exact o4⟩
      · rw [if_pos (by rw [show (35 : Int32) = nI 35 from rfl, clt (by decide) (by omega)]; omega), gr7_1 T3.1, Option.bind_some]
        obtain ⟨N, n1, n2, n3, n4⟩ := (cp_sum0 (wh := 3) hE hR hp (by decide) M3 T3 hA3).2 1 b3
        replace n1 : F_parser 64 3 7 8 132124708 0 0 M3 = some N := n1
        rw [n1, Option.bind_some]
        obtain ⟨v, O, o1, o2, o3, o4⟩ := B87 N _ ((P2.tr b2.fp).tr n2) n3 (T3.fp hA3 hp n2) n4 (fun cs t' h => by
          have g := gd_sum0 hE hR h1e h
          have l := psum_adv hE 1 cs t' h1e h
          exact ⟨by rw [decide_eq_false (show ¬ j - 33 ≤ 2 by omega)]; exact g.1, g.2, by omega⟩)
        exact ⟨v, O, M1, e, sa, sz, o1, a2, by rw [hT]; exact a3, o2, o3, by rw [hT, hqu, if_neg (show ¬ j - 33 ≤ 2 by omega)]; exact o4⟩
    · rw [if_neg h6]
      obtain ⟨v, N, n1, n2, n3, n4⟩ := bad (Or.inr h6)
      exact ⟨v, N, M1, e, sa, sz, n1, a2, by rw [hT]; exact a3, n2, n3, by rw [hT]; exact n4⟩
  · rw [if_neg h3, if_neg (by decide)]
    obtain ⟨v, N, n1, n2, n3, n4⟩ := bad (Or.inl h3)
    exact ⟨v, N, M1, e, sa, sz, n1, a2, by rw [hT]; exact a3, n2, n3, by rw [hT]; exact n4⟩
end CQU
