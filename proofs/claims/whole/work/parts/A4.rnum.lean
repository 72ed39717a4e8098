section RN
variable {b : Nat → Int32} {n e t c : Nat} {T : Tk} {sa sz : Nat → Nat} {M N : sMem} {s : Cs}
/-- what comes of it, in the reference -/
def RV2 {α : Type} (T : Tk) (e : Nat) (sa sz : Nat → Nat) (N : sMem) (s : Cs) (g : Nat → (Int32 × Int32) ⊕ (α × Nat)) (v : α) : Prop := match s with | .inl q => RS T e sa sz N (.inl q) | .inr t => match g t with | .inl q => RS T e sa sz N (.inl q) | .inr q => v = q.1 ∧ RS T e sa sz N (.inr q.2)
theorem RV2_l {α : Type} {g : Nat → (Int32 × Int32) ⊕ (α × Nat)} {v : α} {q : Int32 × Int32} (h : g t = .inl q) (k : RS T e sa sz N (.inl q)) : RV2 T e sa sz N (.inr t) g v := by
  unfold RV2; dsimp only; rw [h]; exact k
theorem RV2_r {α : Type} {g : Nat → (Int32 × Int32) ⊕ (α × Nat)} {v : α} {t' : Nat} (h : g t = .inr (v, t')) (k : RS T e sa sz N (.inr t')) : RV2 T e sa sz N (.inr t) g v := by
  unfold RV2; dsimp only; rw [h]; exact ⟨rfl, k⟩
theorem dv_rg4 (hD : ∀ i, c ≤ i → i < c + 4 → isD (b i) = true) {k : Nat} (hk : k ≤ 4) : ∃ v, v ≤ 9999 ∧ dv b c k = nI v := by
  obtain ⟨v, v1, v2⟩ := dv_rg (b := b) (s := c) hk (fun i a1 a2 => hD i a1 (by omega))
  have : 10 ^ k ≤ 10 ^ 4 := Nat.pow_le_pow_right (by decide) hk
  exact ⟨v, by omega, v2⟩
theorem r_number (hL : Lex b n T e sa sz) (hB : RB b n M) (hS : RS T e sa sz M s) (lo hi : Int32) : ∃ v N, f_X12_number 94 lo hi M = some (v, N) ∧ Fr rlX q0 M N ∧ RV2 T e sa sz N s (numR T lo hi) v := by
  unfold f_X12_number
  rw [sr94 hB.1, gi94 hB.1, Option.bind_some]
  match s, hS with
  | .inl q, hS =>
    rw [hS.1, if_neg hS.2.2]
    exact ⟨_, M, rfl, Fr.rf, hS⟩
  | .inr t, hS =>
    obtain ⟨N, l1, l2, l3⟩ := r_look hL hB hS
    have hte := hS.2.1
    have hsN := l2.hs hB.1
    have hBN := hB.rl l2
    have hn := hL.2.1
    have hl := hL.2.2.2.1 t hte
    have et4 := hL.t4 hte
    -- it is none
    have B30 : T 3 t ≠ 2 → ∃ v O, f_X12_number_B30 94 N = some (v, O) ∧ Fr rlX q0 M O ∧ RV2 T e sa sz O (.inr t) (numR T lo hi) v := by
      intro h2
      obtain ⟨O, f1, f2, f3⟩ := r_fail hBN l3.1 1 (nI (sa t)) (by decide)
      refine ⟨0, O, ?_, l2.tr f2, RV2_l (by unfold numR; rw [if_neg h2, et4]) f3⟩
      unfold f_X12_number_B30
      rw [gi94 hsN, Option.bind_some, l3.2, f1]; rfl
    rw [hS.1, if_pos rfl, l1]
    dsimp only [Option.bind_some]
    rw [r_isDigit, Option.bind_some]
    cases hdt : isD (chr b e sa t) with
    | false =>
      rw [bI_f (by decide), if_pos rfl]
      exact B30 (hL.nd hte hdt)
    | true =>
      obtain ⟨hlt, hW⟩ := hL.dt hte hdt
      rw [bI_t rfl, if_neg (by decide), gi94 hsN, Option.bind_some, gi94 hsN, Option.bind_some, l3.2]
      have hglue := hL.2.2.2.2.2 t hlt (by rcases hW.2.2.2.2.1 with z | z <;> rw [z] <;> decide)
      have hen := l3.1.2.2.2.1.2
      by_cases hg : nI (sa t) = N.2.1 94 4
      · rw [if_pos hg]
        exact B30 (by rw [hglue.mpr (hen.mp hg)]; decide)
      · have h2 : T 3 t = 2 := by
          rcases hW.2.2.2.2.1 with z | z
          · exact z
          · exact absurd (hen.mpr (hglue.mp z)) hg
        rw [if_neg hg, Option.bind_some]
        unfold f_X12_number_L49
        obtain ⟨r, k1, k2⟩ := itr_g (f := fun x : (Int32 × sMem) => f_X12_number_K49 94 lo hi (nI (sa t)) x.1 x.2) (fun k (x : sMem) => (dv b (sa t) k, x))
          (fun k O => k ≤ 4 ∧ sa t + k ≤ sz t ∧ Fr (fun x i => x == 94 && i == 2) q0 N O ∧ O.2.1 94 2 = nI (sa t + k))
          (fun r => match r with | .inl O => 4 < sz t - sa t ∧ Fr (fun x i => x == 94 && i == 2) q0 N O ∧ O.2.1 94 2 = nI (sa t + 4) | .inr x => sz t - sa t ≤ 4 ∧ x.1 = dv b (sa t) (sz t - sa t) ∧ Fr (fun x i => x == 94 && i == 2) q0 N x.2 ∧ x.2.2.1 94 2 = nI (sz t)) 4 (by decide) (i := 0) (s := N) (by
            rintro k O hk ⟨j1, j2, j3, j4⟩
            have hsO := j3.hs hsN
            have h3 : O.2.1 94 3 = nI n := by rw [j3.i rfl]; exact hBN.2.2.1
            have h95 : ∀ i, i < n → O.2.1 95 i = b i := fun i hi => by rw [j3.i rfl]; exact hBN.2.2.2 i hi
            try dsimp only
            unfold f_X12_number_K49
            rw [gi94 hsO, Option.bind_some, gi94 hsO, Option.bind_some, h3, j4]
            by_cases hkn : n ≤ sa t + k
            · right
              rw [if_pos (by rw [cle (by omega) (by omega)]; exact hkn)]
              refine ⟨_, rfl, ?_⟩
              have : k = sz t - sa t := by omega
              exact ⟨by omega, by rw [this], j3, by rw [j4]; congr 1; omega⟩
            · rw [if_neg (by rw [cle (by omega) (by omega)]; exact hkn), gr94_0 hsO, Option.bind_some, Option.bind_some, ld95 hsO (by omega), Option.bind_some, h95 _ (by omega), r_isDigit, Option.bind_some]
              by_cases hks : sa t + k = sz t
              · right
                have hb : isD (b (sa t + k)) = false := by
                  rcases hW.2.2.2.1 with z | z
                  · omega
                  · rw [hks]; exact z
                rw [hb, bI_f (by decide), if_pos rfl]
                refine ⟨_, rfl, ?_⟩
                have : k = sz t - sa t := by omega
                exact ⟨by omega, by rw [this], j3, by rw [j4, hks]⟩
              · rw [hW.2.2.1 _ (by omega) (by omega), bI_t rfl, if_neg (by decide), Option.bind_some, nsub (by omega), show sa t + k - sa t = k by omega]
                by_cases hk4 : k = 4
                · right
                  rw [if_pos (by rw [hk4]; rfl)]
                  refine ⟨_, rfl, ?_⟩
                  exact ⟨by omega, j3, by rw [j4, hk4]⟩
                · left
                  rw [if_neg (by rw [show (4 : Int32) = nI 4 from rfl, nI_eq (by omega) (by omega)]; exact hk4), Option.bind_some, Option.bind_some, ld95 hsO (by omega), Option.bind_some, h95 _ (by omega), Option.bind_some, nI_1, pi94 hsO, Option.bind_some]
                  refine ⟨by omega, wrI O 94 2 (nI (sa t + k + 1)), ?_, by omega, by omega, j3.wi rfl, by rw [wrI_eq]; congr 1⟩
                  show some (Sum.inl ((10 : Int32) * dv b (sa t) k + b (sa t + k) - 48, _)) = some (Sum.inl (dv b (sa t) k * 10 + b (sa t + k) - 48, _))
                  rw [Int32.mul_comm 10 (dv b (sa t) k)]) (by decide) ⟨by decide, by omega, Fr.rf, by rw [l3.2]; rfl⟩
        have up : ∀ {A B : sMem}, Fr (fun x i => x == 94 && i == 2) q0 A B → Fr rlX q0 A B := fun hF => hF.mono (fun x i z => by
          unfold rlX at z
          cases h9 : (x == 94) with
          | false => rfl
          | true =>
            rw [h9] at z
            cases h2 : (i == 2) with
            | false => rfl
            | true => rw [h2] at z; exact absurd z (by simp)) (fun _ _ z => z)
        try dsimp only at k1
        have k1' : sItr (fun x : (Int32 × sMem) => f_X12_number_K49 94 lo hi (nI (sa t)) x.1 x.2) sFuel ((0 : Int32), N) = some r := k1
        rw [k1', Option.bind_some]
        match r, k2 with
        | .inl O, k2 =>
          obtain ⟨q1, q2, q3⟩ := k2
          have hBO := hBN.rl (up q2)
          obtain ⟨Z, f1, f2, f3⟩ := r_fail0 (T := T) (e := e) (sa := sa) (sz := sz) hBO (by rw [q2.i rfl]; exact l3.1.1) 1 (nI (sa t + 4)) (by decide)
          refine ⟨0, Z, ?_, (l2.tr (up q2)).tr f2, RV2_l ?_ f3⟩
          · show f_X12_number_B85 94 O = _
            unfold f_X12_number_B85
            rw [gi94 hBO.1, Option.bind_some, q3, f1]; rfl
          · unfold numR
            rw [if_pos h2, hl.2.1, et4, nsub (by omega), if_neg (by rw [show (4 : Int32) = nI 4 from rfl, cle (by omega) (by omega)]; omega), show (4 : Int32) = nI 4 from rfl, nI_add]
        | .inr (x, O), k2 =>
          obtain ⟨q1, q2, q3, q4⟩ := k2
          dsimp only at q2 q3 q4
          have hBO := hBN.rl (up q3)
          have hsO := hBO.1
          have e6 : T 6 t = x := by rw [q2, hW.2.2.2.2.2, Nat.min_eq_left q1]
          have c4 : T 5 t - T 4 t ≤ 4 := by
            rw [hl.2.1, et4, nsub (by omega), show (4 : Int32) = nI 4 from rfl, cle (by omega) (by omega)]; omega
          have hRO : RS T e sa sz (wrI (wrI O 94 4 (nI (sz t))) 94 10 (nI (sa t))) (.inr (t + 1)) := by
            refine ⟨?_, by omega, ⟨sz t, by rw [wrI_ne (by omega), wrI_ne (by omega)]; exact q4, by rw [pv_s]; omega, (hL.2.2.2.1 (t + 1) (by omega)).2.2.2.2.1⟩, ?_, ?_⟩
            · rw [wrI_ne (by omega), wrI_ne (by omega), q3.i rfl]; exact l3.1.1
            · rw [wrI_ne (by omega), wrI_eq]; exact En.w hL hlt (by rw [h2]; decide)
            · rw [wrI_ne (by omega), wrI_ne (by omega), q3.i rfl]; exact l3.1.2.2.2.2
          have hF2 : Fr rlX q0 O (wrI (wrI O 94 4 (nI (sz t))) 94 10 (nI (sa t))) := (Fr.rf.wi rfl).wi rfl
          have hB2 := hBO.rl hF2
          show ∃ v Z, f_X12_number_B129 94 lo hi (nI (sa t)) x O = some (v, Z) ∧ _
          unfold f_X12_number_B129
          rw [gi94 hsO, Option.bind_some, q4, pi94 hsO, Option.bind_some, pi94 (M := wrI O 94 4 (nI (sz t))) hsO, Option.bind_some, isIn_of, Option.bind_some, i64, i64, i64]
          by_cases hr : lo.toInt ≤ x.toInt ∧ x.toInt ≤ hi.toInt
          · rw [bI_t hr, if_neg (by decide)]
            refine ⟨x, _, rfl, (l2.tr (up q3)).tr hF2, RV2_r ?_ hRO⟩
            unfold numR
            rw [if_pos h2, if_pos c4, e6, if_pos ⟨le_i.mpr hr.1, le_i.mpr hr.2⟩]
          · obtain ⟨Z, f1, f2, f3⟩ := r_fail0 (T := T) (e := e) (sa := sa) (sz := sz) hB2 hRO.1 2 (nI (sa t)) (by decide)
            rw [bI_f hr, if_pos rfl, gi94 (M := wrI (wrI O 94 4 (nI (sz t))) 94 10 (nI (sa t))) hsO, Option.bind_some, wrI_eq, f1]
            refine ⟨x, Z, rfl, ((l2.tr (up q3)).tr hF2).tr f2, RV2_l ?_ f3⟩
            unfold numR
            rw [if_pos h2, if_pos c4, e6, if_neg (fun z => hr ⟨le_i.mp z.1, le_i.mp z.2⟩), et4]
end RN
