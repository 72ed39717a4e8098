section NN
variable {b : Nat → Int32} {n e t c : Nat} {T : Tk} {sa sz : Nat → Nat} {M N : sMem} {s : Cs}
theorem b_nI {x : Int32} (h : isL x = true) : x = nI x.toInt.toNat := by
  have := isL_i h
  refine eq_i.mpr ?_
  rw [nI_i (by omega)]; omega
/-- the class's name -/
theorem c_name (hL : Lex b n T e sa sz) (hC : CT b n M) (hT : TG T e M) (h : CS e M s) : ∃ v N, f_X10_name 1 M = some (v, N) ∧ Fr tpX q0 M N ∧ (match s with | .inl q => CS e N (.inl q) | .inr t => match nameR b T sa sz t with | .inl q => CS e N (.inl q) | .inr q => v = nI (nv q.1 6) ∧ CS e N (.inr q.2)) := by
  have hn := hL.2.1
  have he := hL.1.2
  -- what is own
  have B70 : ∀ (s : Cs) (x : Int32), CS e M s → ∃ v N, f_X10_name_B70 1 x M = some (v, N) ∧ Fr tpX q0 M N ∧ CS e N (cbd s fun _ => .inl (1, x)) := by
    intro s x hs
    obtain ⟨N, f1, f2, f3⟩ := c_fail hT hs 1 x (by decide)
    unfold f_X10_name_B70
    rw [f1]
    exact ⟨0, N, rfl, f2, f3⟩
  match s, h with
  | .inl q, h =>
    obtain ⟨h1, h2, h3, h4, h5⟩ := h.ld hT
    replace h1 : gI 10 10 7 M 1 = some (nI e) := h1
    replace h2 : ldI 14 M 3 (nI e) = some (T 3 e) := h2
    replace h3 : ldI 14 M 4 (nI e) = some (T 4 e) := h3
    replace h4 : ldI 14 M 5 (nI e) = some (T 5 e) := h4
    replace h5 : ldI 14 M 6 (nI e) = some (T 6 e) := h5
    obtain ⟨v, N, f1, f2, f3⟩ := B70 (.inl q) (T 4 e) h
    have hB52 : ∀ x, f_X10_name_B52 1 (T 4 e) (T 5 e) x M = some (v, N) := by
      intro x
      unfold f_X10_name_B52
      rw [gr1_2 hT.1, Option.bind_some, h1, Option.bind_some, h2, Option.bind_some, if_neg (fun z => absurd (hT.2.2.2.1.symm.trans z) (by decide)), f1]
    refine ⟨v, N, ?_, f2, f3⟩
    unfold f_X10_name f_X10_name_B51
    rw [sr1 hT.1, gr1_3 hT.1, Option.bind_some, h1, Option.bind_some, h3, Option.bind_some, gr1_4 hT.1, Option.bind_some, Option.bind_some, h4, Option.bind_some, gr1_5 hT.1, Option.bind_some, Option.bind_some, h5, Option.bind_some]
    simp only [Option.bind_some, h5, hB52, ite_self]
  | .inr t, h =>
    have hte := h.2.1
    obtain ⟨h1, h2, h3, h4, h5⟩ := h.ld hT
    replace h1 : gI 10 10 7 M 1 = some (nI t) := h1
    replace h2 : ldI 14 M 3 (nI t) = some (T 3 t) := h2
    replace h3 : ldI 14 M 4 (nI t) = some (T 4 t) := h3
    replace h4 : ldI 14 M 5 (nI t) = some (T 5 t) := h4
    replace h5 : ldI 14 M 6 (nI t) = some (T 6 t) := h5
    have hl := hL.2.2.2.1 t hte
    have hB52 : ∀ x : Int32, (T 3 t = 1 → (x = 0 ↔ ¬ ownF T t 0 33 = true)) → ∃ v N, f_X10_name_B52 1 (T 4 t) (T 5 t) x M = some (v, N) ∧ Fr tpX q0 M N ∧ (match nameR b T sa sz t with | .inl q => CS e N (.inl q) | .inr q => v = nI (nv q.1 6) ∧ CS e N (.inr q.2)) := by
      intro x hx
      unfold f_X10_name_B52 nameR
      rw [gr1_2 hT.1, Option.bind_some, h1, Option.bind_some, h2, Option.bind_some]
      by_cases k1 : T 3 t = 1
      · rw [if_pos k1]
        have hlt := hL.ne hte (by rw [k1]; decide)
        have hW := hL.k1 hlt k1
        by_cases k2 : x = 0
        · rw [if_pos k2, if_pos (show T 3 t = 1 ∧ ¬ ownF T t 0 33 = true from ⟨k1, (hx k1).mp k2⟩)]
          have e6 : (T 5 t - T 4 t ≤ 6) = (sz t - sa t ≤ 6) := by rw [hl.2.1, hl.1, nsub (by omega), show (6 : Int32) = nI 6 from rfl, cle (by omega) (by omega)]
          by_cases k3 : T 5 t - T 4 t ≤ 6
          · have k3' : sz t - sa t ≤ 6 := by rw [← e6]; exact k3
            rw [if_pos k3, if_pos k3]
            obtain ⟨g1, g2, g3⟩ := c_goOn hT h (by omega)
            have hC2 : CT b n (wrI M 1 7 (nI (t + 1))) := hC.fr g2 rfl (fun i => rfl)
            rw [g1, Option.bind_some]
            have hgd := nm_gd (b := b) hW.2.1 k3' hW.2.2.1
            unfold f_X10_name_L107
            obtain ⟨r, r1, r2⟩ := itr_g (f := fun a : (Int32 × Int32) => f_X10_name_K107 1 (T 4 t) (T 5 t) a.1 a.2 (wrI M 1 7 (nI (t + 1)))) (fun k (_ : Unit) => (nI (nv (nmL b (sa t) (sz t)) k), nI (sa t + k))) (fun k _ => k ≤ 6) (fun r => r = (nI (nv (nmL b (sa t) (sz t)) 6), wrI M 1 7 (nI (t + 1)))) 6 (by decide) (i := 0) (s := ()) (by
              rintro k _ hk _
              try dsimp only
              unfold f_X10_name_K107
              rw [hl.1, hl.2.1, show (6 : Int32) = nI 6 from rfl, nI_add]
              by_cases q6 : 6 ≤ k
              · right
                have : k = 6 := by omega
                subst this
                rw [if_pos (by rw [cle (by omega) (by omega)]; omega)]
                exact ⟨_, rfl, rfl⟩
              · rw [if_neg (by rw [cle (by omega) (by omega)]; omega)]
                left
                have hlt27 := nv_lt hgd.2.2 k
                have h27 : 27 ^ k ≤ 27 ^ 5 := Nat.pow_le_pow_right (by decide) (by omega)
                have hmul : nI (nv (nmL b (sa t) (sz t)) k) * (27 : Int32) = nI (nv (nmL b (sa t) (sz t)) k * 27) := by rw [show (27 : Int32) = nI 27 from rfl, pk_mul]
                have hget := nm_get (b := b) (s := sa t) (z := sz t) (i := k)
                refine ⟨by omega, (), ?_, by omega⟩
                show _ = some (Sum.inl (nI (nv (nmL b (sa t) (sz t)) k * 27 + (nmL b (sa t) (sz t)).getD k 0), _))
                unfold f_X10_name_B142
                by_cases qz : sz t ≤ sa t + k
                · rw [if_neg (by omega)] at hget
                  rw [if_pos (by rw [cle (by omega) (by omega)]; exact qz), hmul, nI_1, hget, show (0 : Int32) = nI 0 from rfl, nI_add]
                  rfl
                · rw [if_pos (by omega)] at hget
                  have hb := hW.2.2.1 (sa t + k) (by omega) (by omega)
                  have hbi := isL_i hb
                  have e9 : b (sa t + k) - 97 + 1 = nI ((b (sa t + k)).toInt.toNat - 96) := by
                    rw [b_nI hb]
                    have e0 : (nI (b (sa t + k)).toInt.toNat).toInt.toNat = (b (sa t + k)).toInt.toNat := by rw [nI_i (by omega)]; rfl
                    rw [e0, show (97 : Int32) = nI 97 from rfl, nsub (by omega), nI_1]
                    congr 1; omega
                  rw [if_neg (by rw [cle (by omega) (by omega)]; exact qz), c_byteAt hC2 (by omega), Option.bind_some, hmul, e9, nI_add, nI_1, hget]
                  rfl) (Nat.zero_le _) (Nat.zero_le _)
            have r1' : sItr (fun a : (Int32 × Int32) => f_X10_name_K107 1 (T 4 t) (T 5 t) a.1 a.2 (wrI M 1 7 (nI (t + 1)))) sFuel ((0 : Int32), T 4 t) = some r := by rw [hl.1] at r1 ⊢; exact r1
            rw [r1', Option.bind_some, r2]
            exact ⟨_, _, rfl, g2, rfl, g3⟩
          · rw [if_neg k3, if_neg k3]
            obtain ⟨N, f1, f2, f3⟩ := c_fail hT h 1 (T 4 t + 6) (by decide)
            rw [f1]
            exact ⟨0, N, rfl, f2, f3⟩
        · rw [if_neg k2, if_neg (fun z => k2 ((hx k1).mpr z.2))]
          exact B70 (.inr t) (T 4 t) h
      · rw [if_neg k1, if_neg (fun z => k1 z.1)]
        exact B70 (.inr t) (T 4 t) h
    unfold f_X10_name f_X10_name_B51
    rw [sr1 hT.1, gr1_3 hT.1, Option.bind_some, h1, Option.bind_some, h3, Option.bind_some, gr1_4 hT.1, Option.bind_some, Option.bind_some, h4, Option.bind_some, gr1_5 hT.1, Option.bind_some, Option.bind_some, h5, Option.bind_some]
    by_cases qm : T 6 t = -1
    · rw [if_pos qm]
      refine hB52 0 (fun _ => ⟨fun _ z => ?_, fun _ => rfl⟩)
      obtain ⟨j, j1, j2, j3⟩ := own_e z
      have := (isW_v j3).2
      rw [qm] at this
      have w : mI = nI j := this
      rw [cneg' (by omega)] at w; exact w
    · rw [if_neg qm, Option.bind_some, Option.bind_some, h5, Option.bind_some]
      by_cases q33 : (33 : Int32) ≤ T 6 t
      · rw [if_pos q33]
        refine hB52 0 (fun _ => ⟨fun _ z => ?_, fun _ => rfl⟩)
        obtain ⟨j, j1, j2, j3⟩ := own_e z
        have := (isW_v j3).2
        rw [this, show (33 : Int32) = nI 33 from rfl, cle (by omega) (by omega)] at q33
        omega
      · rw [if_neg q33]
        refine hB52 1 (fun k1 => ⟨fun z => absurd z (by decide), fun z => absurd ?_ z⟩)
        have hlt := hL.ne hte (by rw [k1]; decide)
        rcases (hL.k1 hlt k1).2.2.2.2.2.1 with w | ⟨j, j1, j2⟩
        · exact absurd w qm
        · refine own_y (j := j) (Nat.zero_le _) ?_ (decide_eq_true ⟨k1, j2⟩)
          rw [j2, show (33 : Int32) = nI 33 from rfl, cle (by omega) (by omega)] at q33
          omega
/-- the reference's name -/
theorem r_name (hL : Lex b n T e sa sz) (hB : RB b n M) (hS : RS T e sa sz M s) : ∃ v N, f_X12_name 94 M = some (v, N) ∧ Fr rlX q0 M N ∧ (match s with | .inl q => RS T e sa sz N (.inl q) | .inr t => match nameR b T sa sz t with | .inl q => RS T e sa sz N (.inl q) | .inr q => v.toInt = nv q.1 q.1.length ∧ RS T e sa sz N (.inr q.2) ∧ N.2.1 94 44 = T 4 t) := by
  have hn := hL.2.1
  unfold f_X12_name
  rw [sr94 hB.1, gi94 hB.1, Option.bind_some]
  match s, hS with
  | .inl q, hS =>
    rw [hS.1, if_neg hS.2.2]
    exact ⟨_, M, rfl, Fr.rf, hS⟩
  | .inr t, hS =>
    obtain ⟨N, l1, l2, l3⟩ := r_look hL hB hS
    have hte := hS.2.1
    have hsN := l2.hs hB.1
    have hBN := hB.rl l2
    have hl := hL.2.2.2.1 t hte
    have et4 := hL.t4 hte
    have B37 : ∀ N : sMem, Fr rlX q0 M N → RSl T e sa sz N t → ¬ (T 3 t = 1 ∧ ¬ ownF T t 0 33 = true) → ∃ v O, f_X12_name_B37 94 N = some (v, O) ∧ Fr rlX q0 M O ∧ (match nameR b T sa sz t with | .inl q => RS T e sa sz O (.inl q) | .inr q => v.toInt = nv q.1 q.1.length ∧ RS T e sa sz O (.inr q.2) ∧ O.2.1 94 44 = T 4 t) := by
      intro N g s1 h2
      have hBN := hB.rl g
      obtain ⟨O, f1, f2, f3⟩ := r_fail hBN s1.1 1 (nI (sa t)) (by decide)
      refine ⟨0, O, ?_, g.tr f2, ?_⟩
      · unfold f_X12_name_B37
        rw [gi94 hBN.1, Option.bind_some, s1.2, f1]; rfl
      · unfold nameR
        rw [if_neg h2, et4]
        exact f3
    rw [hS.1, if_pos rfl, l1]
    dsimp only [Option.bind_some]
    rw [r_isLetter, Option.bind_some]
    cases hlt : isL (chr b e sa t) with
    | false =>
      rw [bI_f (by decide), if_pos rfl]
      exact B37 N l2 l3 (fun z => hL.nl hte hlt z.1)
    | true =>
      obtain ⟨ht, hW⟩ := hL.lt hte hlt
      rw [bI_t rfl, if_neg (by decide), gi94 hsN, Option.bind_some, gi94 hsN, Option.bind_some, l3.2]
      have hglue := hL.2.2.2.2.2 t ht (by rcases hW.2.2.2.2.1 with z | z <;> rw [z] <;> decide)
      have hen := l3.1.2.2.2.1.2
      by_cases hg : nI (sa t) = N.2.1 94 4
      · rw [if_pos hg]
        exact B37 N l2 l3 (fun z => by have := z.1; rw [hglue.mpr (hen.mp hg)] at this; exact absurd this (by decide))
      · have h1 : T 3 t = 1 := by
          rcases hW.2.2.2.2.1 with z | z
          · exact z
          · exact absurd (hen.mpr (hglue.mp z)) hg
        rw [if_neg hg]
        obtain ⟨N1, o1, o2, o3⟩ := on_isOwnHere hL hBN l3.1
        have g1 := l2.tr o2
        have hB1 := hB.rl g1
        rw [o1]
        dsimp only [Option.bind_some]
        by_cases ho : ownF T t 0 33 = true
        · rw [bI_t ho, if_neg (by decide)]
          exact B37 N1 g1 o3 (fun z => z.2 ho)
        · rw [bI_f ho, if_pos rfl, gi94 hB1.1, Option.bind_some, o3.2, pi94 hB1.1, Option.bind_some]
          have hF2 : Fr rlX q0 N1 (wrI N1 94 44 (nI (sa t))) := Fr.rf.wi rfl
          have hB2 := hB1.rl hF2
          have e6 : (T 5 t - T 4 t ≤ 6) = (sz t - sa t ≤ 6) := by rw [hl.2.1, hl.1, nsub (by omega), show (6 : Int32) = nI 6 from rfl, cle (by omega) (by omega)]
          unfold f_X12_name_L58
          obtain ⟨r, k1, k2⟩ := itr_g (f := fun x : (Int64 × sMem) => f_X12_name_K58 94 x.1 x.2) (fun k (x : Int64 × sMem) => x)
            (fun k x => k ≤ 6 ∧ sa t + k ≤ sz t ∧ Fr (fun x i => x == 94 && i == 2) q0 (wrI N1 94 44 (nI (sa t))) x.2 ∧ x.2.2.1 94 2 = nI (sa t + k) ∧ x.1.toInt = nv (nmL b (sa t) (sz t)) k)
            (fun r => match r with | .inl O => 6 < sz t - sa t ∧ Fr (fun x i => x == 94 && i == 2) q0 (wrI N1 94 44 (nI (sa t))) O ∧ O.2.1 94 2 = nI (sa t + 6) | .inr x => sz t - sa t ≤ 6 ∧ x.1.toInt = nv (nmL b (sa t) (sz t)) (sz t - sa t) ∧ Fr (fun x i => x == 94 && i == 2) q0 (wrI N1 94 44 (nI (sa t))) x.2 ∧ x.2.2.1 94 2 = nI (sz t)) 6 (by decide) (i := 0) (s := ((0 : Int64), wrI N1 94 44 (nI (sa t)))) (by
              rintro k ⟨v, O⟩ hk ⟨j1, j2, j3, j4, j5⟩
              dsimp only at j2 j3 j4 j5 ⊢
              have hsO := j3.hs hB2.1
              have h3 : O.2.1 94 3 = nI n := by rw [j3.i rfl]; exact hB2.2.2.1
              have h44 : O.2.1 94 44 = nI (sa t) := by rw [j3.i rfl, wrI_eq]
              have h95 : ∀ i, i < n → O.2.1 95 i = b i := fun i hi => by rw [j3.i rfl]; exact hB2.2.2.2 i hi
              unfold f_X12_name_K58
              rw [gi94 hsO, Option.bind_some, gi94 hsO, Option.bind_some, h3, j4]
              by_cases hkn : n ≤ sa t + k
              · right
                rw [if_pos (by rw [cle (by omega) (by omega)]; exact hkn)]
                have : k = sz t - sa t := by omega
                exact ⟨_, rfl, by omega, by dsimp only; rw [j5, this], j3, by dsimp only; rw [j4]; congr 1; omega⟩
              · rw [if_neg (by rw [cle (by omega) (by omega)]; exact hkn), gr94_0 hsO, Option.bind_some, Option.bind_some, ld95 hsO (by omega), Option.bind_some, h95 _ (by omega), r_isLetter, Option.bind_some]
                by_cases hks : sa t + k = sz t
                · right
                  have hb : isL (b (sa t + k)) = false := by
                    rcases hW.2.2.2.1 with z | z
                    · omega
                    · rw [hks]; exact z
                  rw [hb, bI_f (by decide), if_pos rfl]
                  have : k = sz t - sa t := by omega
                  exact ⟨_, rfl, by omega, by dsimp only; rw [j5, this], j3, by dsimp only; rw [j4, hks]⟩
                · have hb := hW.2.2.1 (sa t + k) (by omega) (by omega)
                  rw [hb, bI_t rfl, if_neg (by decide), Option.bind_some, gi94 hsO, Option.bind_some, h44, nsub (by omega), show sa t + k - sa t = k by omega]
                  by_cases hk6 : k = 6
                  · right
                    rw [if_pos (by rw [hk6]; rfl)]
                    exact ⟨_, rfl, by omega, j3, by rw [j4, hk6]⟩
                  · left
                    rw [if_neg (by rw [show (6 : Int32) = nI 6 from rfl, nI_eq (by omega) (by omega)]; exact hk6), Option.bind_some, Option.bind_some, ld95 hsO (by omega), Option.bind_some, h95 _ (by omega), Option.bind_some, nI_1, pi94 hsO, Option.bind_some]
                    refine ⟨by omega, _, rfl, by omega, by omega, j3.wi rfl, by dsimp only; rw [wrI_eq]; congr 1, ?_⟩
                    have hbi := isL_i hb
                    have hget := nm_get (b := b) (s := sa t) (z := sz t) (i := k)
                    rw [if_pos (by omega)] at hget
                    have hbnd : nv (nmL b (sa t) (sz t)) k < 27 ^ 6 := by
                      have gg : ∀ x ∈ nmL b (sa t) (sz t), 1 ≤ x ∧ x ≤ 26 := by
                        intro x hx
                        unfold nmL at hx
                        obtain ⟨i, i1, i2⟩ := List.mem_map.mp hx
                        have := isL_i (hW.2.2.1 (sa t + i) (by omega) (by have := List.mem_range.mp i1; omega))
                        omega
                      have h1 := nv_lt gg k
                      have h2 : 27 ^ k ≤ 27 ^ 6 := Nat.pow_le_pow_right (by decide) hk
                      omega
                    show ((27 : Int64) * v + (b (sa t + k)).toInt64 - 97 + 1).toInt = ((nv (nmL b (sa t) (sz t)) k * 27 + (nmL b (sa t) (sz t)).getD k 0 : Nat) : Int)
                    have c1 : (27 : Int64).toInt = 27 := rfl
                    have c2 : (97 : Int64).toInt = 97 := rfl
                    have c3 : (1 : Int64).toInt = 1 := rfl
                    have hbnd2 : (nv (nmL b (sa t) (sz t)) k : Int) < 387420489 := by
                      have : nv (nmL b (sa t) (sz t)) k < 387420489 := hbnd
                      omega
                    rw [Int64.toInt_add, Int64.toInt_sub, Int64.toInt_add, Int64.toInt_mul, j5, i64, c1, c2, c3, b64 (z := 27 * (nv (nmL b (sa t) (sz t)) k : Int)) (by omega) (by omega), b64 (z := 27 * (nv (nmL b (sa t) (sz t)) k : Int) + (b (sa t + k)).toInt) (by omega) (by omega), b64 (z := 27 * (nv (nmL b (sa t) (sz t)) k : Int) + (b (sa t + k)).toInt - 97) (by omega) (by omega), b64 (by omega) (by omega), hget]
                    omega) (Nat.zero_le _) ⟨by decide, by omega, Fr.rf, by dsimp only; rw [wrI_ne (by omega), o3.2]; rfl, rfl⟩
          have up : ∀ {A B : sMem}, Fr (fun x i => x == 94 && i == 2) q0 A B → Fr rlX q0 A B := fun hF => hF.mono (fun x i z => by
            unfold rlX at z
            cases h9 : (x == 94) with
            | false => rfl
            | true =>
              rw [h9] at z
              cases h2 : (i == 2) with
              | false => rfl
              | true => rw [h2] at z; exact absurd z (by simp)) (fun _ _ z => z)
          try dsimp only at k1
          rw [k1, Option.bind_some]
          have g2 := g1.tr hF2
          match r, k2 with
          | .inl O, k2 =>
            obtain ⟨q1, q2, q3⟩ := k2
            have hBO := hB2.rl (up q2)
            obtain ⟨Z, f1, f2, f3⟩ := r_fail0 (T := T) (e := e) (sa := sa) (sz := sz) hBO (by rw [q2.i rfl, wrI_ne (by omega)]; exact o3.1.1) 1 (nI (sa t + 6)) (by decide)
            refine ⟨0, Z, ?_, (g2.tr (up q2)).tr f2, ?_⟩
            · show f_X12_name_B98 94 O = _
              unfold f_X12_name_B98
              rw [gi94 hBO.1, Option.bind_some, q3, f1]; rfl
            · unfold nameR
              rw [if_pos (show T 3 t = 1 ∧ ¬ ownF T t 0 33 = true from ⟨h1, ho⟩), if_neg (by rw [e6]; omega), et4, show (6 : Int32) = nI 6 from rfl, nI_add]
              exact f3
          | .inr (x, O), k2 =>
            obtain ⟨q1, q2, q3, q4⟩ := k2
            dsimp only at q2 q3 q4
            have hBO := hB2.rl (up q3)
            have hF4 : Fr rlX q0 O (wrI O 94 4 (nI (sz t))) := Fr.rf.wi rfl
            refine ⟨x, wrI O 94 4 (nI (sz t)), ?_, (g2.tr (up q3)).tr hF4, ?_⟩
            · show f_X12_name_B145 94 x O = _
              unfold f_X12_name_B145
              rw [gi94 hBO.1, Option.bind_some, q4, pi94 hBO.1, Option.bind_some]
            · unfold nameR
              rw [if_pos (show T 3 t = 1 ∧ ¬ ownF T t 0 33 = true from ⟨h1, ho⟩), if_pos (by rw [e6]; exact q1)]
              refine ⟨by dsimp only; rw [nm_len]; exact q2, ⟨?_, by omega, ⟨sz t, by rw [wrI_ne (by omega)]; exact q4, by rw [pv_s]; omega, (hL.2.2.2.1 (t + 1) (by omega)).2.2.2.2.1⟩, ?_, ?_⟩, ?_⟩
              · rw [wrI_ne (by omega), q3.i rfl, wrI_ne (by omega)]; exact o3.1.1
              · rw [wrI_eq]; exact En.w hL ht (by rw [h1]; decide)
              · rw [wrI_ne (by omega), q3.i rfl, wrI_ne (by omega)]; exact o3.1.2.2.2.2
              · rw [wrI_ne (by omega), q3.i rfl, wrI_eq, et4]
end NN
