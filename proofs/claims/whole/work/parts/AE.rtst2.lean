section RTT
variable {b : Nat → Int32} {n e t c wh : Nat} {T : Tk} {sa sz : Nat → Nat} {M N : sMem} {s : Cs} {S R : List Nat} {o v : Nat}
theorem StI.at : ∀ {g : Nat → Int32} {A : List Nat}, StI g A → (∀ v ∈ A, ∃ i, i < A.length ∧ g i = nI v) ∧ ∀ i, i < A.length → ∃ v, v ∈ A ∧ g i = nI v
  | g, [], _ => ⟨fun v hv => absurd hv List.not_mem_nil, fun i hi => absurd hi (Nat.not_lt_zero _)⟩
  | g, a :: A, h => by
    obtain ⟨h1, h2⟩ := StI.at h.2
    refine ⟨fun v hv => ?_, fun i hi => ?_⟩
    · rcases List.mem_cons.mp hv with z | z
      · exact ⟨A.length, by rw [List.length_cons]; omega, by rw [z]; exact h.1⟩
      · obtain ⟨i, i1, i2⟩ := h1 v z
        exact ⟨i, by rw [List.length_cons]; omega, i2⟩
    · rw [List.length_cons] at hi
      by_cases z : i = A.length
      · exact ⟨a, List.mem_cons_self, by rw [z]; exact h.1⟩
      · obtain ⟨v, v1, v2⟩ := h2 i (by omega)
        exact ⟨v, List.mem_cons_of_mem _ v1, v2⟩
theorem r_hasSq (hB : RB b n M) (hQ : RQ M [] S R o) (hv : ∀ s ∈ S, s < 1000) (hl : S.length ≤ 1600) : f_X12_qHasSquare 94 M = some (bI (25 ∈ S)) := by
  have h184 := hQ.2.1
  rw [List.append_nil] at h184
  obtain ⟨a1, a2⟩ := h184.at
  have h118 : M.2.1 94 118 = nI S.length := hQ.1
  unfold f_X12_qHasSquare f_X12_qHasSquare_L2
  rw [sr94 hB.1]
  obtain ⟨r, k1, k2⟩ := itr_up0 (f := fun x : Int32 => f_X12_qHasSquare_K2 94 x M) (fun k => k ≤ S.length ∧ ∀ i, i < k → M.2.1 184 i ≠ nI 25) (fun r => r = bI (25 ∈ S)) S.length (by omega) (i := 0) (by
    rintro k hk ⟨j1, j2⟩
    try dsimp only
    unfold f_X12_qHasSquare_K2
    rw [gi94 hB.1, Option.bind_some, h118]
    by_cases hkn : S.length ≤ k
    · right
      rw [if_pos (by rw [cle (by omega) (by omega)]; exact hkn)]
      refine ⟨_, rfl, ?_⟩
      rw [bI_f (fun z => ?_)]
      obtain ⟨i, i1, i2⟩ := a1 25 z
      exact j2 i (by omega) i2
    · rw [if_neg (by rw [cle (by omega) (by omega)]; exact hkn), gr94_117 hB.1, Option.bind_some, ld184 hB.1 (by omega), Option.bind_some]
      by_cases h25 : M.2.1 184 k = 25
      · right
        rw [if_pos h25]
        refine ⟨_, rfl, ?_⟩
        obtain ⟨v, v1, v2⟩ := a2 k (by omega)
        have : v = 25 := by
          have hvv := hv v v1
          rw [h25] at v2
          exact ((nI_eq (a := 25) (by omega) (by omega)).mp v2).symm
        rw [bI_t (by rw [← this]; exact v1)]
      · left
        rw [if_neg h25, nI_1]
        refine ⟨by omega, rfl, by omega, fun i hi => ?_⟩
        by_cases q : i = k
        · rw [q]; exact h25
        · exact j2 i (by omega)) (Nat.zero_le _) ⟨Nat.zero_le _, fun i hi => by omega⟩
  try dsimp only at k1
  rw [show (0 : Int32) = nI 0 from rfl, k1, Option.bind_some, k2]
theorem MT.lt (h : MT (v, t, S, R, o)) : ∀ s ∈ S, s < 1000 := fun s hs => by have := h.2.1 s hs; omega
theorem MT.lt0 (h : MT (v, t, S, R, o)) : ∀ s ∈ S ++ [], s < 1000 := by rw [List.append_nil]; exact h.lt
/-- the drops of a test -/
theorem dt_and (hB : RB b n M) (h5 : M.2.1 94 5 = 0) (hQ : RQ M [] S R o) (hv : ∀ s ∈ S ++ [], s < 1000) (hl : S.length + R.length ≤ 1600) : ∃ N, sItr (fun a : sMem => f_X12_qGoesOnTest_K87 94 a) sFuel M = some N ∧ Fr qX q0 M N ∧ RQ N [] (dropW is10 S R).1 (dropW is10 S R).2 o :=
  q_dropW (b := b) (n := n) (o := o) (p := is10) (K := fun a => f_X12_qGoesOnTest_K87 94 a) (S0 := []) (fun {S R o v M} hB h5 hQ hv hl hp => by
      show f_X12_qGoesOnTest_K87 94 M = _
      have h34 := of_decide_eq_true hp
      have hh : (v :: S ++ ([] : List Nat)).head? = some 10 := by rw [h34]; rfl
      unfold f_X12_qGoesOnTest_K87
      rw [q_isOn (v := 10) (z := 10) hB hQ hv (by rw [List.length_cons]; omega) (by decide) rfl, Option.bind_some, bI_t hh, if_neg (by decide)])
    (fun {S R o M} hB h5 hQ hv hl hno => by
      show f_X12_qGoesOnTest_K87 94 M = _
      have hh : ¬ (S ++ ([] : List Nat)).head? = some 10 := head_ne (fun s S' q z => by have := hno s S' q; rw [z] at this; cases this) (fun s hs => absurd hs List.not_mem_nil)
      unfold f_X12_qGoesOnTest_K87
      rw [q_isOn (v := 10) (z := 10) hB hQ hv hl (by decide) rfl, Option.bind_some, bI_f hh, if_pos rfl]) hB h5 hQ hv (by rw [List.length_nil]; omega) sFuel (by rw [sFuel_v]; omega)
theorem dt_or (hB : RB b n M) (h5 : M.2.1 94 5 = 0) (hQ : RQ M [] S R o) (hv : ∀ s ∈ S ++ [], s < 1000) (hl : S.length + R.length ≤ 1600) : ∃ N, sItr (fun a : sMem => f_X12_qGoesOnTest_K137 94 a) sFuel M = some N ∧ Fr qX q0 M N ∧ RQ N [] (dropW isAO S R).1 (dropW isAO S R).2 o :=
  q_dropW (b := b) (n := n) (o := o) (p := isAO) (K := fun a => f_X12_qGoesOnTest_K137 94 a) (S0 := []) (fun {S R o v M} hB h5 hQ hv hl hp => by
      show f_X12_qGoesOnTest_K137 94 M = _
      have h34 := of_decide_eq_true hp
      unfold f_X12_qGoesOnTest_K137 f_X12_qGoesOnTest_B155
      rw [q_isOn (v := 10) (z := 10) hB hQ hv (by rw [List.length_cons]; omega) (by decide) rfl, q_isOn (v := 11) (z := 11) hB hQ hv (by rw [List.length_cons]; omega) (by decide) rfl, Option.bind_some]
      by_cases z : v = 10
      · have hh : (v :: S ++ ([] : List Nat)).head? = some 10 := by rw [z]; rfl
        rw [bI_t hh, if_neg (by decide)]
      · have hh : ¬ (v :: S ++ ([] : List Nat)).head? = some 10 := fun w => z (Option.some.inj w)
        have h2 : (v :: S ++ ([] : List Nat)).head? = some 11 := by rw [show v = 11 by omega]; rfl
        rw [bI_f hh, if_pos rfl, Option.bind_some, bI_t h2, if_neg (by decide)])
    (fun {S R o M} hB h5 hQ hv hl hno => by
      show f_X12_qGoesOnTest_K137 94 M = _
      have hh : ¬ (S ++ ([] : List Nat)).head? = some 10 := head_ne (fun s S' q z => by have := hno s S' q; rw [z] at this; cases this) (fun s hs => absurd hs List.not_mem_nil)
      have h2 : ¬ (S ++ ([] : List Nat)).head? = some 11 := head_ne (fun s S' q z => by have := hno s S' q; rw [z] at this; cases this) (fun s hs => absurd hs List.not_mem_nil)
      unfold f_X12_qGoesOnTest_K137
      rw [q_isOn (v := 10) (z := 10) hB hQ hv hl (by decide) rfl, q_isOn (v := 11) (z := 11) hB hQ hv hl (by decide) rfl, Option.bind_some, bI_f hh, if_pos rfl, Option.bind_some, bI_f h2, if_pos rfl]) hB h5 hQ hv (by rw [List.length_nil]; omega) sFuel (by rw [sFuel_v]; omega)
theorem drop_25s : ∀ (S R : List Nat), 25 ∈ S → ∃ S', (dropW n25 S R).1 = 25 :: S'
  | [], R, h => absurd h List.not_mem_nil
  | v :: S, R, h => by
    by_cases hv : v = 25
    · have e2 : dropW n25 (v :: S) R = (v :: S, R) := by
        show (if n25 v = true then _ else _) = _
        rw [if_neg (fun z => (of_decide_eq_true z) hv)]
      rw [e2, hv]; exact ⟨S, rfl⟩
    · have e2 : dropW n25 (v :: S) R = dropW n25 S (R ++ [v]) := by
        show (if n25 v = true then _ else _) = _
        rw [if_pos (show n25 v = true from decide_eq_true hv)]
      rw [e2]
      refine drop_25s S _ ?_
      rcases List.mem_cons.mp h with z | z
      · exact absurd z.symm hv
      · exact z
theorem dt_sq : ∀ {S R : List Nat} {M : sMem}, RB b n M → RQ M [] S R o → (∀ s ∈ S ++ [], s < 1000) → S.length + R.length ≤ 1600 → 25 ∈ S → ∀ fu, S.length < fu → ∃ N, sItr (fun a : sMem => f_X12_qGoesOnTest_K33 94 a) fu M = some N ∧ Fr qX q0 M N ∧ RQ N [] (dropW n25 S R).1 (dropW n25 S R).2 o := by
  intro S
  induction S with
  | nil => intro R M _ _ _ _ h; exact absurd h List.not_mem_nil
  | cons v S ih =>
    intro R M hB hQ hv hl hm fu hfu
    obtain ⟨m, rfl⟩ : ∃ m, fu = m + 1 := ⟨fu - 1, by omega⟩
    rw [List.length_cons] at hl hfu
    have head : f_X12_qGoesOnTest_K33 94 M = (if bI ((v :: S ++ ([] : List Nat)).head? = some 25) = 0 then (f_X12_qDrops 94 M).bind fun M32 => some (.inl M32) else some (.inr M)) := by
      unfold f_X12_qGoesOnTest_K33
      rw [q_isOn (v := 25) (z := 25) hB hQ hv (by rw [List.length_cons, List.length_nil]; omega) (by decide) rfl, Option.bind_some]
    by_cases h25 : v = 25
    · have e2 : dropW n25 (v :: S) R = (v :: S, R) := by
        show (if n25 v = true then _ else _) = _
        rw [if_neg (fun z => (of_decide_eq_true z) h25)]
      have hh : (v :: S ++ ([] : List Nat)).head? = some 25 := by rw [h25]; rfl
      exact ⟨M, itr_e (by rw [head, bI_t hh, if_neg (by decide)]), Fr.rf, by rw [e2]; exact hQ⟩
    · have e2 : dropW n25 (v :: S) R = dropW n25 S (R ++ [v]) := by
        show (if n25 v = true then _ else _) = _
        rw [if_pos (show n25 v = true from decide_eq_true h25)]
      have hh : ¬ (v :: S ++ ([] : List Nat)).head? = some 25 := fun w => h25 (Option.some.inj w)
      obtain ⟨N1, k1, k2, k3⟩ := q_drops hB hQ (by omega) (by rw [List.length_nil]; omega)
      obtain ⟨N, j1, j2, j3⟩ := ih (hB.q k2) k3 (fun s hs => hv s (List.mem_cons_of_mem _ hs)) (by rw [List.length_append, List.length_singleton]; omega) (by
        rcases List.mem_cons.mp hm with z | z
        · exact absurd z.symm h25
        · exact z) m (by omega)
      refine ⟨N, ?_, k2.tr j2, by rw [e2]; exact j3⟩
      rw [itr_c (a' := N1)]
      · exact j1
      · rw [head, bI_f hh, if_pos rfl, k1]; rfl
/-- one turn of what is closed -/
theorem h_step (hL : Lex b n T e sa sz) (hB : RB b n M) (hS : RS T e sa sz M (.inr t)) (hQ : RQ M [] S R o) (hI : MT (1, t, S, R, o)) :
    (∃ N σ', stq wh T (1, t, S, R, o) = .inl σ' ∧ σ'.1 = 1 ∧ f_X12_qGoesOnTest_K0 94 M = some (.inl N) ∧ Fr rqX q0 M N ∧ RM T e sa sz N [] σ' ∧ MT σ') ∨ (∃ N, f_X12_qGoesOnTest_K0 94 M = some (.inr N) ∧ Fr rlX q0 M N ∧ RSl T e sa sz N t ∧ ¬ (isS T t 93 = true ∧ 25 ∈ S)) := by
  have hv := hI.lt
  have hv0 := hI.lt0
  obtain ⟨i1, i2, i3, i4⟩ := hI
  dsimp only at i1 i2 i3 i4
  have hte := hS.2.1
  have he := hL.1.2
  obtain ⟨N1, l1, l2, l3⟩ := r_look hL hB hS
  have hB1 := hB.rl l2
  have hQ1 := hQ.l l2
  unfold f_X12_qGoesOnTest_K0
  rw [gi94 hB.1, Option.bind_some, hS.1, if_pos rfl, l1]
  dsimp only [Option.bind_some]
  by_cases h93 : isS T t 93 = true
  · have hlt := hL.ne hte (by rw [(isS_v h93).1]; decide)
    rw [if_pos (show chr b e sa t = (93 : Int32) from (chr_S hL hte sg40.2.2.2.2.2.2.2.2.2.2.2.2).mpr h93), r_hasSq hB1 hQ1 hv (by omega), Option.bind_some]
    by_cases hm : 25 ∈ S
    · rw [bI_t hm, if_neg (by decide), gi94 hB1.1, Option.bind_some, l3.2, pi94 hB1.1, Option.bind_some]
      obtain ⟨s1, s2⟩ := r_step1 hL hB1 l3 h93
      have hB2 := hB1.rl s1
      obtain ⟨N2, a1, a2, a3⟩ := dt_sq hB2 (hQ1.l s1) hv0 (by omega) hm sFuel (by rw [sFuel_v]; omega)
      have hB3 := hB2.q a2
      have s3 := s2.q a2
      obtain ⟨S', hS'⟩ := drop_25s S R hm
      obtain ⟨d1, d2, d3⟩ := dropq_inv (p := n25) S R
      generalize hX : (dropW n25 S R).2 = R' at *
      rw [hS'] at a3 d1 d2 d3
      rw [List.length_cons] at d1
      have hop : opq (25 :: S') = 1 + opq S' := rfl
      obtain ⟨p1, p2, p3, p4⟩ := a3.pop (by rw [List.length_nil]; omega) (by omega)
      have hB4 := hB3.q p2
      have s4 := s3.q p2
      obtain ⟨N3, c1, c2, c3⟩ := dropsNots hB4 s4.1 p1 (fun s hs => hv s (d3 s (List.mem_cons_of_mem _ hs))) (by omega) (by omega) (by omega)
      obtain ⟨e1, e2, e3, e4⟩ := nots_inv S' R' (o - 1) (by omega)
      refine Or.inl ⟨N3, (1, t + 1, notsP S' R' (o - 1)), ?_, rfl, ?_, ((((up_l l2).tr (up_l s1)).tr (up_q a2)).tr (up_q p2)).tr (up_q c2), ⟨s4.q c2, c3⟩, ?_, fun s hs => i2 s (d3 s (List.mem_cons_of_mem _ (e3 s hs))), e2, ?_⟩
      · unfold stq; dsimp only
        rw [if_neg (by decide), if_pos ⟨h93, hm⟩, hS', hX]; rfl
      · unfold f_X12_qGoesOnTest_L33 f_X12_qGoesOnTest_B49
        have e119 : N2.2.1 94 119 = nI o := a3.2.2.2.2.1
        have eo : nI o - (1 : Int32) = nI (o - 1) := by rw [show (1 : Int32) = nI 1 from rfl, nsub (by omega)]
        rw [a1, Option.bind_some, gi94 hB3.1, Option.bind_some, p4, pi94 hB3.1, Option.bind_some, gi94 (M := wrI N2 94 118 (nI (S'.length + ([] : List Nat).length))) hB3.1, Option.bind_some, wrI_ne (by omega), e119, eo, pi94 (M := wrI N2 94 118 (nI (S'.length + ([] : List Nat).length))) hB3.1, Option.bind_some, c1]; rfl
      · dsimp only; omega
      · dsimp only; omega
    · rw [bI_f hm, if_pos rfl]
      exact Or.inr ⟨N1, rfl, l2, l3, fun z => hm z.2⟩
  · rw [if_neg (show ¬ chr b e sa t = (93 : Int32) from fun z => h93 ((chr_S hL hte sg40.2.2.2.2.2.2.2.2.2.2.2.2).mp z))]
    exact Or.inr ⟨N1, rfl, l2, l3, fun z => h93 z.1⟩
theorem MT.opr {k : Nat} {p : Nat → Bool} (hI : MT (1, t, S, R, o)) (hk : k = 10 ∨ k = 11) : MT (0, t + 1, k :: (dropW p S R).1, (dropW p S R).2, o) := by
  obtain ⟨i1, i2, i3, i4⟩ := hI
  dsimp only at i1 i2 i3 i4
  obtain ⟨d1, d2, d3⟩ := dropq_inv (p := p) S R
  refine ⟨by dsimp only; rw [List.length_cons]; omega, fun s hs => ?_, ?_, i4⟩
  · rcases List.mem_cons.mp hs with z | z
    · rw [z]; omega
    · exact i2 s (d3 s z)
  · show (if k = 12 ∨ k = 25 then 1 else 0) + opq (dropW p S R).1 ≤ o
    rw [if_neg (by omega)]; omega
/-- behind what is closed -/
theorem h_rest (hL : Lex b n T e sa sz) (hB : RB b n M) (hS : RS T e sa sz M (.inr t)) (hQ : RQ M [] S R o) (hI : MT (1, t, S, R, o)) (hc : ¬ (isS T t 93 = true ∧ 25 ∈ S)) :
    ∃ x N, f_X12_qGoesOnTest_B76 94 M = some (x, N) ∧ Fr rqX q0 M N ∧ ((∃ σ', stq wh T (1, t, S, R, o) = .inl σ' ∧ σ'.1 = 0 ∧ x = 1 ∧ RM T e sa sz N [] σ' ∧ MT σ') ∨ (∃ q, stq wh T (1, t, S, R, o) = .inr (.inl q) ∧ x = 0 ∧ RS T e sa sz N (.inl q) ∧ B2 N) ∨ (stq wh T (1, t, S, R, o) = .inr (.inr (R ++ S, t)) ∧ x = 0 ∧ RS T e sa sz N (.inr t) ∧ RQ N [] S R o)) := by
  have hv := hI.lt
  have hv0 := hI.lt0
  have hI0 := hI
  obtain ⟨i1, i2, i3, i4⟩ := hI
  dsimp only at i1 i2 i3 i4
  have hte := hS.2.1
  have he := hL.1.2
  have estp : stq wh T (1, t, S, R, o) = (if isW T t 28 = true then .inl (0, t + 1, 10 :: (dropW is10 S R).1, (dropW is10 S R).2, o) else if isW T t 27 = true then .inl (0, t + 1, 11 :: (dropW isAO S R).1, (dropW isAO S R).2, o) else if 25 ∈ S then flt 1 (T 4 t) else .inr (.inr (R ++ S, t))) := by
    unfold stq; dsimp only
    rw [if_neg (by decide), if_neg hc]
  unfold f_X12_qGoesOnTest_B76
  rw [gr94_95 hB.1, Option.bind_some]
  by_cases h28 : isW T t 28 = true
  · have hlt := hL.ne hte (by rw [(isW_v h28).1]; decide)
    obtain ⟨N1, a1, a2, a3⟩ := r_takes_y (c := 163) hL hB (by unfold isWc; omega) hS h28
    rw [a1]
    dsimp only [Option.bind_some]
    rw [if_neg (by decide)]
    have hB1 := hB.rl a2
    obtain ⟨N2, b1, b2, b3⟩ := dt_and hB1 a3.1 (hQ.l a2) hv0 (by omega)
    have hlen := (dropq_inv (p := is10) S R).1
    obtain ⟨N3, c1, c2, c3⟩ := g_push (k := 10) (z := 10) (hB1.q b2) (a3.q b2) b3 (by rw [List.length_nil]; omega) rfl
    unfold f_X12_qGoesOnTest_L87 f_X12_qGoesOnTest_B103
    rw [b1, Option.bind_some, c1]
    exact ⟨1, N3, rfl, ((up_l a2).tr (up_q b2)).tr (up_q c2), Or.inl ⟨_, by rw [estp, if_pos h28], rfl, rfl, c3, hI0.opr (Or.inl rfl)⟩⟩
  · obtain ⟨N1, a1, a2, a3⟩ := r_takes_n (c := 163) hL hB (by unfold isWc; omega) hS h28
    have hB1 := hB.rl a2
    rw [a1]
    dsimp only [Option.bind_some]
    rw [if_pos rfl, gr94_96 hB1.1, Option.bind_some]
    rw [if_neg h28] at estp
    by_cases h27 : isW T t 27 = true
    · have hlt := hL.ne hte (by rw [(isW_v h27).1]; decide)
      obtain ⟨N2, b1, b2, b3⟩ := r_takes_y (c := 164) hL hB1 (by unfold isWc; omega) a3.1 h27
      rw [b1]
      dsimp only [Option.bind_some]
      rw [if_neg (by decide)]
      have g2 := a2.tr b2
      have hB2 := hB.rl g2
      obtain ⟨N3, d1, d2, d3⟩ := dt_or hB2 b3.1 (hQ.l g2) hv0 (by omega)
      have hlen := (dropq_inv (p := isAO) S R).1
      obtain ⟨N4, c1, c2, c3⟩ := g_push (k := 11) (z := 11) (hB2.q d2) (b3.q d2) d3 (by rw [List.length_nil]; omega) rfl
      unfold f_X12_qGoesOnTest_L137 f_X12_qGoesOnTest_B162
      rw [d1, Option.bind_some, c1]
      exact ⟨1, N4, rfl, ((up_l g2).tr (up_q d2)).tr (up_q c2), Or.inl ⟨_, by rw [estp, if_pos h27], rfl, rfl, c3, hI0.opr (Or.inr rfl)⟩⟩
    · obtain ⟨N2, b1, b2, b3⟩ := r_takes_n (c := 164) hL hB1 (by unfold isWc; omega) a3.1 h27
      have g2 := a2.tr b2
      have hB2 := hB.rl g2
      have hQ2 := hQ.l g2
      rw [if_neg h27] at estp
      rw [b1]
      dsimp only [Option.bind_some]
      rw [if_pos rfl, gi94 hB2.1, Option.bind_some, b3.1.1, if_pos rfl, r_hasSq hB2 hQ2 hv (by omega), Option.bind_some]
      by_cases hm : 25 ∈ S
      · obtain ⟨N3, f1, f2, f3⟩ := r_fail hB2 b3.1 1 (nI (sa t)) (by decide)
        rw [bI_t hm, if_neg (by decide), gi94 hB2.1, Option.bind_some, b3.2, f1]
        rw [if_pos hm] at estp
        exact ⟨0, N3, rfl, up_l (g2.tr f2), Or.inr (Or.inl ⟨(1, T 4 t), estp, rfl, by rw [hL.t4 hte]; exact f3, (BS.q hQ2 (by omega)).b2.eq (f2.i rfl)⟩)⟩
      · rw [bI_f hm, if_pos rfl]
        rw [if_neg hm] at estp
        exact ⟨0, N2, rfl, up_l g2, Or.inr (Or.inr ⟨estp, rfl, b3.1, hQ2⟩)⟩
theorem h_goes (hL : Lex b n T e sa sz) : ∀ (m : Nat) (σ : Sg) (M : sMem) (r : Rs) (fu : Nat), rq wh T m σ = some r → σ.1 = 1 → RB b n M → RM T e sa sz M [] σ → MT σ → m + 3 ≤ fu →
    ∃ x N, ((sItr (fun a : sMem => f_X12_qGoesOnTest_K0 94 a) fu M).bind fun x => f_X12_qGoesOnTest_B76 94 x) = some (x, N) ∧ Fr rqX q0 M N ∧ ((∃ σ' m', σ'.1 = 0 ∧ m' < m ∧ rq wh T m' σ' = some r ∧ x = 1 ∧ RM T e sa sz N [] σ' ∧ MT σ') ∨ (∃ q, r = .inl q ∧ x = 0 ∧ RS T e sa sz N (.inl q) ∧ B2 N) ∨ (∃ S R t o, r = .inr (R ++ S, t) ∧ x = 0 ∧ RS T e sa sz N (.inr t) ∧ RQ N [] S R o ∧ S.length + R.length ≤ t ∧ ∀ s ∈ S, s < 1000))
  | 0, σ, M, r, fu, h, _, _, _, _, _ => by cases h
  | m + 1, (md, t, S, R, o), M, r, fu, h, h0, hB, hR, hI, hfu => by
    dsimp only at h0
    subst h0
    obtain ⟨f1, rfl⟩ : ∃ f1, fu = f1 + 1 := ⟨fu - 1, by omega⟩
    have hstep : rq wh T (m + 1) (1, t, S, R, o) = match stq wh T (1, t, S, R, o) with | .inl σ' => rq wh T m σ' | .inr r => some r := rfl
    rw [hstep] at h
    rcases h_step (wh := wh) hL hB hR.1 hR.2 hI with ⟨N, σ', a1, a2, a3, a4, a5, a6⟩ | ⟨N, a1, a2, a3, a4⟩
    · rw [a1] at h
      obtain ⟨x, N2, b1, b2, b3⟩ := h_goes hL m σ' N r f1 h a2 (hB.rq a4) a5 a6 (by omega)
      refine ⟨x, N2, ?_, a4.tr b2, ?_⟩
      · rw [itr_c (f := fun a : sMem => f_X12_qGoesOnTest_K0 94 a) (a := M) (a' := N) a3]; exact b1
      · rcases b3 with ⟨σ2, m2, c1, c2, c3⟩ | b3 | b3
        · exact Or.inl ⟨σ2, m2, c1, by omega, c3⟩
        · exact Or.inr (Or.inl b3)
        · exact Or.inr (Or.inr b3)
    · obtain ⟨x, N2, b1, b2, b3⟩ := h_rest (wh := wh) hL (hB.rl a2) a3.1 (hR.2.l a2) hI a4
      refine ⟨x, N2, ?_, (up_l a2).tr b2, ?_⟩
      · rw [itr_e (f := fun a : sMem => f_X12_qGoesOnTest_K0 94 a) (a := M) a1, Option.bind_some]; exact b1
      · rcases b3 with ⟨σ', c1, c2, c3, c4, c5⟩ | ⟨q, c1, c2, c3, c4⟩ | ⟨c1, c2, c3, c4⟩
        · rw [c1] at h
          exact Or.inl ⟨σ', m, c2, by omega, h, c3, c4, c5⟩
        · rw [c1] at h
          obtain rfl := Option.some.inj h
          exact Or.inr (Or.inl ⟨q, rfl, c2, c3, c4⟩)
        · rw [c1] at h
          obtain rfl := Option.some.inj h
          exact Or.inr (Or.inr ⟨S, R, t, o, rfl, c2, c3, c4, hI.1, hI.lt⟩)
end RTT
