section RTU
variable {b : Nat → Int32} {n e t c wh : Nat} {T : Tk} {sa sz : Nat → Nat} {M N : sMem} {s : Cs} {S R : List Nat} {o v : Nat}
theorem MT.push {v k : Nat} (h : MT (0, t, S, R, o)) (hv : v = 12 ∨ v = 25) (ho : o ≠ 6) (hk : t + 1 ≤ k) : MT (0, k, v :: S, R, o + 1) := by
  obtain ⟨h1, h2, h3, h4⟩ := h
  dsimp only at h1 h2 h3 h4
  refine ⟨by show S.length + 1 + R.length ≤ k; omega, fun s hs => ?_, ?_, by show o + 1 ≤ 6; omega⟩
  · rcases List.mem_cons.mp hs with z | z
    · rw [z]; omega
    · exact h2 s z
  · show (if v = 12 ∨ v = 25 then 1 else 0) + opq S ≤ o + 1
    rw [if_pos hv]; omega
theorem stq_fact (h1 : ¬ isS T t 91 = true) (h2 : ¬ isW T t 29 = true) : stq wh T (0, t, S, R, o) = (match factR wh T o t with | .inl e => .inr (.inl e) | .inr q => .inl (1, q.2, notsP S (R ++ q.1) o)) := by
  unfold stq factR; dsimp only
  rw [if_pos rfl, if_neg h1, if_neg h2]
  by_cases h3 : isW T t 30 = true
  · rw [if_pos h3, if_pos h3]
  · rw [if_neg h3, if_neg h3]
    cases cmpOf T (pSum wh T (6 - o)) t <;> rfl
theorem fact_adv2 (hE : Ends T e) (ht : t ≤ e) {cs : List Nat} {t' : Nat} (h : factR wh T o t = .inr (cs, t')) : t < t' ∧ t' ≤ e ∧ cs.length + t ≤ t' := by
  unfold factR at h
  by_cases h3 : isW T t 30 = true
  · rw [if_pos h3] at h; exact all_adv hE ht h3 h
  · rw [if_neg h3] at h; exact cmp_adv hE (psum_adv hE) t cs t' ht h
/-- a test is told -/
theorem h_test (hL : Lex b n T e sa sz) (hw : wh < 4) : ∀ (m : Nat) (σ : Sg) (M : sMem) (r : Rs) (fu : Nat), rq wh T m σ = some r → m ≤ 2000 → σ.1 = 0 → RB b n M → M.2.1 94 58 = nI wh → RM T e sa sz M [] σ → MT σ → m + 3 ≤ fu →
    ∃ N, sItr (fun a : (Int32 × sMem) => f_X12_qTest_K2 94 a.1 a.2) fu (1, M) = some N ∧ Fr rqX q0 M N ∧ ((∃ q, r = .inl q ∧ RS T e sa sz N (.inl q) ∧ B2 N) ∨ (∃ S R t o, r = .inr (R ++ S, t) ∧ RS T e sa sz N (.inr t) ∧ RQ N [] S R o ∧ S.length + R.length ≤ t ∧ ∀ s ∈ S, s < 1000)) := by
  intro m
  induction m using Nat.strongRecOn with
  | ind m ih =>
    intro σ M r fu h hm h0 hB h58 hR hI hfu
    obtain ⟨f1, rfl⟩ : ∃ f1, fu = f1 + 2 := ⟨fu - 2, by omega⟩
    obtain ⟨md, t, S, R, o⟩ := σ
    dsimp only at h0
    subst h0
    match m, h, hm, ih with
    | 0, h, _, _ => cases h
    | m + 1, h, hm, ih =>
    have hstep : rq wh T (m + 1) (0, t, S, R, o) = match stq wh T (0, t, S, R, o) with | .inl σ' => rq wh T m σ' | .inr r => some r := rfl
    rw [hstep] at h
    have i1 := hI.1
    have i3 := hI.2.2.1
    have i4 := hI.2.2.2
    dsimp only at i1 i3 i4
    have hlt := hI.lt
    have hS : RS T e sa sz M (.inr t) := hR.1
    have hQ : RQ M [] S R o := hR.2
    have hte := hS.2.1
    have he := hL.1.2
    have K0 : ∀ N : sMem, f_X12_qTest_K2 94 0 N = some (.inr N) := fun N => by
      unfold f_X12_qTest_K2; rw [if_pos rfl]
    have KB : ∀ (N : sMem) (q : Int32 × Int32), RB b n N → RS T e sa sz N (.inl q) → f_X12_qTest_K2 94 1 N = some (.inr N) := fun N q hBN hr => by
      unfold f_X12_qTest_K2; rw [if_neg (by decide), gi94 hBN.1, Option.bind_some, hr.1, if_neg hr.2.2]
    obtain ⟨N1, l1, l2, l3⟩ := r_look hL hB hS
    have hB1 := hB.rl l2
    have hQ1 := hQ.l l2
    by_cases h91 : isS T t 91 = true
    · obtain ⟨N3, k1, k2, k3⟩ := q_opens (z := 25) (p := nI (sa t)) (v := 25) hB1 l3.1 hQ1 (by rw [List.length_nil]; omega) i4 rfl
      have hB3 := hB1.rq k2
      have eK : f_X12_qTest_K2 94 1 M = some (.inl (1, wrI N3 94 2 (N3.2.1 94 2 + 1))) := by
        unfold f_X12_qTest_K2
        rw [if_neg (by decide), gi94 hB.1, Option.bind_some, hS.1, if_pos rfl, l1]
        dsimp only [Option.bind_some]
        rw [if_pos (show chr b e sa t = (91 : Int32) from (chr_S hL hte sg40.2.2.2.2.2.2.2.2.2.2.2.1).mpr h91), gi94 hB1.1, Option.bind_some, l3.2, k1, Option.bind_some, gi94 hB3.1, Option.bind_some, pi94 hB3.1, Option.bind_some]
      have g3 : Fr rqX q0 M (wrI N3 94 2 (N3.2.1 94 2 + 1)) := ((up_l l2).tr k2).wi rfl
      rw [itr_c (f := fun a : (Int32 × sMem) => f_X12_qTest_K2 94 a.1 a.2) (a := (1, M)) (a' := (1, wrI N3 94 2 (N3.2.1 94 2 + 1))) eK]
      rcases k3 with ⟨o6, k3, k4⟩ | ⟨o6, k3, k4⟩
      · have es : stq wh T (0, t, S, R, o) = .inr (.inl (4, T 4 t)) := by
          unfold stq; dsimp only
          rw [if_pos rfl, if_pos h91, if_pos o6]; rfl
        rw [es] at h
        obtain rfl := Option.some.inj h
        have hr : RS T e sa sz (wrI N3 94 2 (N3.2.1 94 2 + 1)) (.inl (4, T 4 t)) := by rw [hL.t4 hte]; exact k3.at2
        rw [itr_e (f := fun a : (Int32 × sMem) => f_X12_qTest_K2 94 a.1 a.2) (a := (1, wrI N3 94 2 (N3.2.1 94 2 + 1))) (KB _ _ (hB.rq g3) hr)]
        exact ⟨_, rfl, g3, Or.inl ⟨_, rfl, hr, (BS.q hQ1 (by omega)).b2.eq (by rw [wrI_ne (by omega), k4])⟩⟩
      · have es : stq wh T (0, t, S, R, o) = .inl (0, t + 1, 25 :: S, R, o + 1) := by
          unfold stq; dsimp only
          rw [if_pos rfl, if_pos h91, if_neg o6]
        rw [es] at h
        have w4 := l3.q k3
        have hs1 : RS T e sa sz (wrI N3 94 2 (N3.2.1 94 2 + 1)) (.inr (t + 1)) := by
          have := (r_step1 hL (hB1.q k3) w4 h91).2
          rw [w4.2]; exact this
        obtain ⟨N4, c1, c2, c3⟩ := ih m (by omega) (0, t + 1, 25 :: S, R, o + 1) (wrI N3 94 2 (N3.2.1 94 2 + 1)) r (f1 + 1) h (by omega) rfl (hB.rq g3) (by rw [g3.i rfl]; exact h58) ⟨hs1, k4.l (Fr.rf.wi rfl)⟩ (hI.push (Or.inr rfl) o6 (Nat.le_refl _)) (by omega)
        exact ⟨N4, c1, g3.tr c2, c3⟩
    · have n91 : ¬ chr b e sa t = (91 : Int32) := fun z => h91 ((chr_S hL hte sg40.2.2.2.2.2.2.2.2.2.2.2.1).mp z)
      obtain ⟨N2, m1, m2, m3⟩ := r_isHere (c := 162) hL hB1 (by unfold isWc; omega) l3.1
      have g2 := l2.tr m2
      have hB2 := hB.rl g2
      have hQ2 := hQ.l g2
      by_cases h29 : isW T t 29 = true
      · obtain ⟨N3, k1, k2, k3⟩ := q_opens (z := 12) (p := nI (sa t)) (v := 12) hB2 m3.1 hQ2 (by rw [List.length_nil]; omega) i4 rfl
        have hB3 := hB2.rq k2
        have eK : ∀ N4, f_X12_asks 94 162 N3 = some N4 → f_X12_qTest_K2 94 1 M = some (.inl (1, N4)) := fun N4 ha => by
          unfold f_X12_qTest_K2
          rw [if_neg (by decide), gi94 hB.1, Option.bind_some, hS.1, if_pos rfl, l1]
          dsimp only [Option.bind_some]
          rw [if_neg n91, gr94_94 hB1.1, Option.bind_some, m1]
          dsimp only [Option.bind_some]
          rw [bI_t (show isW T t (wdc 162) = true from h29), if_neg (by decide), gi94 hB2.1, Option.bind_some, m3.2, k1, Option.bind_some, gr94_94 hB3.1, Option.bind_some, ha]; rfl
        rcases k3 with ⟨o6, k3, k4⟩ | ⟨o6, k3, k4⟩
        · have es : stq wh T (0, t, S, R, o) = .inr (.inl (4, T 4 t)) := by
            unfold stq; dsimp only
            rw [if_pos rfl, if_neg h91, if_pos h29, if_pos o6]; rfl
          rw [es] at h
          obtain rfl := Option.some.inj h
          obtain ⟨N4, a1, a2, a3⟩ := r_asks (c := 162) hL hB3 (by unfold isWc; omega) k3
          have g4 : Fr rqX q0 M N4 := ((up_l g2).tr k2).tr (up_l a2)
          have hr : RS T e sa sz N4 (.inl (4, T 4 t)) := by rw [hL.t4 hte]; exact a3
          rw [itr_c (f := fun a : (Int32 × sMem) => f_X12_qTest_K2 94 a.1 a.2) (a := (1, M)) (a' := (1, N4)) (eK N4 a1), itr_e (f := fun a : (Int32 × sMem) => f_X12_qTest_K2 94 a.1 a.2) (a := (1, N4)) (KB _ _ (hB.rq g4) hr)]
          exact ⟨_, rfl, g4, Or.inl ⟨_, rfl, hr, (BS.q hQ2 (by omega)).b2.eq (by rw [a2.i rfl, k4])⟩⟩
        · have es : stq wh T (0, t, S, R, o) = .inl (0, t + 1, 12 :: S, R, o + 1) := by
            unfold stq; dsimp only
            rw [if_pos rfl, if_neg h91, if_pos h29, if_neg o6]
          rw [es] at h
          obtain ⟨N4, a1, a2, a3⟩ := r_asks (c := 162) hL hB3 (by unfold isWc; omega) (m3.1.q k3)
          have e3 : ndW T (nI (wdc 162)) (.inr t) = .inr (t + 1) := by
            show (if T 3 t = 1 ∧ T 6 t = nI 29 then _ else _) = _
            rw [if_pos (isW_v h29)]
          rw [e3] at a3
          have g4 : Fr rqX q0 M N4 := ((up_l g2).tr k2).tr (up_l a2)
          rw [itr_c (f := fun a : (Int32 × sMem) => f_X12_qTest_K2 94 a.1 a.2) (a := (1, M)) (a' := (1, N4)) (eK N4 a1)]
          obtain ⟨N5, c1, c2, c3⟩ := ih m (by omega) (0, t + 1, 12 :: S, R, o + 1) N4 r (f1 + 1) h (by omega) rfl (hB.rq g4) (by rw [g4.i rfl]; exact h58) ⟨a3, k4.l a2⟩ (hI.push (Or.inl rfl) o6 (Nat.le_refl _)) (by omega)
          exact ⟨N5, c1, g4.tr c2, c3⟩
      · rw [stq_fact h91 h29] at h
        obtain ⟨N3, a1, a2, a3⟩ := r_qFact hL hw hB2 (by rw [g2.i rfl]; exact h58) m3.1 hQ2 (fun s hs => by have := hI.2.1 s hs; omega) i1 i4
        have hB3 := hB2.rq a2
        have g3 := (up_l g2).tr a2
        have eH : f_X12_qTest_K2 94 1 M = (f_X12_qDropsNots 94 N3).bind fun M15 => (gI 12 127 5 M15 94).bind fun x16 => if x16 = 0 then (f_X12_qGoesOnTest 94 M15).bind fun (x17, M18) => if x17 = 0 then f_X12_qTest_B105 94 M18 else f_X12_qTest_B101 94 M18 else f_X12_qTest_B105 94 M15 := by
          unfold f_X12_qTest_K2
          rw [if_neg (by decide), gi94 hB.1, Option.bind_some, hS.1, if_pos rfl, l1]
          dsimp only [Option.bind_some]
          rw [if_neg n91, gr94_94 hB1.1, Option.bind_some, m1]
          dsimp only [Option.bind_some]
          rw [bI_f (show ¬ isW T t (wdc 162) = true from h29), if_pos rfl, a1, Option.bind_some]
        match z : factR wh T o t with
        | .inl q =>
          rw [z] at a3 h
          obtain rfl := Option.some.inj h
          have eK : f_X12_qTest_K2 94 1 M = some (.inl (0, N3)) := by
            rw [eH, dropsNots_b hB3 a3.1, Option.bind_some, gi94 hB3.1, Option.bind_some, a3.1.1, if_neg a3.1.2.2]; rfl
          rw [itr_c (f := fun a : (Int32 × sMem) => f_X12_qTest_K2 94 a.1 a.2) (a := (1, M)) (a' := (0, N3)) eK, itr_e (f := fun a : (Int32 × sMem) => f_X12_qTest_K2 94 a.1 a.2) (a := (0, N3)) (K0 N3)]
          exact ⟨N3, rfl, g3, Or.inl ⟨q, rfl, a3.1, a3.2⟩⟩
        | .inr (cs, t1) =>
          rw [z] at a3 h
          dsimp only at a3 h
          obtain ⟨d1, d2, d3⟩ := fact_adv2 hL.1 hte z
          obtain ⟨N4, c1, c2, c3⟩ := dropsNots hB3 a3.1.1 a3.2 hlt (by rw [List.length_append]; omega) i3 (by omega)
          have hB4 := hB3.q c2
          have s4 := a3.1.q c2
          obtain ⟨e1, e2, e3, e4⟩ := nots_inv S (R ++ cs) o i3
          have hMT : MT (1, t1, notsP S (R ++ cs) o) := ⟨by dsimp only; rw [List.length_append] at e1; omega, fun s hs => hI.2.1 s (e3 s hs), e2, by dsimp only; omega⟩
          obtain ⟨x, N5, k1, k2, k3⟩ := h_goes (wh := wh) hL m (1, t1, notsP S (R ++ cs) o) N4 r sFuel h rfl hB4 ⟨s4, c3⟩ hMT (by rw [sFuel_v]; omega)
          have hB5 := hB4.rq k2
          have g5 := (g3.tr (up_q c2)).tr k2
          have eG : f_X12_qGoesOnTest 94 N4 = some (x, N5) := by
            unfold f_X12_qGoesOnTest f_X12_qGoesOnTest_L0
            rw [sr94 hB4.1]; exact k1
          have eK : f_X12_qTest_K2 94 1 M = some (.inl ((if x = 0 then 0 else 1), N5)) := by
            rw [eH, c1, Option.bind_some, gi94 hB4.1, Option.bind_some, s4.1, if_pos rfl, eG]
            dsimp only [Option.bind_some]
            unfold f_X12_qTest_B105 f_X12_qTest_B101 f_X12_qTest_B106
            by_cases w : x = 0
            · rw [if_pos w, if_pos w]
            · rw [if_neg w, if_neg w]
          rw [itr_c (f := fun a : (Int32 × sMem) => f_X12_qTest_K2 94 a.1 a.2) (a := (1, M)) (a' := ((if x = 0 then 0 else 1), N5)) eK]
          rcases k3 with ⟨σ2, m2, j1, j2, j3, j4, j5, j6⟩ | ⟨q, j1, j2, j3, j4⟩ | ⟨S2, R2, t2, o2, j1, j2, j3, j4, j5, j6⟩
          · rw [j4, if_neg (by decide)]
            obtain ⟨N6, p1, p2, p3⟩ := ih m2 (by omega) σ2 N5 r (f1 + 1) j3 (by omega) j1 hB5 (by rw [g5.i rfl]; exact h58) j5 j6 (by omega)
            exact ⟨N6, p1, g5.tr p2, p3⟩
          · rw [j2, if_pos rfl, itr_e (f := fun a : (Int32 × sMem) => f_X12_qTest_K2 94 a.1 a.2) (a := (0, N5)) (K0 N5)]
            exact ⟨N5, rfl, g5, Or.inl ⟨q, j1, j3, j4⟩⟩
          · rw [j2, if_pos rfl, itr_e (f := fun a : (Int32 × sMem) => f_X12_qTest_K2 94 a.1 a.2) (a := (0, N5)) (K0 N5)]
            exact ⟨N5, rfl, g5, Or.inr ⟨S2, R2, t2, o2, j1, j3, j4, j5, j6⟩⟩
/-- the machine ends soon -/
theorem stq_adv {σ σ' : Sg} (hE : Ends T e) (h : stq wh T σ = .inl σ') (ht : σ.2.1 ≤ e) : σ.2.1 < σ'.2.1 ∧ σ'.2.1 ≤ e := by
  obtain ⟨md, t, S, R, o⟩ := σ
  dsimp only at ht
  by_cases m0 : md = 0
  · subst m0
    by_cases c1 : isS T t 91 = true
    · have := hE.s c1
      unfold stq at h
      dsimp only at h
      rw [if_pos rfl, if_pos c1] at h
      by_cases c2 : o = 6
      · rw [if_pos c2] at h; cases h
      · rw [if_neg c2] at h
        obtain rfl := Sum.inl.inj h
        dsimp only; omega
    · by_cases c2 : isW T t 29 = true
      · have := hE.w c2
        unfold stq at h
        dsimp only at h
        rw [if_pos rfl, if_neg c1, if_pos c2] at h
        by_cases c4 : o = 6
        · rw [if_pos c4] at h; cases h
        · rw [if_neg c4] at h
          obtain rfl := Sum.inl.inj h
          dsimp only; omega
      · rw [stq_fact c1 c2] at h
        match z : factR wh T o t with
        | .inl q => rw [z] at h; cases h
        | .inr (cs, t') =>
          rw [z] at h
          obtain rfl := Sum.inl.inj h
          have := fact_adv2 hE ht z
          dsimp only; omega
  · unfold stq at h
    dsimp only at h
    rw [if_neg m0] at h
    by_cases c1 : isS T t 93 = true ∧ 25 ∈ S
    · have := hE.s c1.1
      rw [if_pos c1] at h
      obtain rfl := Sum.inl.inj h
      dsimp only; omega
    · rw [if_neg c1] at h
      by_cases c2 : isW T t 28 = true
      · have := hE.w c2
        rw [if_pos c2] at h
        obtain rfl := Sum.inl.inj h
        dsimp only; omega
      · rw [if_neg c2] at h
        by_cases c3 : isW T t 27 = true
        · have := hE.w c3
          rw [if_pos c3] at h
          obtain rfl := Sum.inl.inj h
          dsimp only; omega
        · rw [if_neg c3] at h
          by_cases c4 : 25 ∈ S
          · rw [if_pos c4] at h; cases h
          · rw [if_neg c4] at h; cases h
theorem rq_mono : ∀ {m k : Nat} {σ : Sg} {r : Rs}, rq wh T m σ = some r → m ≤ k → rq wh T k σ = some r
  | 0, k, σ, r, h, _ => by cases h
  | m + 1, 0, σ, r, h, hk => by omega
  | m + 1, k + 1, σ, r, h, hk => by
    have e1 : ∀ j, rq wh T (j + 1) σ = match stq wh T σ with | .inl σ' => rq wh T j σ' | .inr r => some r := fun j => rfl
    rw [e1] at h ⊢
    match z : stq wh T σ with
    | .inl σ' => rw [z] at h; exact rq_mono (σ := σ') h (by omega)
    | .inr q => rw [z] at h; exact h
theorem rq_fuel (hE : Ends T e) : ∀ {m : Nat} {σ : Sg} {r : Rs}, σ.2.1 ≤ e → rq wh T m σ = some r → rq wh T (e - σ.2.1 + 1) σ = some r
  | 0, σ, r, _, h => by cases h
  | m + 1, σ, r, ht, h => by
    have e1 : ∀ j, rq wh T (j + 1) σ = match stq wh T σ with | .inl σ' => rq wh T j σ' | .inr r => some r := fun j => rfl
    rw [e1] at h ⊢
    match z : stq wh T σ with
    | .inl σ' =>
      rw [z] at h
      obtain ⟨a1, a2⟩ := stq_adv hE z ht
      exact rq_mono (σ := σ') (rq_fuel hE (σ := σ') a2 h) (by omega)
    | .inr q => rw [z] at h; exact h
/-- a test, by the reference -/
theorem r_qTest (hL : Lex b n T e sa sz) (hw : wh < 4) (hB : RB b n M) (h58 : M.2.1 94 58 = nI wh) (hS : RS T e sa sz M (.inr t)) (hQ : RQ M [] [] [] 0) :
    ∃ N, f_X12_qTest 94 M = some N ∧ Fr rqX q0 M N ∧ (match pTest wh T 6 t with | .inl q => RS T e sa sz N (.inl q) | .inr q => RS T e sa sz N (.inr q.2) ∧ ∃ o, RQ N [] [] q.1 o) := by
  have hte := hS.2.1
  have he := hL.1.2
  obtain ⟨m, hm⟩ := ql_whole (wh := wh) hL.1 hte
  have hm2 := rq_fuel hL.1 (σ := (0, t, [], [], 0)) hte hm
  dsimp only at hm2
  obtain ⟨N1, a1, a2, a3⟩ := h_test (wh := wh) hL hw (e - t + 1) (0, t, [], [], 0) M _ sFuel hm2 (by omega) rfl hB h58 ⟨hS, hQ⟩ ⟨Nat.zero_le _, fun s hs => absurd hs List.not_mem_nil, Nat.le_refl _, by show 0 ≤ 6; decide⟩ (by rw [sFuel_v]; omega)
  have hB1 := hB.rq a2
  unfold f_X12_qTest f_X12_qTest_L2 f_X12_qTest_L110
  rw [sr94 hB.1, a1, Option.bind_some]
  rcases a3 with ⟨q, c1, c2, c3⟩ | ⟨S1, R1, t1, o1, c1, c2, c3, c4, c5⟩
  · have eK : f_X12_qTest_K110 94 N1 = some (.inr N1) := by
      unfold f_X12_qTest_K110
      rw [gi94 hB1.1, Option.bind_some, c2.1, if_neg c2.2.2]
    rw [show sFuel = 999999 + 1 from rfl, itr_e (f := fun a : sMem => f_X12_qTest_K110 94 a) eK]
    refine ⟨N1, rfl, a2, ?_⟩
    rw [c1]; exact c2
  · have ht1 := c2.2.1
    obtain ⟨N2, d1, d2, d3⟩ := q_dropW (b := b) (n := n) (o := o1) (p := fun _ => true) (K := fun a => f_X12_qTest_K110 94 a) (S0 := []) (fun {S R o v M} hB h5 hQ hv hl hp => by
        show f_X12_qTest_K110 94 M = _
        unfold f_X12_qTest_K110
        rw [gi94 hB.1, Option.bind_some, h5, if_pos rfl, gi94 hB.1, Option.bind_some, hQ.1, if_neg (by rw [show (0 : Int32) = nI 0 from rfl, List.length_cons, cle (by omega) (by omega)]; omega)])
      (fun {S R o M} hB h5 hQ hv hl hno => by
        show f_X12_qTest_K110 94 M = _
        match S, hQ, hl, hno with
        | [], hQ, hl, hno =>
          unfold f_X12_qTest_K110
          rw [gi94 hB.1, Option.bind_some, h5, if_pos rfl, gi94 hB.1, Option.bind_some, hQ.1, if_pos (by decide)]
        | v :: S, hQ, hl, hno => have := hno v S rfl; cases this) hB1 c2.1 c3 (by rw [List.append_nil]; exact c5) (by rw [List.length_nil]; omega) sFuel (by rw [sFuel_v]; omega)
    have e1 : dropW (fun _ => true) S1 R1 = ([], R1 ++ S1) := by
      have := dropW_all (p := fun _ => true) S1 [] R1 (fun _ _ => rfl)
      rw [List.append_nil] at this; rw [this]; rfl
    rw [e1] at d3
    rw [d1]
    refine ⟨N2, rfl, a2.tr (up_q d2), ?_⟩
    rw [c1]
    exact ⟨c2.q d2, o1, d3⟩
end RTU
