/-! THE REFERENCE tells a test -/
def opq : List Nat → Nat
  | [] => 0
  | s :: S => (if s = 12 ∨ s = 25 then 1 else 0) + opq S
def MT (σ : Sg) : Prop := σ.2.2.1.length + σ.2.2.2.1.length ≤ σ.2.1 ∧ (∀ s ∈ σ.2.2.1, s = 10 ∨ s = 11 ∨ s = 12 ∨ s = 25) ∧ opq σ.2.2.1 ≤ σ.2.2.2.2 ∧ σ.2.2.2.2 ≤ 6
def B2 (M : sMem) : Prop := ∃ r, r ≤ 1660 ∧ M.2.1 94 116 = nI r
section RTS
variable {b : Nat → Int32} {n e t c wh : Nat} {T : Tk} {sa sz : Nat → Nat} {M N : sMem} {s : Cs} {S R : List Nat} {o v : Nat}
theorem BS.b2 (h : BS M) : B2 M := by obtain ⟨r, r1, r2⟩ := h; exact ⟨r, by omega, r2⟩
theorem B2.eq (h : B2 M) (he : N.2.1 94 116 = M.2.1 94 116) : B2 N := by obtain ⟨r, r1, r2⟩ := h; exact ⟨r, r1, by rw [he]; exact r2⟩
theorem nots_inv : ∀ (S R : List Nat) (o : Nat), opq S ≤ o → (notsP S R o).1.length + (notsP S R o).2.1.length = S.length + R.length ∧ opq (notsP S R o).1 ≤ (notsP S R o).2.2 ∧ (∀ s ∈ (notsP S R o).1, s ∈ S) ∧ (notsP S R o).2.2 ≤ o
  | [], R, o, h => ⟨rfl, h, fun s hs => hs, Nat.le_refl _⟩
  | v :: S, R, o, h => by
    have hop : opq (v :: S) = (if v = 12 ∨ v = 25 then 1 else 0) + opq S := rfl
    by_cases h12 : v = 12
    · have e1 : notsP (v :: S) R o = notsP S (R ++ [v]) (o - 1) := by
        show (if v = 12 then _ else _) = _
        rw [if_pos h12]
      rw [if_pos (Or.inl h12)] at hop
      obtain ⟨a1, a2, a3, a4⟩ := nots_inv S (R ++ [v]) (o - 1) (by omega)
      rw [e1]
      refine ⟨by rw [a1, List.length_append, List.length_singleton, List.length_cons]; omega, a2, fun s hs => List.mem_cons_of_mem _ (a3 s hs), by omega⟩
    · have e1 : notsP (v :: S) R o = (v :: S, R, o) := by
        show (if v = 12 then _ else _) = _
        rw [if_neg h12]
      rw [e1]
      exact ⟨rfl, h, fun s hs => hs, Nat.le_refl _⟩
theorem dropq_inv {p : Nat → Bool} : ∀ (S R : List Nat), (dropW p S R).1.length + (dropW p S R).2.length = S.length + R.length ∧ opq (dropW p S R).1 ≤ opq S ∧ ∀ s ∈ (dropW p S R).1, s ∈ S
  | [], R => ⟨rfl, Nat.le_refl _, fun s hs => hs⟩
  | v :: S, R => by
    by_cases hv : p v = true
    · have e1 : dropW p (v :: S) R = dropW p S (R ++ [v]) := by
        show (if p v = true then _ else _) = _
        rw [if_pos hv]
      obtain ⟨a1, a2, a3⟩ := dropq_inv (p := p) S (R ++ [v])
      rw [e1]
      refine ⟨by rw [a1, List.length_append, List.length_singleton, List.length_cons]; omega, ?_, fun s hs => List.mem_cons_of_mem _ (a3 s hs)⟩
      show _ ≤ (if v = 12 ∨ v = 25 then 1 else 0) + opq S
      omega
    · have e1 : dropW p (v :: S) R = (v :: S, R) := by
        show (if p v = true then _ else _) = _
        rw [if_neg hv]
      rw [e1]
      exact ⟨rfl, Nat.le_refl _, fun s hs => hs⟩
theorem q_nots : ∀ {S R : List Nat} {o : Nat} {M : sMem}, RB b n M → M.2.1 94 5 = 0 → RQ M [] S R o → (∀ s ∈ S, s < 1000) → S.length + R.length ≤ 1600 → opq S ≤ o → o < 1000 → ∀ fu, S.length < fu → ∃ N, sItr (fun a : sMem => f_X12_qDropsNots_K0 94 a) fu M = some N ∧ Fr qX q0 M N ∧ RQ N [] (notsP S R o).1 (notsP S R o).2.1 (notsP S R o).2.2 := by
  intro S
  induction S with
  | nil =>
    intro R o M hB h5 hQ _ hl ho ho2 fu hfu
    obtain ⟨m, rfl⟩ : ∃ m, fu = m + 1 := ⟨fu - 1, by omega⟩
    refine ⟨M, itr_e ?_, Fr.rf, hQ⟩
    unfold f_X12_qDropsNots_K0
    rw [gi94 hB.1, Option.bind_some, h5, if_pos rfl, q_isOn (v := 12) (z := 12) hB hQ (fun s hs => by simp at hs) (by simp) (by decide) rfl, Option.bind_some, bI_f (by simp), if_pos rfl]
  | cons v S ih =>
    intro R o M hB h5 hQ hv hl ho ho2 fu hfu
    obtain ⟨m, rfl⟩ : ∃ m, fu = m + 1 := ⟨fu - 1, by omega⟩
    rw [List.length_cons] at hl hfu
    have hop : opq (v :: S) = (if v = 12 ∨ v = 25 then 1 else 0) + opq S := rfl
    have head : f_X12_qDropsNots_K0 94 M = (if bI ((v :: S ++ []).head? = some 12) = 0 then some (.inr M) else (gI 12 127 119 M 94).bind fun x3 => (pI 12 127 119 M 94 ((x3 - (1 : Int32)))).bind fun M4 => (f_X12_qDrops 94 M4).bind fun M5 => some (.inl M5)) := by
      unfold f_X12_qDropsNots_K0
      rw [gi94 hB.1, Option.bind_some, h5, if_pos rfl, q_isOn (v := 12) (z := 12) hB hQ (fun s hs => hv s (by rw [List.append_nil] at hs; exact hs)) (by rw [List.length_cons, List.length_nil]; omega) (by decide) rfl, Option.bind_some]
    by_cases h12 : v = 12
    · have e1 : notsP (v :: S) R o = notsP S (R ++ [v]) (o - 1) := by
        show (if v = 12 then _ else _) = _
        rw [if_pos h12]
      rw [if_pos (Or.inl h12)] at hop
      have hF : Fr qX q0 M (wrI M 94 119 (nI (o - 1))) := Fr.rf.wi rfl
      have hQ1 : RQ (wrI M 94 119 (nI (o - 1))) [] (v :: S) R (o - 1) := by
        obtain ⟨h1, h2, h3, h4, h5, h6⟩ := hQ
        exact ⟨by rw [wrI_ne (by omega)]; exact h1, h2.cg (fun i _ => by rw [wrI_ne (by omega)]), by rw [wrI_ne (by omega)]; exact h3, fun i hi => by rw [wrI_ne (by omega)]; exact h4 i hi, wrI_eq, by rw [wrI_ne (by omega)]; exact h6⟩
      obtain ⟨N1, k1, k2, k3⟩ := q_drops (hB.q hF) hQ1 (by omega) (by rw [List.length_nil]; omega)
      have hFF := hF.tr k2
      obtain ⟨N, j1, j2, j3⟩ := ih (R := R ++ [v]) (o := o - 1) (hB.q hFF) (by rw [hFF.i rfl]; exact h5) k3 (fun s hs => hv s (List.mem_cons_of_mem _ hs)) (by rw [List.length_append, List.length_singleton]; omega) (by omega) (by omega) m (by omega)
      refine ⟨N, ?_, hFF.tr j2, by rw [e1]; exact j3⟩
      rw [itr_c (a' := N1)]
      · exact j1
      · have hh : (v :: S ++ ([] : List Nat)).head? = some 12 := by rw [h12]; rfl
        rw [head, bI_t hh, if_neg (by decide), gi94 hB.1, Option.bind_some, hQ.2.2.2.2.1, show (1 : Int32) = nI 1 from rfl, nsub (by omega), pi94 hB.1, Option.bind_some, k1]; rfl
    · have e1 : notsP (v :: S) R o = (v :: S, R, o) := by
        show (if v = 12 then _ else _) = _
        rw [if_neg h12]
      refine ⟨M, itr_e ?_, Fr.rf, by rw [e1]; exact hQ⟩
      have hh : ¬ (v :: S ++ ([] : List Nat)).head? = some 12 := fun w => h12 (Option.some.inj w)
      rw [head, bI_f hh, if_pos rfl]
theorem dropsNots (hB : RB b n M) (h5 : M.2.1 94 5 = 0) (hQ : RQ M [] S R o) (hv : ∀ s ∈ S, s < 1000) (hl : S.length + R.length ≤ 1600) (ho : opq S ≤ o) (ho2 : o < 1000) : ∃ N, f_X12_qDropsNots 94 M = some N ∧ Fr qX q0 M N ∧ RQ N [] (notsP S R o).1 (notsP S R o).2.1 (notsP S R o).2.2 := by
  obtain ⟨N, a1, a2, a3⟩ := q_nots hB h5 hQ hv hl ho ho2 sFuel (by rw [sFuel_v]; omega)
  unfold f_X12_qDropsNots f_X12_qDropsNots_L0
  rw [sr94 hB.1, a1]
  exact ⟨N, rfl, a2, a3⟩
theorem dropsNots_b (hB : RB b n M) {q : Int32 × Int32} (hS : RS T e sa sz M (.inl q)) : f_X12_qDropsNots 94 M = some M := by
  have eK : f_X12_qDropsNots_K0 94 M = some (.inr M) := by
    unfold f_X12_qDropsNots_K0
    rw [gi94 hB.1, Option.bind_some, hS.1, if_neg hS.2.2]
  unfold f_X12_qDropsNots f_X12_qDropsNots_L0
  rw [sr94 hB.1, show sFuel = 999999 + 1 from rfl, itr_e (f := fun a : sMem => f_X12_qDropsNots_K0 94 a) eK]; rfl
/-- a fact, but for what it opens -/
def factR (wh : Nat) (T : Tk) (o t : Nat) : Rs := if isW T t 30 = true then .inr ([13], t + 1) else cmpOf T (pSum wh T (6 - o)) t
theorem r_qFact (hL : Lex b n T e sa sz) (hw : wh < 4) (hB : RB b n M) (h58 : M.2.1 94 58 = nI wh) (hS : RS T e sa sz M (.inr t)) (hQ : RQ M [] S R o) (hA : ∀ s ∈ S, 5 ≤ s ∧ s < 1000) (hl : S.length + R.length ≤ t) (ho : o ≤ 6) :
    ∃ N, f_X12_qFact 94 M = some N ∧ Fr rqX q0 M N ∧ (match factR wh T o t with | .inl q => RS T e sa sz N (.inl q) ∧ B2 N | .inr q => RS T e sa sz N (.inr q.2) ∧ RQ N [] S (R ++ q.1) o) := by
  have hte := hS.2.1
  have he := hL.1.2
  unfold f_X12_qFact factR
  rw [sr94 hB.1, gr94_97 hB.1, Option.bind_some]
  by_cases h30 : isW T t 30 = true
  · obtain ⟨N1, a1, a2, a3⟩ := r_takes_y (c := 165) hL hB (by unfold isWc; omega) hS h30
    obtain ⟨N2, b1, b2, b3⟩ := q_code (v := 13) (z := 13) (hB.rl a2) (hQ.l a2) (by omega) rfl
    rw [a1]
    dsimp only [Option.bind_some]
    rw [if_neg (by decide), b1, if_pos h30]
    exact ⟨N2, rfl, (up_l a2).tr (up_q b2), a3.q b2, b3⟩
  · obtain ⟨N1, a1, a2, a3⟩ := r_takes_n (c := 165) hL hB (by unfold isWc; omega) hS h30
    rw [a1]
    dsimp only [Option.bind_some]
    rw [if_pos rfl, if_neg h30]
    have hB1 := hB.rl a2
    obtain ⟨N2, c1, c2, c3⟩ := r_qSums (S0 := []) hL hw hB1 (by rw [a2.i rfl]; exact h58) a3.1 (hQ.l a2) (by rw [List.append_nil]; exact hA) (by rw [List.length_nil]; omega) ho
    have hB2 := hB1.rq c2
    have g2 := (up_l a2).tr c2
    rw [c1, Option.bind_some, gi94 hB2.1, Option.bind_some]
    unfold cmpOf
    match z : pSum wh T (6 - o) t with
    | .inl q =>
      rw [z] at c3
      rw [c3.1.1, if_neg c3.1.2.2]
      exact ⟨N2, rfl, g2, c3.1, c3.2.b2⟩
    | .inr (cs, t1) =>
      rw [z] at c3
      obtain ⟨d1, d2, d3⟩ := psum_adv (wh := wh) (d := 6 - o) hL.1 t cs t1 hte z
      dsimp only at c3
      obtain ⟨N3, l1, l2, l3⟩ := r_look hL hB2 c3.1
      have hB3 := hB2.rl l2
      have hQ3 := c3.2.l l2
      have g3 := g2.tr (up_l l2)
      rw [c3.1.1, if_pos rfl, l1]
      dsimp only [Option.bind_some]
      rw [rbd_r]
      -- behind the sign
      have B63 : ∀ x : Int32, sepC T t1 ≠ 0 → (if x = (60 : Int32) then (7 : Int32) else if x = (62 : Int32) then 8 else 9) = nI (sepC T t1) → ∃ N, f_X12_qFact_B63 94 x N3 = some N ∧ Fr rqX q0 M N ∧ (match (rbd (pSum wh T (6 - o) (t1 + 1)) fun c2 t2 => (.inr (cs ++ c2 ++ [sepC T t1], t2) : Rs)) with | .inl q => RS T e sa sz N (.inl q) ∧ B2 N | .inr q => RS T e sa sz N (.inr q.2) ∧ RQ N [] S (R ++ q.1) o) := by
        intro x hz hx
        obtain ⟨c, hc⟩ : ∃ c, isS T t1 c = true := by rcases sepC_v hz with ⟨q, _⟩ | ⟨q, _⟩ | ⟨q, _⟩ <;> exact ⟨_, q⟩
        have hlt := hL.ne d2 (by rw [(isS_v hc).1]; decide)
        obtain ⟨s1, s2⟩ := r_step1 hL hB3 l3 hc
        obtain ⟨N4, e1, e2, e3⟩ := r_qSums (S0 := []) hL hw (hB3.rl s1) (by rw [s1.i rfl, l2.i rfl, c2.i rfl, a2.i rfl]; exact h58) s2 (hQ3.l s1) (by rw [List.append_nil]; exact hA) (by rw [List.length_nil, List.length_append]; omega) ho
        have hB4 := (hB3.rl s1).rq e2
        have g4 := (g3.tr (up_l s1)).tr e2
        have fin : ∀ (y : Int32), (if x = (60 : Int32) then f_X12_qFact_B102 94 ((7 : Int32)) N4 else if x = (62 : Int32) then f_X12_qFact_B102 94 ((8 : Int32)) N4 else f_X12_qFact_B102 94 ((9 : Int32)) N4) = f_X12_qFact_B102 94 (if x = (60 : Int32) then (7 : Int32) else if x = (62 : Int32) then 8 else 9) N4 := by
          intro y
          by_cases q1 : x = 60
          · rw [if_pos q1, if_pos q1]
          · rw [if_neg q1, if_neg q1]
            by_cases q2 : x = 62
            · rw [if_pos q2, if_pos q2]
            · rw [if_neg q2, if_neg q2]
        unfold f_X12_qFact_B63
        rw [gi94 hB3.1, Option.bind_some, l3.2, pi94 hB3.1, Option.bind_some, e1, Option.bind_some, fin 0, hx]
        unfold f_X12_qFact_B102
        match w : pSum wh T (6 - o) (t1 + 1) with
        | .inl q =>
          rw [w] at e3
          rw [rbd_l]
          obtain ⟨r, r1, r2⟩ := e3.2
          have hF : Fr qX q0 N4 (wrI (wrI N4 183 r (nI (sepC T t1))) 94 116 (nI (r + 1))) := (Fr.rf.wi rfl).wi rfl
          unfold f_X12_qCode
          rw [sr94 hB4.1, gr94_115 hB4.1, Option.bind_some, gi94 hB4.1, Option.bind_some, r2, st183 hB4.1 (by omega), Option.bind_some, gi94 (M := wrI N4 183 r (nI (sepC T t1))) hB4.1, Option.bind_some, wrI_ne (by omega), r2, nI_1, pi94 (M := wrI N4 183 r (nI (sepC T t1))) hB4.1, Option.bind_some, Option.bind_some]
          exact ⟨_, rfl, g4.tr (up_q hF), e3.1.q hF, r + 1, by omega, wrI_eq⟩
        | .inr (cs2, t2) =>
          rw [w] at e3
          rw [rbd_r]
          obtain ⟨f1, f2, f3⟩ := psum_adv (wh := wh) (d := 6 - o) hL.1 (t1 + 1) cs2 t2 (by omega) w
          dsimp only at e3
          obtain ⟨N5, k1, k2, k3⟩ := q_code (v := sepC T t1) (z := nI (sepC T t1)) hB4 e3.2 (by rw [List.length_append, List.length_append]; omega) rfl
          rw [k1]
          refine ⟨N5, rfl, g4.tr (up_q k2), e3.1.q k2, ?_⟩
          rw [show R ++ (cs ++ cs2 ++ [sepC T t1]) = R ++ cs ++ cs2 ++ [sepC T t1] by simp only [List.append_assoc]]
          exact k3
      by_cases h60 : isS T t1 60 = true
      · have ez : sepC T t1 = 7 := by unfold sepC; rw [if_pos h60]
        have ec : chr b e sa t1 = (60 : Int32) := (chr_S hL d2 sg40.2.2.2.2.2.2.2.2.1).mpr h60
        rw [if_pos ec, if_neg (by rw [ez]; decide)]
        exact B63 _ (by rw [ez]; decide) (by rw [if_pos ec, ez]; rfl)
      · have n60 : ¬ chr b e sa t1 = (60 : Int32) := fun w => h60 ((chr_S hL d2 sg40.2.2.2.2.2.2.2.2.1).mp w)
        rw [if_neg n60]
        by_cases h62 : isS T t1 62 = true
        · have ez : sepC T t1 = 8 := by unfold sepC; rw [if_neg h60, if_pos h62]
          have ec : chr b e sa t1 = (62 : Int32) := (chr_S hL d2 sg40.2.2.2.2.2.2.2.2.2.2.1).mpr h62
          rw [if_pos ec, if_neg (by rw [ez]; decide)]
          exact B63 _ (by rw [ez]; decide) (by rw [if_neg n60, if_pos ec, ez]; rfl)
        · have n62 : ¬ chr b e sa t1 = (62 : Int32) := fun w => h62 ((chr_S hL d2 sg40.2.2.2.2.2.2.2.2.2.2.1).mp w)
          rw [if_neg n62]
          by_cases h61 : isS T t1 61 = true
          · have ez : sepC T t1 = 9 := by unfold sepC; rw [if_neg h60, if_neg h62, if_pos h61]
            have ec : chr b e sa t1 = (61 : Int32) := (chr_S hL d2 sg40.2.2.2.2.2.2.2.2.2.1).mpr h61
            rw [if_pos ec, if_neg (by rw [ez]; decide)]
            exact B63 _ (by rw [ez]; decide) (by rw [if_neg n60, if_neg n62, ez]; rfl)
          · have ez : sepC T t1 = 0 := by unfold sepC; rw [if_neg h60, if_neg h62, if_neg h61]
            have n61 : ¬ chr b e sa t1 = (61 : Int32) := fun w => h61 ((chr_S hL d2 sg40.2.2.2.2.2.2.2.2.2.1).mp w)
            obtain ⟨N4, f1, f2, f3⟩ := r_fail hB3 l3.1 1 (nI (sa t1)) (by decide)
            rw [if_neg n61, gi94 hB3.1, Option.bind_some, l3.2, f1, if_pos ez, hL.t4 d2]
            refine ⟨N4, rfl, g3.tr (up_l f2), f3, ?_⟩
            exact (BS.q hQ3 (by rw [List.length_append]; omega)).b2.eq (f2.i rfl)
end RTS
