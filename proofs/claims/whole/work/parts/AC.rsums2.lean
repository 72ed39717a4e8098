section RSV
variable {b : Nat → Int32} {n e t c wh : Nat} {T : Tk} {sa sz : Nat → Nat} {M N : sMem} {s : Cs} {S0 S R : List Nat} {o o0 v : Nat}
/-- a part is told -/
theorem p_told (hL : Lex b n T e sa sz) (hw : wh < 4) : ∀ (m : Nat) (σ : Sg) (M : sMem) (r : Rs) (fu : Nat), rn wh T m σ = some r → σ.1 = 0 → RB b n M → M.2.1 94 58 = nI wh → RM T e sa sz M S0 σ → MI S0 o0 σ → WF σ → m + 3 ≤ fu →
    ∃ N, ((sItr (fun a : (Int32 × sMem) => f_X12_qPartTold_K2 94 a.1 a.2) fu (1, M)).bind fun x => f_X12_qPartTold_B186 94 x) = some N ∧ Fr rqX q0 M N ∧ ((∃ q, r = .inl q ∧ RS T e sa sz N (.inl q) ∧ BS N) ∨ ∃ σ' m', σ'.1 = 1 ∧ m' < m ∧ rn wh T m' σ' = some r ∧ RM T e sa sz N S0 σ' ∧ MI S0 o0 σ' ∧ WF σ')
  | 0, σ, M, r, fu, h, _, _, _, _, _, _, _ => by cases h
  | m + 1, (md, t, S, R, o), M, r, fu, h, h0, hB, h58, hR, hI, hW, hfu => by
    dsimp only at h0
    subst h0
    obtain ⟨f1, rfl⟩ : ∃ f1, fu = f1 + 2 := ⟨fu - 2, by omega⟩
    have hstep : rn wh T (m + 1) (0, t, S, R, o) = match stp wh T (0, t, S, R, o) with | .inl σ' => rn wh T m σ' | .inr r => some r := rfl
    rw [hstep] at h
    obtain ⟨N, hF, hc⟩ := p_step hL hB h58 hw hR.1 hR.2 hI
    rcases hc with ⟨σ', a1, a2, a3, a4, a5⟩ | ⟨q, a1, a2, a3, a4⟩ | ⟨a1, a2, a3, a4, a5, a6⟩
    · rw [a1] at h
      obtain ⟨N2, b1, b2, b3⟩ := p_told hL hw m σ' N r (f1 + 1) h a2 (hB.rq hF) (by rw [hF.i rfl]; exact h58) a4 a5 (wf_stp a1 (Or.inl rfl) hW) (by omega)
      refine ⟨N2, ?_, hF.tr b2, ?_⟩
      · rw [itr_c (f := fun a : (Int32 × sMem) => f_X12_qPartTold_K2 94 a.1 a.2) (a := (1, M)) (a' := (1, N)) a3]; exact b1
      · rcases b3 with b3 | ⟨σ2, m2, c1, c2, c3⟩
        · exact Or.inl b3
        · exact Or.inr ⟨σ2, m2, c1, by omega, c3⟩
    · rw [a1] at h
      obtain rfl := Option.some.inj h
      have hBN := hB.rq hF
      refine ⟨N, ?_, hF, Or.inl ⟨q, rfl, a3, a4⟩⟩
      have eK : f_X12_qPartTold_K2 94 1 N = some (.inr N) := by
        unfold f_X12_qPartTold_K2
        rw [if_neg (by decide), gi94 hBN.1, Option.bind_some, a3.1, if_neg a3.2.2]
      rw [itr_c (f := fun a : (Int32 × sMem) => f_X12_qPartTold_K2 94 a.1 a.2) (a := (1, M)) (a' := (1, N)) a2, itr_e (f := fun a : (Int32 × sMem) => f_X12_qPartTold_K2 94 a.1 a.2) (a := (1, N)) eK, Option.bind_some]
      unfold f_X12_qPartTold_B186
      rw [gi94 hBN.1, Option.bind_some, a3.1, if_neg a3.2.2]
    · have hBN := hB.rq hF
      have eK : f_X12_qPartTold_K2 94 0 N = some (.inr N) := by
        unfold f_X12_qPartTold_K2
        rw [if_pos rfl]
      obtain ⟨N2, b1, b2, b3⟩ := p_leaf hL hBN (by rw [hF.i rfl]; exact h58) hw a2 a3 hI a4 a5 a6
      refine ⟨N2, ?_, hF.tr b2, ?_⟩
      · rw [itr_c (f := fun a : (Int32 × sMem) => f_X12_qPartTold_K2 94 a.1 a.2) (a := (1, M)) (a' := (0, N)) a1, itr_e (f := fun a : (Int32 × sMem) => f_X12_qPartTold_K2 94 a.1 a.2) (a := (0, N)) eK, Option.bind_some]
        exact b1
      · rcases b3 with ⟨q, c1, c2, c3⟩ | ⟨σ', c1, c2, c3, c4⟩
        · rw [c1] at h
          obtain rfl := Option.some.inj h
          exact Or.inl ⟨q, rfl, c2, c3⟩
        · rw [c1] at h
          exact Or.inr ⟨σ', m, c2, by omega, h, c3, c4, wf_stp c1 (Or.inl rfl) hW⟩
theorem opn_0 : ∀ S : List Nat, wfS S → tlt S → brk S = 0 → opn S = 0 ∧ ∀ s ∈ S, s < 1000
  | [], _, _, _ => ⟨rfl, fun s hs => absurd hs List.not_mem_nil⟩
  | v :: S, h, ht, hb => by
    have hn : ¬ isB v = true := by
      intro z
      have : brk (v :: S) = v := by
        show (if isB v = true then v else _) = v
        rw [if_pos z]
      have := h.1.1; omega
    have e1 : brk (v :: S) = brk S := by
      show (if isB v = true then v else _) = _
      rw [if_neg hn]
    have h4 : v ≤ 4 := by
      have h60 : v < 60 := ht
      rcases h.1.2 with z | z | z
      · exact z
      · exact absurd (decide_eq_true z) hn
      · omega
    obtain ⟨a1, a2⟩ := opn_0 S h.2.2 (h.2.1 h4) (by rw [← e1]; exact hb)
    refine ⟨?_, fun s hs => ?_⟩
    · show (if 20 ≤ v then 1 else 0) + opn S = 0
      rw [if_neg (by omega), a1]
    · rcases List.mem_cons.mp hs with z | z
      · omega
      · exact a2 s z
/-- behind a part -/
theorem g_goes (hL : Lex b n T e sa sz) (hS0 : ∀ s ∈ S0, 5 ≤ s ∧ s < 1000) : ∀ (m : Nat) (σ : Sg) (M : sMem) (r : Rs) (fu : Nat), rn wh T m σ = some r → σ.1 = 1 → RB b n M → RM T e sa sz M S0 σ → MI S0 o0 σ → WF σ → m + 3 ≤ fu →
    ∃ x N, ((sItr (fun a : sMem => f_X12_qGoesOn_K0 94 a) fu M).bind fun x => f_X12_qGoesOn_B122 94 x) = some (x, N) ∧ Fr rqX q0 M N ∧ ((∃ σ' m', σ'.1 = 0 ∧ m' < m ∧ rn wh T m' σ' = some r ∧ x = 1 ∧ RM T e sa sz N S0 σ' ∧ MI S0 o0 σ' ∧ WF σ') ∨ (∃ q, r = .inl q ∧ x = 0 ∧ RS T e sa sz N (.inl q) ∧ BS N) ∨ (∃ S R t, r = .inr (R ++ S, t) ∧ x = 0 ∧ RS T e sa sz N (.inr t) ∧ RQ N S0 S R o0 ∧ S0.length + S.length + R.length ≤ t ∧ ∀ s ∈ S, s < 1000))
  | 0, σ, M, r, fu, h, _, _, _, _, _, _ => by cases h
  | m + 1, (md, t, S, R, o), M, r, fu, h, h0, hB, hR, hI, hW, hfu => by
    dsimp only at h0
    subst h0
    obtain ⟨f1, rfl⟩ : ∃ f1, fu = f1 + 1 := ⟨fu - 1, by omega⟩
    have hstep : rn wh T (m + 1) (1, t, S, R, o) = match stp wh T (1, t, S, R, o) with | .inl σ' => rn wh T m σ' | .inr r => some r := rfl
    rw [hstep] at h
    rcases g_step (wh := wh) hL hB hR.1 hR.2 hI hW hS0 with ⟨N, σ', a1, a2, a3, a4, a5, a6⟩ | ⟨N, a1, a2, a3, a4⟩
    · rw [a1] at h
      obtain ⟨x, N2, b1, b2, b3⟩ := g_goes hL hS0 m σ' N r f1 h a2 (hB.rq a4) a5 a6 (wf_stp a1 (Or.inr rfl) hW) (by omega)
      refine ⟨x, N2, ?_, a4.tr b2, ?_⟩
      · rw [itr_c (f := fun a : sMem => f_X12_qGoesOn_K0 94 a) (a := M) (a' := N) a3]; exact b1
      · rcases b3 with ⟨σ2, m2, c1, c2, c3⟩ | b3 | b3
        · exact Or.inl ⟨σ2, m2, c1, by omega, c3⟩
        · exact Or.inr (Or.inl b3)
        · exact Or.inr (Or.inr b3)
    · obtain ⟨x, N2, b1, b2, b3⟩ := g_rest (wh := wh) hL (hB.rl a2) a3.1 (hR.2.l a2) hI hW hS0 a4
      refine ⟨x, N2, ?_, (up_l a2).tr b2, ?_⟩
      · rw [itr_e (f := fun a : sMem => f_X12_qGoesOn_K0 94 a) (a := M) a1, Option.bind_some]; exact b1
      · rcases b3 with ⟨σ', c1, c2, c3, c4, c5⟩ | ⟨q, c1, c2, c3, c4⟩ | ⟨c1, c2, c3, c4, c5⟩
        · rw [c1] at h
          exact Or.inl ⟨σ', m, c2, by omega, h, c3, c4, c5, wf_stp c1 (Or.inr rfl) hW⟩
        · rw [c1] at h
          obtain rfl := Option.some.inj h
          exact Or.inr (Or.inl ⟨q, rfl, c2, c3, c4⟩)
        · rw [c1] at h
          obtain rfl := Option.some.inj h
          obtain ⟨z1, z2⟩ := opn_0 S hW.1 (hW.2 rfl) c5
          have i3 := hI.2.2.1
          dsimp only at i3
          rw [z1, Nat.add_zero] at i3
          subst i3
          exact Or.inr (Or.inr ⟨S, R, t, rfl, c2, c3, c4, hI.1, z2⟩)
/-- a sum is told -/
theorem g_sums (hL : Lex b n T e sa sz) (hw : wh < 4) (hS0 : ∀ s ∈ S0, 5 ≤ s ∧ s < 1000) (v1 : Int32) : ∀ (m : Nat) (σ : Sg) (M : sMem) (r : Rs) (fu : Nat), rn wh T m σ = some r → m ≤ 2000 → σ.1 = 0 → RB b n M → M.2.1 94 58 = nI wh → RM T e sa sz M S0 σ → MI S0 o0 σ → WF σ → m + 3 ≤ fu →
    ∃ N, sItr (fun a : (Int32 × sMem) => f_X12_qSums_K15 94 v1 a.1 a.2) fu (1, M) = some N ∧ Fr rqX q0 M N ∧ ((∃ q, r = .inl q ∧ RS T e sa sz N (.inl q) ∧ BS N) ∨ (∃ S R t, r = .inr (R ++ S, t) ∧ RS T e sa sz N (.inr t) ∧ RQ N S0 S R o0 ∧ S0.length + S.length + R.length ≤ t ∧ ∀ s ∈ S, s < 1000)) := by
  intro m
  induction m using Nat.strongRecOn with
  | ind m ih =>
    intro σ M r fu h hm h0 hB h58 hR hI hW hfu
    obtain ⟨f1, rfl⟩ : ∃ f1, fu = f1 + 2 := ⟨fu - 2, by omega⟩
    have K0 : ∀ N : sMem, f_X12_qSums_K15 94 v1 0 N = some (.inr N) := fun N => by
      unfold f_X12_qSums_K15; rw [if_pos rfl]
    obtain ⟨N1, a1, a2, a3⟩ := p_told (S0 := S0) (o0 := o0) hL hw m σ M r sFuel h h0 hB h58 hR hI hW (by rw [sFuel_v]; omega)
    have hB1 := hB.rq a2
    have eP : f_X12_qPartTold 94 M = some N1 := by
      unfold f_X12_qPartTold f_X12_qPartTold_L2
      rw [sr94 hB.1]; exact a1
    have h5 : M.2.1 94 5 = 0 := hR.1.1
    rcases a3 with ⟨q, c1, c2, c3⟩ | ⟨σ1, m1, c1, c2, c3, c4, c5, c6⟩
    · have eK : f_X12_qSums_K15 94 v1 1 M = some (.inl (0, N1)) := by
        unfold f_X12_qSums_K15
        rw [if_neg (by decide), gi94 hB.1, Option.bind_some, h5, if_pos rfl, eP, Option.bind_some, gi94 hB1.1, Option.bind_some, c2.1, if_neg c2.2.2]; rfl
      refine ⟨N1, ?_, a2, Or.inl ⟨q, c1, c2, c3⟩⟩
      rw [itr_c (f := fun a : (Int32 × sMem) => f_X12_qSums_K15 94 v1 a.1 a.2) (a := (1, M)) (a' := (0, N1)) eK, itr_e (f := fun a : (Int32 × sMem) => f_X12_qSums_K15 94 v1 a.1 a.2) (a := (0, N1)) (K0 N1)]
    · obtain ⟨x, N2, d1, d2, d3⟩ := g_goes (wh := wh) (o0 := o0) hL hS0 m1 σ1 N1 r sFuel c3 c1 hB1 c4 c5 c6 (by rw [sFuel_v]; omega)
      have hB2 := hB1.rq d2
      have eG : f_X12_qGoesOn 94 N1 = some (x, N2) := by
        unfold f_X12_qGoesOn f_X12_qGoesOn_L0
        rw [sr94 hB1.1]; exact d1
      have eK : f_X12_qSums_K15 94 v1 1 M = some (.inl ((if x = 0 then 0 else 1), N2)) := by
        unfold f_X12_qSums_K15
        rw [if_neg (by decide), gi94 hB.1, Option.bind_some, h5, if_pos rfl, eP, Option.bind_some, gi94 hB1.1, Option.bind_some, c4.1.1, if_pos rfl, eG]
        dsimp only [Option.bind_some]
        unfold f_X12_qSums_B48 f_X12_qSums_B49
        by_cases z : x = 0
        · rw [if_pos z, if_pos z]
        · rw [if_neg z, if_neg z]
      rw [itr_c (f := fun a : (Int32 × sMem) => f_X12_qSums_K15 94 v1 a.1 a.2) (a := (1, M)) (a' := ((if x = 0 then 0 else 1), N2)) eK]
      rcases d3 with ⟨σ2, m2, e1, e2, e3, e4, e5, e6, e7⟩ | ⟨q, e1, e2, e3, e4⟩ | ⟨S, R, t, e1, e2, e3, e4, e5, e6⟩
      · rw [e4, if_neg (by decide)]
        obtain ⟨N3, k1, k2, k3⟩ := ih m2 (by omega) σ2 N2 r (f1 + 1) e3 (by omega) e1 hB2 (by rw [d2.i rfl, a2.i rfl]; exact h58) e5 e6 e7 (by omega)
        exact ⟨N3, k1, (a2.tr d2).tr k2, k3⟩
      · rw [e2, if_pos rfl, itr_e (f := fun a : (Int32 × sMem) => f_X12_qSums_K15 94 v1 a.1 a.2) (a := (0, N2)) (K0 N2)]
        exact ⟨N2, rfl, a2.tr d2, Or.inl ⟨q, e1, e3, e4⟩⟩
      · rw [e2, if_pos rfl, itr_e (f := fun a : (Int32 × sMem) => f_X12_qSums_K15 94 v1 a.1 a.2) (a := (0, N2)) (K0 N2)]
        exact ⟨N2, rfl, a2.tr d2, Or.inr ⟨S, R, t, e1, e3, e4, e5, e6⟩⟩
/-- the machine ends soon -/
theorem stp_adv {σ σ' : Sg} (hE : Ends T e) (h : stp wh T σ = .inl σ') (ht : σ.2.1 ≤ e) : σ.2.1 < σ'.2.1 ∧ σ'.2.1 ≤ e := by
  obtain ⟨md, t, S, R, o⟩ := σ
  dsimp only at ht
  unfold stp at h
  dsimp only at h
  by_cases m0 : md = 0
  · rw [if_pos m0] at h
    by_cases c1 : isS T t 40 = true
    · have := hE.s c1
      rw [if_pos c1] at h
      by_cases c2 : o = 6
      · rw [if_pos c2] at h; cases h
      · rw [if_neg c2] at h
        obtain rfl := Sum.inl.inj h
        dsimp only; omega
    · rw [if_neg c1] at h
      by_cases c2 : mmC T t ≠ 0
      · have := mm_e hE c2
        rw [if_pos c2] at h
        by_cases c3 : isS T (t + 1) 40 = true
        · have := hE.s c3
          rw [if_pos c3] at h
          by_cases c4 : o = 6
          · rw [if_pos c4] at h; cases h
          · rw [if_neg c4] at h
            obtain rfl := Sum.inl.inj h
            dsimp only; omega
        · rw [if_neg c3] at h; cases h
      · rw [if_neg c2] at h
        by_cases c3 : kof wh T t = 13 ∨ kof wh T t = 14
        · have : t ≠ e := by
            intro q
            have := kof_w (T := T) (wh := wh) (t := t) (by omega)
            rw [q, hE.1] at this; exact absurd this (by decide)
          rw [if_pos c3] at h
          by_cases c4 : o = 6
          · rw [if_pos c4] at h; cases h
          · rw [if_neg c4] at h
            obtain rfl := Sum.inl.inj h
            dsimp only; omega
        · rw [if_neg c3] at h
          match z : leaf wh T t with
          | .inl q => rw [z] at h; cases h
          | .inr (cs, t') =>
            rw [z] at h
            obtain rfl := Sum.inl.inj h
            have := leaf_adv (wh := wh) hE t cs t' ht z
            dsimp only; omega
  · rw [if_neg m0] at h
    by_cases c1 : isS T t 41 = true ∧ (brk S = 20 ∨ brk S = 23 ∨ brk S = 24)
    · have := hE.s c1.1
      rw [if_pos c1] at h
      obtain rfl := Sum.inl.inj h
      dsimp only; omega
    · rw [if_neg c1] at h
      by_cases c2 : sepM T t ≠ 0
      · have := (sep_s (T := T) (e := e) t).1 c2 hE
        rw [if_pos c2] at h
        obtain rfl := Sum.inl.inj h
        dsimp only; omega
      · rw [if_neg c2] at h
        by_cases c3 : sepA T t ≠ 0
        · have := (sep_s (T := T) (e := e) t).2.1 c3 hE
          rw [if_pos c3] at h
          obtain rfl := Sum.inl.inj h
          dsimp only; omega
        · rw [if_neg c3] at h
          by_cases c4 : brk S = 21 ∨ brk S = 22
          · rw [if_pos c4] at h
            by_cases c5 : isS T t 44 = true
            · have := hE.s c5
              rw [if_pos c5] at h
              obtain rfl := Sum.inl.inj h
              dsimp only; omega
            · rw [if_neg c5] at h; cases h
          · rw [if_neg c4] at h
            by_cases c5 : brk S ≠ 0
            · rw [if_pos c5] at h; cases h
            · rw [if_neg c5] at h; cases h
theorem rn_mono : ∀ {m k : Nat} {σ : Sg} {r : Rs}, rn wh T m σ = some r → m ≤ k → rn wh T k σ = some r
  | 0, k, σ, r, h, _ => by cases h
  | m + 1, 0, σ, r, h, hk => by omega
  | m + 1, k + 1, σ, r, h, hk => by
    have e1 : ∀ j, rn wh T (j + 1) σ = match stp wh T σ with | .inl σ' => rn wh T j σ' | .inr r => some r := fun j => rfl
    rw [e1] at h ⊢
    match z : stp wh T σ with
    | .inl σ' => rw [z] at h; exact rn_mono (σ := σ') h (by omega)
    | .inr q => rw [z] at h; exact h
theorem rn_fuel (hE : Ends T e) : ∀ {m : Nat} {σ : Sg} {r : Rs}, σ.2.1 ≤ e → rn wh T m σ = some r → rn wh T (e - σ.2.1 + 1) σ = some r
  | 0, σ, r, _, h => by cases h
  | m + 1, σ, r, ht, h => by
    have e1 : ∀ j, rn wh T (j + 1) σ = match stp wh T σ with | .inl σ' => rn wh T j σ' | .inr r => some r := fun j => rfl
    rw [e1] at h ⊢
    match z : stp wh T σ with
    | .inl σ' =>
      rw [z] at h
      obtain ⟨a1, a2⟩ := stp_adv hE z ht
      exact rn_mono (σ := σ') (rn_fuel hE (σ := σ') a2 h) (by omega)
    | .inr q => rw [z] at h; exact h
/-- a sum, by the reference -/
theorem r_qSums (hL : Lex b n T e sa sz) (hw : wh < 4) (hB : RB b n M) (h58 : M.2.1 94 58 = nI wh) (hS : RS T e sa sz M (.inr t)) (hQ : RQ M S0 S R o) (hA : ∀ s ∈ S ++ S0, 5 ≤ s ∧ s < 1000) (hl : S0.length + S.length + R.length ≤ t) (ho : o ≤ 6) :
    ∃ N, f_X12_qSums 94 M = some N ∧ Fr rqX q0 M N ∧ (match pSum wh T (6 - o) t with | .inl q => RS T e sa sz N (.inl q) ∧ BS N | .inr q => RS T e sa sz N (.inr q.2) ∧ RQ N S0 S (R ++ q.1) o) := by
  have hte := hS.2.1
  have he := hL.1.2
  obtain ⟨q1, q2, q3, q4, q5, q6⟩ := hQ
  have hF : Fr qX q0 M (wrI M 94 120 (nI (S.length + S0.length))) := Fr.rf.wi rfl
  have hB1 := hB.q hF
  have hQ1 : RQ (wrI M 94 120 (nI (S.length + S0.length))) (S ++ S0) [] R o := ⟨by rw [wrI_ne (by omega), q1, List.length_append, List.length_nil, Nat.zero_add], by rw [List.nil_append]; exact q2.cg (fun i _ => by rw [wrI_ne (by omega)]), by rw [wrI_ne (by omega)]; exact q3, fun i hi => by rw [wrI_ne (by omega)]; exact q4 i hi, by rw [wrI_ne (by omega)]; exact q5, by rw [wrI_eq, List.length_append]⟩
  have hrn := pl_whole (wh := wh) (d := 6 - o) hL.1 (by omega) hte R
  rw [show 6 - (6 - o) = o by omega] at hrn
  obtain ⟨m, hm⟩ := hrn
  have hm2 := rn_fuel hL.1 (σ := (0, t, [], R, o)) hte hm
  dsimp only at hm2
  obtain ⟨N1, a1, a2, a3⟩ := g_sums (wh := wh) (o0 := o) hL hw hA (nI S0.length) (e - t + 1) (0, t, [], R, o) (wrI M 94 120 (nI (S.length + S0.length))) _ sFuel hm2 (by omega) rfl hB1 (by rw [wrI_ne (by omega)]; exact h58) ⟨hS.q hF, hQ1⟩ ⟨by dsimp only; rw [List.length_append, List.length_nil]; omega, fun s hs => absurd hs List.not_mem_nil, rfl, ho⟩ ⟨trivial, fun z => by cases z⟩ (by rw [sFuel_v]; omega)
  have hB2 := hB1.rq a2
  unfold f_X12_qSums f_X12_qSums_L15 f_X12_qSums_L53 f_X12_qSums_B78
  rw [sr94 hB.1, gi94 hB.1, Option.bind_some, gi94 hB.1, Option.bind_some, q1, q6, pi94 hB.1, Option.bind_some, a1, Option.bind_some]
  rcases a3 with ⟨q, c1, c2, c3⟩ | ⟨S1, R1, t1, c1, c2, c3, c4, c5⟩
  · have eK : f_X12_qSums_K53 94 (nI S0.length) N1 = some (.inr N1) := by
      unfold f_X12_qSums_K53
      rw [gi94 hB2.1, Option.bind_some, c2.1, if_neg c2.2.2]
    rw [show sFuel = 999999 + 1 from rfl, itr_e (f := fun a : sMem => f_X12_qSums_K53 94 (nI S0.length) a) eK, Option.bind_some, pi94 hB2.1, Option.bind_some]
    have hF2 : Fr qX q0 N1 (wrI N1 94 120 (nI S0.length)) := Fr.rf.wi rfl
    refine ⟨_, rfl, ((up_q hF).tr a2).tr (up_q hF2), ?_⟩
    match z : pSum wh T (6 - o) t with
    | .inl q' =>
      rw [z] at c1
      obtain rfl := Sum.inl.inj c1
      exact ⟨c2.q hF2, c3.eq (by rw [wrI_ne (by omega)])⟩
    | .inr q' => rw [z] at c1; cases c1
  · have ht1 := c2.2.1
    obtain ⟨N2, d1, d2, d3⟩ := dr_all (nI S0.length) hB2 c2.1 c3 (fun s hs => by
      rcases List.mem_append.mp hs with z | z
      · exact c5 s z
      · exact (hA s z).2) (by omega)
    have hB3 := hB2.q d2
    rw [d1, Option.bind_some, pi94 hB3.1, Option.bind_some]
    have hF2 : Fr qX q0 N2 (wrI N2 94 120 (nI S0.length)) := Fr.rf.wi rfl
    refine ⟨_, rfl, (((up_q hF).tr a2).tr (up_q d2)).tr (up_q hF2), ?_⟩
    match z : pSum wh T (6 - o) t with
    | .inl q' => rw [z] at c1; cases c1
    | .inr q' =>
      rw [z] at c1
      obtain ⟨e1, e2⟩ := Prod.mk.inj (Sum.inr.inj c1)
      rw [← e1] at d3
      obtain ⟨p1, p2, p3, p4, p5, p6⟩ := d3
      refine ⟨by rw [e2]; exact (c2.q d2).q hF2, by rw [wrI_ne (by omega), p1, List.length_append, List.length_nil, Nat.zero_add], ?_, by rw [wrI_ne (by omega)]; exact p3, fun i hi => by rw [wrI_ne (by omega)]; exact p4 i hi, by rw [wrI_ne (by omega)]; exact p5, wrI_eq⟩
      rw [List.nil_append] at p2
      exact p2.cg (fun i _ => by rw [wrI_ne (by omega)])
end RSV
