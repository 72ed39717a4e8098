def DjJ (u : Nat → Nat → Int32) (cl : Nat → Nat → Bool) (W P m0 fr : Nat) (S : Nat → Bool) (p i : Nat) (sp : Nat → Nat) : Prop :=
  ((∀ q, q < 7 → sp q ≤ 200) ∧ (∀ q, q < 7 → sp q < 200 → q < P ∧ rch u cl W P m0 fr (sp q) q) ∧ sp fr ≤ m0) ∧ (∀ p', p' < 7 → S p' = true → sp p' < 200 ∧ sp p' ≤ sp p ∧ ∀ k q, k < W → ends u k p' q → relx u cl sp k p' q) ∧ (sp p < 200 ∧ ∀ k q, k < i → k < W → ends u k p q → relx u cl sp k p q) ∧ ∀ q, q < 7 → S q = false → q ≠ p → sp p ≤ sp q
theorem cntN_comp (f : Nat → Bool) : ∀ n, cntN f n + cntN (fun q => !(f q)) n = n
  | 0 => rfl
  | n + 1 => by
    have := cntN_comp f n
    show cntN f n + (if f n = true then 1 else 0) + (cntN (fun q => !(f q)) n + (if (!(f n)) = true then 1 else 0)) = n + 1
    cases f n
    · rw [if_neg (by decide), if_pos (show (!false) = true from rfl)]; omega
    · rw [if_pos rfl, if_neg (by decide)]; omega
section DK
variable {u : Nat → Nat → Int32} {cl : Nat → Nat → Bool} {G W P E C m0 fr m q n t p to i v : Nat} {c0 c1 c2 : List Nat} {sp : Nat → Nat} {S : Nat → Bool}
theorem dj_none (h : DjJ u cl W P m0 fr S p i sp) (hn : ∀ q, ends u i p q → relx u cl sp i p q) : DjJ u cl W P m0 fr S p (i + 1) sp := by
  refine ⟨h.1, h.2.1, ⟨h.2.2.1.1, fun k q hk hkW he => ?_⟩, h.2.2.2⟩
  by_cases hki : k = i
  · subst hki; exact hn q he
  · exact h.2.2.1.2 k q (by omega) hkW he
theorem relx_less {sp' : Nat → Nat} {k p' q' : Nat} (h : relx u cl sp k p' q') (h1 : sp' p' = sp p') (h2 : sp' q' ≤ sp q') : relx u cl sp' k p' q' := fun v a b c => by
  rw [h1] at a
  have := h v a b c; omega
theorem dj_upd (hu : DU u G P E C W c0 c1 c2) (h : DjJ u cl W P m0 fr S p i sp) (hp : p < 7) (hi : i < W) (he : ends u i p q) (hun : ∀ q', ends u i p q' → q' = q) (hv : sopen u cl i (sp p) v) (hv2 : v < 200) (hlt : v + ws u i < sp q) : DjJ u cl W P m0 fr S p (i + 1) (fun x => if x = q then v + ws u i else sp x) := by
  have hb := hu.2.1
  obtain ⟨w1, w2, w3, w4, w5, w6, w7, w8, w9⟩ := hu.way hi
  obtain ⟨⟨a1, a2, a3⟩, a4, ⟨a5, a6⟩, a7⟩ := h
  have hq : q < P := by rcases he with z | z <;> omega
  have hq7 := a1 q (by omega)
  have hv1 := hv.1
  have hqp : q ≠ p := fun z => by rw [z] at hlt; omega
  have hSq : S q = false := by
    cases z : S q with
    | false => rfl
    | true => have := (a4 q (by omega) z).2.1; omega
  have ep : (fun x => if x = q then v + ws u i else sp x) p = sp p := if_neg (fun z => hqp z.symm)
  have le : ∀ x, (fun x => if x = q then v + ws u i else sp x) x ≤ sp x := fun x => by
    by_cases z : x = q
    · show (if x = q then _ else _) ≤ _; rw [if_pos z, z]; omega
    · show (if x = q then _ else _) ≤ _; rw [if_neg z]; exact Nat.le_refl _
  have ne : ∀ x, x ≠ q → (fun x => if x = q then v + ws u i else sp x) x = sp x := fun x z => if_neg z
  have eq : (fun x => if x = q then v + ws u i else sp x) q = v + ws u i := if_pos rfl
  generalize (fun x => if x = q then v + ws u i else sp x) = sp' at *
  refine ⟨⟨fun x hx => Nat.le_trans (le x) (a1 x hx), fun x hx hx2 => ?_, Nat.le_trans (le fr) a3⟩, fun p' hp' hS => ?_, ⟨by rw [ep]; exact a5, fun k q' hk hkW hk2 => ?_⟩, fun x hx hx2 hx3 => ?_⟩
  · by_cases z : x = q
    · subst z
      rw [eq]
      refine ⟨hq, rch_iff.mpr (Or.inr ⟨v, by omega, p, (a2 p hp a5).1, ?_, Or.inr ⟨i, hi, hv.2.1, rfl, he⟩⟩)⟩
      have := rch_wait (a2 p hp a5).1 (a2 p hp a5).2 (v - sp p)
      rw [show sp p + (v - sp p) = v by omega] at this
      exact this
    · rw [ne x z] at hx2 ⊢
      exact a2 x hx hx2
  · have hpq : p' ≠ q := fun z => by rw [z, hSq] at hS; cases hS
    obtain ⟨b1, b2, b3⟩ := a4 p' hp' hS
    rw [ne p' hpq, ep]
    exact ⟨b1, b2, fun k q' hk hk2 => relx_less (b3 k q' hk hk2) (ne p' hpq) (le q')⟩
  · by_cases hki : k = i
    · subst hki
      intro v' c1 c2 c3
      rw [ep] at c1
      rw [hun q' hk2, eq]
      have : v' = v := by
        rcases Nat.lt_trichotomy v' v with z | z | z
        · exact absurd c1.2.1 (hv.2.2 v' c1.1 z)
        · exact z
        · exact absurd hv.2.1 (c1.2.2 v hv.1 z)
      omega
    · exact relx_less (a6 k q' (by omega) hkW hk2) ep (le q')
  · rw [ep]
    by_cases z : x = q
    · rw [z, eq]; omega
    · rw [ne x z]; exact a7 x hx hx2 hx3
end DK
section GP
variable {u : Nat → Nat → Int32} {cl : Nat → Nat → Bool} {M N : sMem} {D G P E C W g k e c l m up p q t m0 fr to row s : Nat} {c0 c1 c2 : List Nat} {sp : Nat → Nat} {S : Nat → Bool}
theorem offD_go : offD pGo := fun a k z => by unfold pGo at z; simp only [beq_iff_eq] at z; omega
theorem offR_0 : offR (fun _ _ => false) := ⟨fun _ _ => rfl, rfl, rfl, rfl, rfl, fun _ _ _ => rfl, fun _ _ => rfl⟩
/-- the ways from a place -/
theorem c_ways (h : CV u M D G P E C W c0 c1 c2) (hu : DU u G P E C W c0 c1 c2) (hr : M.1[row]? = some (15, 24)) (hcl : ∀ g t, g < 6 → t < 256 → rb (M.2.2.1 row) g t = cl g t) (hsp : ∀ p, p < 7 → M.2.1 81 p = nI (sp p)) (hp : p < 7) (v4 v5 : Int32) (hJ : DjJ u cl W P m0 fr S p 0 sp) :
    ∃ N sp', f_X7_go_L72 80 row v4 v5 (nI p) (nI 0) M = some (.inl (v4, v5 + 1, N)) ∧ Fr pGo q0 M N ∧ (∀ p, p < 7 → N.2.1 81 p = nI (sp' p)) ∧ DjJ u cl W P m0 fr S p W sp' := by
  have hb := hu.2.1
  unfold f_X7_go_L72 f_X7_go_B115
  obtain ⟨N, k1, k2, sp', k3, k4⟩ := itr_g (f := fun a : (Int32 × sMem) => f_X7_go_K72 80 row v4 v5 (nI p) a.1 a.2) (fun k (s : sMem) => (nI k, s))
    (fun i N => Fr pGo q0 M N ∧ ∃ sp' : Nat → Nat, (∀ p, p < 7 → N.2.1 81 p = nI (sp' p)) ∧ DjJ u cl W P m0 fr S p i sp')
    (fun N => Fr pGo q0 M N ∧ ∃ sp' : Nat → Nat, (∀ p, p < 7 → N.2.1 81 p = nI (sp' p)) ∧ DjJ u cl W P m0 fr S p W sp') W (by omega) (i := 0) (s := M) (by
      rintro i N hi ⟨hF, sp', h3, h4⟩
      try dsimp only
      have hN : CV u N D G P E C W c0 c1 c2 := h.fr (R := fun _ _ => false) hF.fa offD_go offR_0
      unfold f_X7_go_K72
      rw [hN.p80, Option.bind_some, hN.g3, Option.bind_some, hN.nW, Option.bind_some]
      by_cases hiW : W ≤ i
      · right
        obtain rfl : i = W := by omega
        exact ⟨N, by rw [if_pos (nI_le hiW (by omega))], hF, sp', h3, h4⟩
      · left
        refine ⟨by omega, ?_⟩
        rw [if_neg (nI_ge (by omega) (by omega))]
        obtain ⟨r, r1, r2⟩ := c_other hN hu (k := i) (p := p) (by omega) hp
        rw [r1, Option.bind_some, gr80_0 hN.hc, Option.bind_some, ld81 hN.hc hp, Option.bind_some, h3 p hp]
        have hsp2 : sp' p < 200 := h4.2.2.1.1
        rcases r2 with ⟨rfl, r2⟩ | ⟨q, q1, q2, rfl, q3, q4⟩
        · have : f_X7_reach 80 mI (nI i) (nI (sp' p)) row N = some N := by
            unfold f_X7_reach
            rw [sr80 hN.hc, if_pos (by decide)]
          rw [this, Option.bind_some, nl 1, nI_add]
          exact ⟨N, rfl, hF, sp', h3, dj_none h4 (fun q z => absurd z (r2 q))⟩
        · obtain ⟨N2, sp2, b1, b2, b3, b4⟩ := c_reach (cl := cl) (sp := sp') hN hu (by rw [hF.1]; exact hr) (fun g t hg ht => by rw [show N.2.2.1 row = M.2.2.1 row from funext fun k => hF.j rfl]; exact hcl g t hg ht) (fun p hp => ⟨h3 p hp, h4.1.1 p hp⟩) (k := i) (q := q) (m := sp' p) (by omega) (by omega) hsp2
          rw [b1, Option.bind_some, nl 1, nI_add]
          refine ⟨N2, rfl, hF.tr b2, sp2, fun p hp => (b3 p hp).1, ?_⟩
          rcases b4 with ⟨rfl, b4⟩ | ⟨v, v1, v2, v3, rfl⟩
          · exact dj_none h4 (fun q' z v a b c => by rw [q4 q' z]; exact b4 v a b)
          · exact dj_upd hu h4 hp (by omega) q3 q4 v1 v2 v3) (by omega) ⟨Fr.rf, sp, hsp, hJ⟩
  try dsimp only at k1
  rw [k1, Option.bind_some]
  exact ⟨N, sp', rfl, k2, k3, k4⟩
theorem c_go (h : CV u M D G P E C W c0 c1 c2) (hu : DU u G P E C W c0 c1 c2) (hr : M.1[row]? = some (15, 24)) (hcl : ∀ g t, g < 6 → t < 256 → rb (M.2.2.1 row) g t = cl g t) (hfr : fr < P) (hm0 : m0 < 200) :
    ∃ (N : sMem) (sp : Nat → Nat), f_X7_go 80 (nI fr) (nI m0) row M = some N ∧ Fr pGo q0 M N ∧ ∀ p, p < 7 → N.2.1 81 p = nI (sp p) ∧ sp p ≤ 200 ∧ (sp p < 200 → rch u cl W P m0 fr (sp p) p) ∧ ∀ m, m < 200 → rch u cl W P m0 fr m p → sp p ≤ m := by
  have hb := hu.2.1
  have hc := h.hc
  unfold f_X7_go
  rw [sr80 hc, gr80_0 hc, Option.bind_some]
  obtain ⟨M1, a1, a2, a3⟩ := fillI (M := M) (a := 81) (cs81 hc) (by decide) 200
  rw [a1, Option.bind_some]
  have f1 : Fr pGo q0 M M1 := a2
  have h1 : CV u M1 D G P E C W c0 c1 c2 := h.fr (R := fun _ _ => false) f1.fa offD_go offR_0
  have hth : f_X9_isThere (D + 4) (nI fr) M1 = some 1 := by rw [h1.tP, bI_t (by rw [nI_i (by omega), nI_i (by omega)]; omega)]
  rw [h1.p80, Option.bind_some, h1.g2, Option.bind_some, hth, Option.bind_some, if_neg (by decide), gr80_0 h1.hc, Option.bind_some, st81 h1.hc (by omega), Option.bind_some]
  have f2 : Fr pGo q0 M (wrI M1 81 fr (nI m0)) := f1.wi rfl
  have v2 : ∀ p, p < 7 → (wrI M1 81 fr (nI m0)).2.1 81 p = nI (if p = fr then m0 else 200) := fun p hp => by
    by_cases hpf : p = fr
    · rw [if_pos hpf, hpf, wrI_eq]
    · rw [if_neg hpf, wrI_ne (fun z => hpf z.2), a3 p hp]; rfl
  have dj0 : DjI u cl W P m0 fr (fun p => if p = fr then m0 else 200) (upb 0) := by
    refine ⟨fun p hp => ?_, fun p hp hp2 => ?_, by show (if fr = fr then m0 else 200) ≤ m0; rw [if_pos rfl]; exact Nat.le_refl _, fun p hp hS => ?_, fun p q hp hq hS => ?_⟩
    · show (if p = fr then m0 else 200) ≤ 200; split <;> omega
    · dsimp only at hp2 ⊢
      by_cases hpf : p = fr
      · rw [if_pos hpf]; exact ⟨by omega, rch_iff.mpr (Or.inl ⟨rfl, hpf⟩)⟩
      · rw [if_neg hpf] at hp2; omega
    · unfold upb at hS; simp at hS
    · unfold upb at hS; simp at hS
  generalize wrI M1 81 fr (nI m0) = M2 at *
  unfold f_X7_go_L38
  obtain ⟨N, k1, k2, sp, S, k3, k4, k5⟩ := itr_g (f := fun a : (Int32 × Int32 × sMem) => f_X7_go_K38 80 row a.1 a.2.1 a.2.2) (fun k (s : Int32 × sMem) => (s.1, nI k, s.2))
    (fun i x => Fr pGo q0 M x.2 ∧ ∃ (sp : Nat → Nat) (s : Nat), s < 128 ∧ x.1 = nI s ∧ (∀ p, p < 7 → x.2.2.1 81 p = nI (sp p)) ∧ DjI u cl W P m0 fr sp (upb s) ∧ cntN (upb s) 7 = i)
    (fun N => Fr pGo q0 M N ∧ ∃ (sp : Nat → Nat) (S : Nat → Bool), (∀ p, p < 7 → N.2.1 81 p = nI (sp p)) ∧ DjI u cl W P m0 fr sp S ∧ ∀ p, p < 7 → sp p < 200 → S p = true) 7 (by omega) (i := 0) (s := ((0 : Int32), M2)) (by
      rintro i ⟨x, N⟩ hi ⟨hF, sp, s, s1, s2, s3, s4, s5⟩
      dsimp only at hF s2 s3 ⊢
      subst s2
      have hN : CV u N D G P E C W c0 c1 c2 := h.fr (R := fun _ _ => false) hF.fa offD_go offR_0
      unfold f_X7_go_K38
      by_cases h7 : 7 ≤ i
      · right
        obtain rfl : i = 7 := by omega
        exact ⟨N, by rw [if_pos (by decide)], hF, sp, upb s, s3, s4, fun p hp _ => cntN_full (by omega) p hp⟩
      · rw [if_neg (by rw [nl 7, cle (by omega) (by omega)]; omega)]
        obtain ⟨r, r1, r2⟩ := c_near (sp := sp) hN.hc (fun p hp => ⟨s3 p hp, s4.1 p hp⟩) s1
        rw [r1, Option.bind_some]
        rcases r2 with ⟨rfl, r2⟩ | ⟨b, b1, rfl, b3, b4, b5⟩
        · right
          rw [if_pos mIe]
          refine ⟨N, rfl, hF, sp, upb s, s3, s4, fun p hp hp2 => ?_⟩
          rcases r2 p hp with z | z
          · exact z
          · omega
        · left
          refine ⟨by omega, ?_⟩
          have so := set_or s s1 b b1
          rw [if_neg (by rw [show (-1 : Int32) = mI from rfl, cneg (by omega)]; exact id), so.1, nl 0]
          have hJ : DjJ u cl W P m0 fr (upb s) b 0 sp := by
            refine ⟨⟨s4.1, s4.2.1, s4.2.2.1⟩, fun p' hp' hS => ⟨(s4.2.2.2.1 p' hp' hS).1, s4.2.2.2.2 p' b hp' b1 hS b3, (s4.2.2.2.1 p' hp' hS).2⟩, ⟨b4, fun k q hk => by omega⟩, fun q hq hS _ => b5 q hq hS⟩
          obtain ⟨N2, sp2, d1, d2, d3, d4⟩ := c_ways hN hu (by rw [hF.1]; exact hr) (fun g t hg ht => by rw [show N.2.2.1 row = M.2.2.1 row from funext fun k => hF.j rfl]; exact hcl g t hg ht) s3 b1 (nI (s ||| 2 ^ b)) (nI i) hJ
          rw [d1, nl 1, nI_add]
          refine ⟨(nI (s ||| 2 ^ b), N2), rfl, hF.tr d2, sp2, s ||| 2 ^ b, so.2, rfl, d3, ?_, ?_⟩
          · have hS : ∀ p, p < 7 → (upb (s ||| 2 ^ b) p = true ↔ (upb s p = true ∨ p = b)) := fun p hp => by
              rw [upb_or s s1 b b1 p hp, Bool.or_eq_true, decide_eq_true_eq]
            refine ⟨d4.1.1, d4.1.2.1, d4.1.2.2, fun p hp hp2 => ?_, fun p q hp hq hp2 hq2 => ?_⟩
            · rcases (hS p hp).mp hp2 with z | z
              · exact ⟨(d4.2.1 p hp z).1, (d4.2.1 p hp z).2.2⟩
              · subst z; exact ⟨d4.2.2.1.1, fun k q hk he => d4.2.2.1.2 k q hk hk he⟩
            · have hq3 : upb s q = false ∧ q ≠ b := by
                constructor
                · cases z : upb s q with
                  | false => rfl
                  | true => rw [(hS q hq).mpr (Or.inl z)] at hq2; cases hq2
                · intro z; rw [(hS q hq).mpr (Or.inr z)] at hq2; cases hq2
              have h6 := d4.2.2.2 q hq hq3.1 hq3.2
              rcases (hS p hp).mp hp2 with z | z
              · have := (d4.2.1 p hp z).2.1; omega
              · rw [z]; exact h6
          · have : cntN (fun q => !(upb s q)) 7 = cntN (fun q => !(upb (s ||| 2 ^ b) q)) 7 + 1 ∧ cntN (upb s) 7 + cntN (fun q => !(upb s q)) 7 = 7 ∧ cntN (upb (s ||| 2 ^ b)) 7 + cntN (fun q => !(upb (s ||| 2 ^ b) q)) 7 = 7 := by
              have cg : ∀ (f g : Nat → Bool), (∀ q, q < 7 → f q = g q) → cntN f 7 = cntN g 7 := fun f g h => cntN_cong h
              refine ⟨?_, cntN_comp _ _, cntN_comp _ _⟩
              rw [cg (fun q => !(upb (s ||| 2 ^ b) q)) (fun q => !(upb s q || decide (q = b))) (fun q hq => by rw [upb_or s s1 b b1 q hq])]
              refine cntN_off b1 (by rw [b3]; rfl) (by simp) (fun j hj => by simp [hj])
            omega) (by omega) ⟨f2, _, 0, by decide, rfl, v2, dj0, by decide⟩
  try dsimp only at k1
  rw [nl 0]
  rw [show ((0 : Int32), nI 0, M2) = (nI 0, nI 0, M2) from rfl] at k1
  rw [k1]
  refine ⟨N, sp, rfl, k2, fun p hp => ⟨k3 p hp, k4.1 p hp, fun z => (k4.2.1 p hp z).2, fun m hm z => dj_end hu k4 k5 m hm p hp z⟩⟩
theorem c_arrival (hc : ClsS M.1 M.2.2.2) {sp : Nat → Nat} (hsp : ∀ p, p < 7 → M.2.1 81 p = nI (sp p) ∧ sp p ≤ 200 ∧ (sp p < 200 → rch u cl W P m0 fr (sp p) p) ∧ ∀ m, m < 200 → rch u cl W P m0 fr m p → sp p ≤ m) (hto : to < 7) : ∃ r, f_X7_arrival 80 (nI to) M = some r ∧ DrvP u cl W P m0 fr to r := by
  obtain ⟨h1, h2, h3, h4⟩ := hsp to hto
  unfold f_X7_arrival f_X7_arrival_B26 f_X7_arrival_B27
  rw [sr80 hc, if_neg (nI_pos (by omega)), if_neg (by rw [nl 7, cle (by omega) (by omega)]; omega), gr80_0 hc, Option.bind_some, ld81 hc hto, Option.bind_some, h1]
  by_cases h : 200 ≤ sp to
  · rw [if_pos (by rw [nl 200, cle (by omega) (by omega)]; exact h), if_pos rfl]
    exact ⟨_, rfl, Or.inl ⟨rfl, fun m hm z => by have := h4 m hm z; omega⟩⟩
  · rw [if_neg (by rw [nl 200, cle (by omega) (by omega)]; exact h), if_neg (by decide), Option.bind_some, ld81 hc hto, Option.bind_some, h1]
    exact ⟨_, rfl, Or.inr ⟨sp to, by omega, rfl, h3 (by omega), fun j hj z => by have := h4 j (by omega) z; omega⟩⟩
end GP
