/-! THE REFERENCE counts its keepers -/
section RKE
variable {M N : sMem} {n k : Nat} {vF vL vM : Nat → Int32} {c g : Nat → Option Nat}
theorem KRk.fr {X : Nat → Nat → Bool} (h : KRk n c g M) (hF : Fr X q0 M N) (h1 : ∀ k, X 149 k = false) (h2 : ∀ k, X 150 k = false) : KRk n c g N := fun j hj => by
  rw [hF.i (h2 j), hF.i (h1 j)]
  exact h j hj
theorem r_match (hs : RefS M.1 M.2.2.2) (hD : RDm n vF vL vM M) (hK : KRk n c g M) (hM : MTk n (RelK vF vL vM) c (SgK n (RelK vF vL vM) k)) (hG : CGc n c g) (hk : k < n) : ∃ r N, f_X12_isMatched 94 (nI k) M = some (r, N) ∧ Fr pMt q0 M N ∧ ((r = 0 ∧ KRk n c g N ∧ ∃ V, HVk n (RelK vF vL vM) c k V) ∨ (r = 1 ∧ ∃ c' g', KRk n c' g' N ∧ MTk n (RelK vF vL vM) c' (fun x => SgK n (RelK vF vL vM) k x ∨ x = k) ∧ CGc n c' g')) := by
  have hn := hD.1
  have ha : ¬ SgK n (RelK vF vL vM) k k := fun z => by
    have := sg_lt z
    omega
  obtain ⟨N0, f1, f2, f3⟩ := itr_up (f := fun a : (Int32 × sMem) => f_X12_isMatched_K2 94 (nI k) a.1 a.2) (fun j N => Fr pFq q0 M N ∧ ∀ i, i < j → N.2.1 151 i = mI) (fun N => Fr pFq q0 M N ∧ ∀ i, i < n → N.2.1 151 i = mI) n (by omega) (by
    rintro j N hj ⟨i1, i2⟩
    have hsN := i1.hs hs
    dsimp only
    unfold f_X12_isMatched_K2
    rw [gi94 hsN, Option.bind_some, i1.i rfl, hD.2.1]
    by_cases q : j = n
    · right
      rw [if_pos (nI_le (show n ≤ j by omega) (by omega))]
      exact ⟨N, rfl, i1, fun i hi => i2 i (by omega)⟩
    · left
      refine ⟨by omega, ?_⟩
      rw [if_neg (nI_ge (by omega) (by omega)), gr94_78 hsN, Option.bind_some, st151 hsN (by omega), Option.bind_some, nI_1]
      refine ⟨_, rfl, i1.wi rfl, fun i hi => ?_⟩
      by_cases w : i = j
      · rw [w, wrI_eq]; rfl
      · rw [wrI_ne (by omega)]; exact i2 i (by omega)) (i := 0) (s := M) (by omega) ⟨Fr.rf, fun i hi => by omega⟩
  replace f1 : sItr (fun a : (Int32 × sMem) => f_X12_isMatched_K2 94 (nI k) a.1 a.2) sFuel (0, M) = some N0 := f1
  have hs0 := f2.hs hs
  obtain ⟨M17, hM17⟩ : ∃ X, X = wrI N0 152 0 (nI k) := ⟨_, rfl⟩
  have st : stI N0 152 0 (nI k) = some M17 := by rw [hM17]; exact st152 (j := 0) hs0 (by decide)
  have F17 : Fr pFq q0 M M17 := by rw [hM17]; exact f2.wi rfl
  obtain ⟨v, v1, v2⟩ := itr_g (f := fun a : (Int32 × Int32 × sMem) => f_X12_isMatched_K34 94 a.1 a.2.1 a.2.2) (fun p (s : Nat × sMem) => (nI p, nI s.1, s.2)) (fun p s => p ≤ s.1 ∧ s.1 ≤ n ∧ Fr pFq q0 M s.2 ∧ ∃ Q fb, BFk n (RelK vF vL vM) c k Q fb p s.1 ∧ RQk n Q fb s.1 s.2 ∧ ∀ t, t < p → ∀ j, j < n → RelK vF vL vM (Q t) j → fb j ≠ none) (fun v => match v with
      | .inl q => FND n (RelK vF vL vM) (SgK n (RelK vF vL vM) k) k c g M q
      | .inr q => q.1 = 0 ∧ Fr pFq q0 M q.2 ∧ ∃ V, HVk n (RelK vF vL vM) c k V) n (by omega) (i := 0) (s := (1, M17)) (by
    rintro p ⟨l, N⟩ hp ⟨i1, i2, i3, Q, fb, i4, i5, i6⟩
    dsimp only at i1 i2 i3 i4 i5 ⊢
    have hsN := i3.hs hs
    unfold f_X12_isMatched_K34
    by_cases q : l ≤ p
    · right
      rw [if_pos (nI_le q (by omega))]
      obtain rfl : p = l := by omega
      exact ⟨_, rfl, rfl, i3, _, bfs_hv i4 i6⟩
    · have hpl : p < l := by omega
      have i4' : BFk n (RelK vF vL vM) c k Q fb (p + 1) l := ⟨i4.1, fun j x hj e => by
        obtain ⟨e1, ⟨t, t1, t2, t3⟩, e3⟩ := i4.2.1 j x hj e
        exact ⟨e1, ⟨t, by omega, t2, t3⟩, e3⟩, i4.2.2⟩
      obtain ⟨w, w1, w2⟩ := r_inner (M := N) hs hD hK hM hG ha i3 i4' i5 hpl i2 i6
      unfold f_X12_isMatched_L53
      rw [if_neg (nI_ge (by omega) (by omega)), gr94_79 hsN, Option.bind_some, ld152 hsN (by omega), Option.bind_some, i5.1 p hpl, nI_1, w1, Option.bind_some]
      match w, w2 with
      | .inl q, w2 =>
        right
        exact ⟨.inl q, rfl, w2⟩
      | .inr q, ⟨l', Q', fb', e1, e2, e3, e4, e5, e6, e7⟩ =>
        left
        refine ⟨by omega, (l', q.2), ?_, by omega, e6, e2, Q', fb', e3, e4, e7⟩
        show f_X12_isMatched_B144 94 (nI (p + 1)) q.1 q.2 = _
        unfold f_X12_isMatched_B144
        rw [e1]) (by omega) ⟨by omega, by show 1 ≤ n; omega, F17, fun _ => k, fun _ => none, ⟨⟨Nat.le_refl _, rfl, fun t _ => hk, fun t t' h1 h2 _ => by
        have h1' : t < 1 := h1
        have h2' : t' < 1 := h2
        omega⟩, fun j x _ e => (by cases e), fun t h1 h2 => by
        have h2' : t < 1 := h2
        omega⟩, ⟨fun t ht => by
        have ht' : t < 1 := ht
        obtain rfl : t = 0 := by omega
        show M17.2.1 152 0 = nI k
        rw [hM17, wrI_eq], fun j hj => by
        show M17.2.1 151 j = oI none
        rw [hM17, wrI_ne (by omega), f3 j hj]; rfl⟩, fun t ht => by omega⟩
  replace v1 : sItr (fun a : (Int32 × Int32 × sMem) => f_X12_isMatched_K34 94 a.1 a.2.1 a.2.2) sFuel (0, 1, M17) = some v := v1
  unfold f_X12_isMatched f_X12_isMatched_L2 f_X12_isMatched_B23 f_X12_isMatched_L34
  rw [sr94 hs, f1, Option.bind_some, gr94_79 hs0, Option.bind_some, st, Option.bind_some, v1, Option.bind_some]
  match v, v2 with
  | .inl q, ⟨b, t, Q, fb, e1, e2, e3, e4, e5, e6, e7, e8⟩ =>
    obtain ⟨N', c', g', d1, d2, d3, d4, d5⟩ := r_changes (M := q.2) (e3.hs hs) hn e4 (hK.fr e3 (fun _ => rfl) (fun _ => rfl)) e7 e8 (by rw [e5]; exact ha) e6 e2
    rw [e5] at d4
    refine ⟨1, N', ?_, (e3.mono (fun _ _ z => pMt_5 z) (fun _ _ z => z)).tr (d2.mono (fun _ _ z => pMt_4 z) (fun _ _ z => z)), Or.inr ⟨rfl, c', g', d3, d4, d5⟩⟩
    show f_X12_isMatched_B114 94 q.1 q.2 = _
    unfold f_X12_isMatched_B114
    rw [e1, d1, Option.bind_some]
  | .inr q, ⟨e1, e2, e3⟩ =>
    exact ⟨q.1, q.2, rfl, e2.mono (fun _ _ z => pMt_5 z) (fun _ _ z => z), Or.inl ⟨e1, hK.fr e2 (fun _ => rfl) (fun _ => rfl), e3⟩⟩
theorem r_keepL (hs : RefS M.1 M.2.2.2) (hD : RDm n vF vL vM M) : ∃ N, f_X12_keepers_L33 94 0 M = some (nI (n - ndK n (RelK vF vL vM) n), N) ∧ Fr pMt q0 M N := by
  have hn := hD.1
  obtain ⟨N0, f1, f2, f3⟩ := itr_up (f := fun a : (Int32 × sMem) => f_X12_keepers_K33 94 a.1 a.2) (fun j N => Fr pMt q0 M N ∧ ∀ i, i < j → N.2.1 149 i = mI ∧ N.2.1 150 i = mI) (fun N => Fr pMt q0 M N ∧ ∀ i, i < n → N.2.1 149 i = mI ∧ N.2.1 150 i = mI) n (by omega) (by
    rintro j N hj ⟨i1, i2⟩
    have hsN := i1.hs hs
    dsimp only
    unfold f_X12_keepers_K33
    rw [gi94 hsN, Option.bind_some, i1.i rfl, hD.2.1]
    by_cases q : j = n
    · right
      rw [if_pos (nI_le (show n ≤ j by omega) (by omega))]
      exact ⟨N, rfl, i1, fun i hi => i2 i (by omega)⟩
    · left
      refine ⟨by omega, ?_⟩
      have h1 : RefS (wrI N 149 j (-1)).1 (wrI N 149 j (-1)).2.2.2 := hsN
      rw [if_neg (nI_ge (by omega) (by omega)), gr94_76 hsN, Option.bind_some, st149 hsN (by omega), Option.bind_some, gr94_77 h1, Option.bind_some, st150 h1 (by omega), Option.bind_some, nI_1]
      refine ⟨_, rfl, (i1.wi rfl).wi rfl, fun i hi => ?_⟩
      by_cases w : i = j
      · rw [w]
        exact ⟨by rw [wrI_ne (by omega), wrI_eq]; rfl, by rw [wrI_eq]; rfl⟩
      · obtain ⟨y1, y2⟩ := i2 i (by omega)
        exact ⟨by rw [wrI_ne (by omega), wrI_ne (by omega)]; exact y1, by rw [wrI_ne (by omega), wrI_ne (by omega)]; exact y2⟩) (i := 0) (s := M) (by omega) ⟨Fr.rf, fun i hi => by omega⟩
  replace f1 : sItr (fun a : (Int32 × sMem) => f_X12_keepers_K33 94 a.1 a.2) sFuel (0, M) = some N0 := f1
  obtain ⟨b, b1, b2, b3⟩ := itr_g (f := fun a : (Int32 × Int32 × sMem) => f_X12_keepers_K68 94 a.1 a.2.1 a.2.2) (fun k (N : sMem) => (nI (n - ndK n (RelK vF vL vM) k), nI k, N)) (fun k N => Fr pMt q0 M N ∧ ∃ c g, KRk n c g N ∧ MTk n (RelK vF vL vM) c (SgK n (RelK vF vL vM) k) ∧ CGc n c g) (fun r => r.1 = nI (n - ndK n (RelK vF vL vM) n) ∧ Fr pMt q0 M r.2) n (by omega) (i := 0) (s := N0) (by
    rintro k N hk ⟨i1, c, g, i2, i3, i4⟩
    have hsN := i1.hs hs
    have hDN := hD.fr i1 (fun a k h => pMt_lo h)
    dsimp only
    unfold f_X12_keepers_K68
    rw [gi94 hsN, Option.bind_some, hDN.2.1]
    by_cases q : k = n
    · right
      rw [if_pos (nI_le (show n ≤ k by omega) (by omega))]
      exact ⟨_, rfl, by rw [q], i1⟩
    · left
      have hkn : k < n := by omega
      refine ⟨hkn, ?_⟩
      have hnd := nd_le (n := n) (R := RelK vF vL vM) k
      obtain ⟨r, N', r1, r2, r3⟩ := r_match hsN hDN i2 i3 i4 hkn
      rw [if_neg (nI_ge (by omega) (by omega)), r1]
      dsimp only [Option.bind_some]
      unfold f_X12_keepers_B87
      rw [nI_1]
      rcases r3 with ⟨rfl, e1, V, e2⟩ | ⟨rfl, c', g', e1, e2, e3⟩
      · rw [if_pos rfl]
        obtain ⟨m1, m2⟩ := sg_n i3 e2
        rw [m2]
        exact ⟨N', rfl, i1.tr r2, c, g, e1, m1, i4⟩
      · rw [if_neg (by decide), less1k (by omega) (by omega)]
        obtain ⟨m1, m2⟩ := sg_y e2
        rw [m2, Nat.sub_add_eq]
        exact ⟨N', rfl, i1.tr r2, c', g', e1, m1, e3⟩) (by omega) ⟨f2, fun _ => none, fun _ => none, fun j hj => ⟨by rw [(f3 j hj).2]; rfl, by rw [(f3 j hj).1]; rfl⟩, ⟨fun j i _ e => (by cases e), fun j j' i _ _ e => (by cases e), fun i => ⟨fun z => False.elim z, fun ⟨j, _, e⟩ => by cases e⟩⟩, fun i _ j => ⟨fun e => (by cases e), fun ⟨_, e⟩ => by cases e⟩⟩
  have hs0 := f2.hs hs
  refine ⟨b.2, ?_, b3⟩
  unfold f_X12_keepers_L33 f_X12_keepers_B61 f_X12_keepers_L68
  replace b1 : sItr (fun a : (Int32 × Int32 × sMem) => f_X12_keepers_K68 94 a.1 a.2.1 a.2.2) sFuel (nI n, 0, N0) = some b := b1
  rw [f1, Option.bind_some, gi94 hs0, Option.bind_some, (hD.fr f2 (fun a k h => pMt_lo h)).2.1, b1, Option.bind_some, ← b2]
end RKE
