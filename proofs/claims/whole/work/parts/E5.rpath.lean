/-! THE REFERENCE's search: what it finds, and how it changes the ways on -/
/-- the row of those to go from, and by whom each closing was found -/
def BFk (n : Nat) (R : Nat → Nat → Prop) (c : Nat → Option Nat) (a : Nat) (Q : Nat → Nat) (fb : Nat → Option Nat) (p l : Nat) : Prop :=
  (1 ≤ l ∧ Q 0 = a ∧ (∀ t, t < l → Q t < n) ∧ ∀ t t', t < l → t' < l → Q t = Q t' → t = t') ∧
  (∀ j x, j < n → fb j = some x → R x j ∧ (∃ t, t < p ∧ t < l ∧ Q t = x) ∧ ∃ t', t' < l ∧ c j = some (Q t')) ∧
  ∀ t, 1 ≤ t → t < l → ∃ j t', j < n ∧ c j = some (Q t) ∧ t' < t ∧ fb j = some (Q t')
def CGc (n : Nat) (c g : Nat → Option Nat) : Prop := ∀ i, i < n → ∀ j, g i = some j ↔ j < n ∧ c j = some i
/-- while ways on are changed: b has none yet -/
def CHS (n : Nat) (R : Nat → Nat → Prop) (S : Nat → Prop) (Q : Nat → Nat) (fb c g : Nat → Option Nat) (b t : Nat) : Prop :=
  (b < n ∧ fb b = some (Q t) ∧ ∀ t', t' ≤ t → Q t' < n) ∧ (∀ j i, j < n → j ≠ b → c j = some i → i < n ∧ R i j) ∧ (∀ j j' i, j < n → j' < n → j ≠ b → j' ≠ b → c j = some i → c j' = some i → j = j') ∧ (∀ i, S i ↔ ∃ j, j < n ∧ j ≠ b ∧ c j = some i) ∧ (∀ i, i < n → ∀ j, g i = some j ↔ j < n ∧ j ≠ b ∧ c j = some i) ∧ ∀ t', 1 ≤ t' → t' ≤ t → ∃ j t'', g (Q t') = some j ∧ t'' < t' ∧ fb j = some (Q t'')
section RPA
variable {n a b k l p t T : Nat} {R : Nat → Nat → Prop} {S : Nat → Prop} {Q : Nat → Nat} {fb c g : Nat → Option Nat}
theorem opt_none {o : Option Nat} (h : ∀ j, o ≠ some j) : o = none := by
  cases o with
  | none => rfl
  | some j => exact absurd rfl (h j)
theorem ch_last (h : CHS n R S Q fb c g b 0) (hR : ∀ j x, j < n → fb j = some x → R x j) (ha : ¬ S (Q 0)) : g (Q 0) = none ∧ MTk n R (updO c b (Q 0)) (fun i => S i ∨ i = Q 0) ∧ CGc n (updO c b (Q 0)) (updO g (Q 0) b) := by
  obtain ⟨⟨b1, b2, b3⟩, h1, h2, h3, h4, _⟩ := h
  have hq := b3 0 (Nat.le_refl _)
  have no : ∀ j, j < n → j ≠ b → c j ≠ some (Q 0) := fun j hj hjb e => ha ((h3 _).mpr ⟨j, hj, hjb, e⟩)
  refine ⟨opt_none (fun j e => ?_), ⟨fun j i hj e => ?_, fun j j' i hj hj' e e' => ?_, fun i => ⟨?_, ?_⟩⟩, fun i hi j => ⟨fun e => ?_, ?_⟩⟩
  · obtain ⟨e1, e2, e3⟩ := (h4 _ hq j).mp e
    exact no j e1 e2 e3
  · by_cases q : j = b
    · subst q
      rw [updO_e] at e
      cases e
      exact ⟨hq, hR _ _ hj b2⟩
    · rw [updO_n q] at e
      exact h1 j i hj q e
  · by_cases q : j = b
    · by_cases q' : j' = b
      · rw [q, q']
      · rw [q, updO_e] at e
        rw [updO_n q', ← e] at e'
        exact absurd e' (no j' hj' q')
    · by_cases q' : j' = b
      · rw [q', updO_e] at e'
        rw [updO_n q, ← e'] at e
        exact absurd e (no j hj q)
      · rw [updO_n q] at e
        rw [updO_n q'] at e'
        exact h2 j j' i hj hj' q q' e e'
  · rintro (z | rfl)
    · obtain ⟨j, j1, j2, j3⟩ := (h3 i).mp z
      exact ⟨j, j1, by rw [updO_n j2]; exact j3⟩
    · exact ⟨b, b1, updO_e⟩
  · rintro ⟨j, j1, j2⟩
    by_cases q : j = b
    · rw [q, updO_e] at j2
      exact Or.inr (Option.some.inj j2).symm
    · rw [updO_n q] at j2
      exact Or.inl ((h3 i).mpr ⟨j, j1, q, j2⟩)
  · by_cases q : i = Q 0
    · rw [q, updO_e] at e
      obtain rfl := Option.some.inj e
      exact ⟨b1, by rw [updO_e, q]⟩
    · rw [updO_n q] at e
      obtain ⟨e1, e2, e3⟩ := (h4 i hi j).mp e
      exact ⟨e1, by rw [updO_n e2]; exact e3⟩
  · rintro ⟨j1, j2⟩
    by_cases q : j = b
    · rw [q, updO_e] at j2
      rw [← Option.some.inj j2, updO_e, q]
    · rw [updO_n q] at j2
      rw [updO_n (fun z => by rw [z] at j2; exact no j j1 q j2)]
      exact (h4 i hi j).mpr ⟨j1, q, j2⟩
theorem ch_step (h : CHS n R S Q fb c g b t) (ht : 1 ≤ t) (hR : ∀ j x, j < n → fb j = some x → R x j) (hQ : ∀ s s', s ≤ t → s' ≤ t → Q s = Q s' → s = s') : ∃ j t'', g (Q t) = some j ∧ t'' < t ∧ CHS n R S Q fb (updO c b (Q t)) (updO g (Q t) b) j t'' := by
  obtain ⟨⟨b1, b2, b3⟩, h1, h2, h3, h4, h5⟩ := h
  have hq := b3 t (Nat.le_refl _)
  obtain ⟨j, t'', g1, g2, g3⟩ := h5 t ht (Nat.le_refl _)
  obtain ⟨j1, j2, j3⟩ := (h4 _ hq j).mp g1
  have bj : b ≠ j := fun z => j2 z.symm
  have un : ∀ i, i < n → i ≠ b → c i = some (Q t) → i = j := fun i hi hib e => h2 i j _ hi j1 hib j2 e j3
  refine ⟨j, t'', g1, g2, ⟨j1, g3, fun t' ht' => b3 t' (by omega)⟩, fun i x hi hij e => ?_, fun i i' x hi hi' q q' e e' => ?_, fun x => ⟨fun z => ?_, ?_⟩, fun x hx i => ⟨fun e => ?_, ?_⟩, fun t' a1 a2 => ?_⟩
  · by_cases q : i = b
    · subst q
      rw [updO_e] at e
      cases e
      exact ⟨hq, hR _ _ hi b2⟩
    · rw [updO_n q] at e
      exact h1 i x hi q e
  · by_cases w : i = b
    · by_cases w' : i' = b
      · rw [w, w']
      · rw [w, updO_e] at e
        rw [updO_n w', ← e] at e'
        exact absurd (un i' hi' w' e') q'
    · by_cases w' : i' = b
      · rw [w', updO_e] at e'
        rw [updO_n w, ← e'] at e
        exact absurd (un i hi w e) q
      · rw [updO_n w] at e
        rw [updO_n w'] at e'
        exact h2 i i' x hi hi' w w' e e'
  · obtain ⟨i, i1, i2, i3⟩ := (h3 x).mp z
    by_cases q : i = j
    · rw [q, j3] at i3
      exact ⟨b, b1, bj, by rw [updO_e]; exact i3⟩
    · exact ⟨i, i1, q, by rw [updO_n i2]; exact i3⟩
  · rintro ⟨i, i1, i2, i3⟩
    by_cases q : i = b
    · rw [q, updO_e] at i3
      obtain rfl := Option.some.inj i3
      exact (h3 _).mpr ⟨j, j1, j2, j3⟩
    · rw [updO_n q] at i3
      exact (h3 x).mpr ⟨i, i1, q, i3⟩
  · by_cases q : x = Q t
    · rw [q, updO_e] at e
      obtain rfl := Option.some.inj e
      exact ⟨b1, bj, by rw [updO_e, q]⟩
    · rw [updO_n q] at e
      obtain ⟨e1, e2, e3⟩ := (h4 x hx i).mp e
      exact ⟨e1, fun z => q (by rw [z, j3] at e3; exact (Option.some.inj e3).symm), by rw [updO_n e2]; exact e3⟩
  · rintro ⟨i1, i2, i3⟩
    by_cases q : i = b
    · rw [q, updO_e] at i3
      rw [← Option.some.inj i3, updO_e, q]
    · rw [updO_n q] at i3
      rw [updO_n (fun z => by rw [z] at i3; exact i2 (un i i1 q i3))]
      exact (h4 x hx i).mpr ⟨i1, q, i3⟩
  · obtain ⟨j', s, s1, s2, s3⟩ := h5 t' a1 (by omega)
    refine ⟨j', s, ?_, s2, s3⟩
    rw [updO_n (fun z => by have := hQ t' t (by omega) (Nat.le_refl _) z; omega)]
    exact s1
/-- one more is found, and its keeper's closing stands in the row -/
theorem bfs_push {x y j : Nat} {Q' : Nat → Nat} {fb' : Nat → Option Nat} (hM : MTk n R c S) (ha : ¬ S a) (h : BFk n R c a Q fb (k + 1) l) (hk : k < l) (hx : Q k = x) (hj : j < n) (hfb : fb j = none) (hR : R x j) (hy : c j = some y) (hQ' : ∀ t, Q' t = if t = l then y else Q t) (hfb' : ∀ i, fb' i = if i = j then some x else fb i) : BFk n R c a Q' fb' (k + 1) (l + 1) ∧ l + 1 ≤ n := by
  obtain ⟨⟨l1, a1, a2, a3⟩, h1, h2⟩ := h
  have hyn := (hM.1 j y hj hy).1
  have qe : ∀ t, t < l → Q' t = Q t := fun t ht => by rw [hQ', if_neg (by omega)]
  have ql : Q' l = y := by rw [hQ', if_pos rfl]
  have nw : ∀ t, t < l → Q t ≠ y := fun t ht e => by
    rcases Nat.eq_zero_or_pos t with z | z
    · rw [z, a1] at e
      exact ha ((hM.2.2 a).mpr ⟨j, hj, by rw [e]; exact hy⟩)
    · obtain ⟨j', t', e1, e2, e3, e4⟩ := h2 t z ht
      rw [e] at e2
      have := hM.2.1 j' j y e1 hj e2 hy
      rw [this, hfb] at e4
      cases e4
  have ds : ∀ t t', t < l + 1 → t' < l + 1 → Q' t = Q' t' → t = t' := fun t t' ht ht' e => by
    by_cases q : t = l
    · by_cases q' : t' = l
      · rw [q, q']
      · rw [q, ql, qe t' (by omega)] at e
        exact absurd e.symm (nw t' (by omega))
    · by_cases q' : t' = l
      · rw [q', ql, qe t (by omega)] at e
        exact absurd e (nw t (by omega))
      · rw [qe t (by omega), qe t' (by omega)] at e
        exact a3 t t' (by omega) (by omega) e
  have rg : ∀ t, t < l + 1 → Q' t < n := fun t ht => by
    by_cases q : t = l
    · rw [q, ql]; exact hyn
    · rw [qe t (by omega)]; exact a2 t (by omega)
  refine ⟨⟨⟨by omega, by rw [qe 0 (by omega)]; exact a1, rg, ds⟩, fun i z hi e => ?_, fun t t1 t2 => ?_⟩, pigK n (l + 1) Q' rg ds⟩
  · rw [hfb'] at e
    by_cases q : i = j
    · rw [if_pos q] at e
      obtain rfl := Option.some.inj e
      rw [q]
      exact ⟨hR, ⟨k, by omega, by omega, by rw [qe k hk]; exact hx⟩, l, by omega, by rw [ql]; exact hy⟩
    · rw [if_neg q] at e
      obtain ⟨e1, ⟨s, s1, s2, s3⟩, s', s4, s5⟩ := h1 i z hi e
      exact ⟨e1, ⟨s, s1, by omega, by rw [qe s s2]; exact s3⟩, s', by omega, by rw [qe s' s4]; exact s5⟩
  · by_cases q : t = l
    · refine ⟨j, k, hj, by rw [q, ql]; exact hy, by omega, ?_⟩
      rw [hfb', if_pos rfl, qe k hk, hx]
    · obtain ⟨i, s, i1, i2, i3, i4⟩ := h2 t t1 (by omega)
      refine ⟨i, s, i1, by rw [qe t (by omega)]; exact i2, i3, ?_⟩
      rw [hfb', if_neg (fun z => by rw [z, hfb] at i4; cases i4), qe s (by omega)]
      exact i4
/-- a free one is found: the ways on may be changed -/
theorem bfs_free {x j : Nat} {fb' : Nat → Option Nat} (hM : MTk n R c S) (hG : CGc n c g) (h : BFk n R c a Q fb (k + 1) l) (hk : k < l) (hx : Q k = x) (hj : j < n) (hfb : fb j = none) (hy : c j = none) (hR : R x j) (hfb' : ∀ i, fb' i = if i = j then some x else fb i) : CHS n R S Q fb' c g j k ∧ ∀ i z, i < n → fb' i = some z → R z i := by
  obtain ⟨⟨l1, a1, a2, a3⟩, h1, h2⟩ := h
  have nb : ∀ i z, c i = some z → i ≠ j := fun i z e q => by rw [q, hy] at e; cases e
  refine ⟨⟨⟨hj, by rw [hfb', if_pos rfl, hx], fun t' ht' => a2 t' (by omega)⟩, fun i z hi _ e => hM.1 i z hi e, fun i i' z hi hi' _ _ e e' => hM.2.1 i i' z hi hi' e e', fun z => ?_, fun z hz i => ?_, fun t' s1 s2 => ?_⟩, fun i z hi e => ?_⟩
  · rw [hM.2.2 z]
    exact ⟨fun ⟨i, i1, i2⟩ => ⟨i, i1, nb i z i2, i2⟩, fun ⟨i, i1, _, i2⟩ => ⟨i, i1, i2⟩⟩
  · rw [hG z hz i]
    exact ⟨fun ⟨i1, i2⟩ => ⟨i1, nb i z i2, i2⟩, fun ⟨i1, _, i2⟩ => ⟨i1, i2⟩⟩
  · obtain ⟨i, s, i1, i2, i3, i4⟩ := h2 t' s1 (by omega)
    refine ⟨i, s, (hG _ (a2 t' (by omega)) i).mpr ⟨i1, i2⟩, i3, ?_⟩
    rw [hfb', if_neg (nb i _ i2)]
    exact i4
  · rw [hfb'] at e
    by_cases q : i = j
    · rw [if_pos q] at e
      rw [← Option.some.inj e, q]
      exact hR
    · rw [if_neg q] at e
      exact (h1 i z hi e).1
/-- nothing is left to go from -/
theorem bfs_hv (h : BFk n R c a Q fb l l) (hc : ∀ t, t < l → ∀ j, j < n → R (Q t) j → fb j ≠ none) : HVk n R c a (fun j => fb j ≠ none) := by
  obtain ⟨⟨l1, a1, a2, a3⟩, h1, h2⟩ := h
  refine ⟨fun j hj e => hc 0 (by omega) j hj (by rw [a1]; exact e), fun j hj hV => ?_⟩
  cases q : fb j with
  | none => exact absurd q hV
  | some x =>
    obtain ⟨_, _, t', t1, t2⟩ := h1 j x hj q
    exact ⟨Q t', t2, fun j' hj' e => hc t' t1 j' hj' e⟩
end RPA
