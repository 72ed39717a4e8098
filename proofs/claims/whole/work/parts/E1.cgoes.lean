/-! THE CLASS looks for a way on: what finding one does -/
/-- x has found a way on, by changing others that are not yet tried -/
def ASK (n : Nat) (R : Nat → Nat → Prop) (x : Nat) (b : Nat → Option Nat) (T : Nat → Bool) (b' : Nat → Option Nat) : Prop :=
  (∀ j, T j = true → b' j = b j) ∧ (∀ j i, j < n → b' j = some i → i < n ∧ R i j) ∧ (∀ j j' i, j < n → j' < n → T j = false → T j' = false → b' j = some i → b' j' = some i → j = j') ∧ (∀ i, (∃ j, j < n ∧ T j = false ∧ b' j = some i) ↔ (∃ j, j < n ∧ T j = false ∧ b j = some i) ∨ i = x) ∧ ∃ f, f < n ∧ b f = none ∧ ∀ j, (b' j).isSome = ((b j).isSome || decide (j = f))
/-- what holds as one looks: b is a way on for each but those tried, and for x not yet -/
def PSC (n : Nat) (R : Nat → Nat → Prop) (x : Nat) (b : Nat → Option Nat) (T : Nat → Bool) : Prop :=
  (∀ j i, j < n → b j = some i → i < n ∧ R i j) ∧ (∀ j j' i, j < n → j' < n → T j = false → T j' = false → b j = some i → b j' = some i → j = j') ∧ ∀ j, j < n → T j = false → b j ≠ some x
section ASK
variable {n x y nx k : Nat} {R : Nat → Nat → Prop} {b b1 : Nat → Option Nat} {T T1 T2 : Nat → Bool}
theorem asc_free (h : PSC n R x b T) (hx : x < n) (hn : nx < n) (hT : T nx = false) (hR : R x nx) (hb : b nx = none) : ASK n R x b T (updO b nx x) := by
  obtain ⟨h1, h2, h3⟩ := h
  refine ⟨fun j hj => updO_n (fun z => by subst z; rw [hT] at hj; cases hj), fun j i hj e => ?_, fun j j' i hj hj' t t' e e' => ?_, fun i => ⟨?_, ?_⟩, nx, hn, hb, fun j => ?_⟩
  · by_cases q : j = nx
    · subst q
      rw [updO_e] at e
      cases e
      exact ⟨hx, hR⟩
    · rw [updO_n q] at e
      exact h1 j i hj e
  · by_cases q : j = nx
    · by_cases q' : j' = nx
      · rw [q, q']
      · rw [q, updO_e] at e
        rw [updO_n q', ← e] at e'
        exact absurd e' (h3 j' hj' t')
    · by_cases q' : j' = nx
      · rw [q', updO_e] at e'
        rw [updO_n q, ← e'] at e
        exact absurd e (h3 j hj t)
      · rw [updO_n q] at e
        rw [updO_n q'] at e'
        exact h2 j j' i hj hj' t t' e e'
  · rintro ⟨j, j1, j2, j3⟩
    by_cases q : j = nx
    · rw [q, updO_e] at j3
      exact Or.inr (Option.some.inj j3).symm
    · rw [updO_n q] at j3
      exact Or.inl ⟨j, j1, j2, j3⟩
  · rintro (⟨j, j1, j2, j3⟩ | rfl)
    · refine ⟨j, j1, j2, ?_⟩
      rw [updO_n (fun z => by rw [z, hb] at j3; cases j3)]; exact j3
    · exact ⟨nx, hn, hT, updO_e⟩
  · by_cases q : j = nx
    · rw [q, updO_e, decide_eq_true (show nx = nx from rfl), Bool.or_true]; rfl
    · rw [updO_n q, decide_eq_false q, Bool.or_false]
theorem asc_rec (h : PSC n R x b T) (hx : x < n) (hn : nx < n) (hTT : ∀ j, T j = true → T1 j = true) (hT1 : T1 nx = false) (hT2 : ∀ j, T2 j = (T1 j || decide (j = nx))) (hR : R x nx) (hb : b nx = some y) (h' : ASK n R y b T2 b1) : ASK n R x b T (updO b1 nx x) := by
  obtain ⟨h1, h2, h3⟩ := h
  obtain ⟨a1, a2, a3, a4, f, f1, f2, f3⟩ := h'
  have hTn : T nx = false := by
    cases q : T nx with
    | false => rfl
    | true => rw [hTT nx q] at hT1; cases hT1
  have t2n : T2 nx = true := by rw [hT2, decide_eq_true (show nx = nx from rfl), Bool.or_true]
  have t2f : ∀ j, T2 j = false → T j = false ∧ j ≠ nx := fun j hj => by
    refine ⟨?_, fun z => by rw [z, t2n] at hj; cases hj⟩
    cases q : T j with
    | false => rfl
    | true =>
      rw [hT2, hTT j q, Bool.true_or] at hj
      cases hj
  refine ⟨fun j hj => ?_, fun j i hj e => ?_, fun j j' i hj hj' t t' e e' => ?_, fun i => ⟨?_, ?_⟩, f, f1, f2, fun j => ?_⟩
  · rw [updO_n (fun z => by rw [z, hTn] at hj; cases hj)]
    exact a1 j (by rw [hT2, hTT j hj]; rfl)
  · by_cases q : j = nx
    · subst q
      rw [updO_e] at e
      cases e
      exact ⟨hx, hR⟩
    · rw [updO_n q] at e
      exact a2 j i hj e
  · -- one value, one place
    have val : ∀ j i, j < n → T j = false → j ≠ nx → b1 j = some i → ∃ l, l < n ∧ T l = false ∧ b l = some i ∧ (T2 j = true → l = j) ∧ (T2 j = false → T2 l = false ∨ l = nx) := fun j i hj t q e => by
      cases w : T2 j with
      | true => exact ⟨j, hj, t, by rw [← a1 j w]; exact e, fun _ => rfl, fun z => by cases z⟩
      | false =>
        rcases (a4 i).mp ⟨j, hj, w, e⟩ with ⟨l, l1, l2, l3⟩ | rfl
        · exact ⟨l, l1, (t2f l l2).1, l3, fun z => (by cases z), fun _ => Or.inl l2⟩
        · exact ⟨nx, hn, hTn, hb, fun z => (by cases z), fun _ => Or.inr rfl⟩
    by_cases q : j = nx
    · by_cases q' : j' = nx
      · rw [q, q']
      · rw [q, updO_e] at e
        rw [updO_n q', ← e] at e'
        obtain ⟨l, l1, l2, l3, _⟩ := val j' x hj' t' q' e'
        exact absurd l3 (h3 l l1 l2)
    · by_cases q' : j' = nx
      · rw [q', updO_e] at e'
        rw [updO_n q, ← e'] at e
        obtain ⟨l, l1, l2, l3, _⟩ := val j x hj t q e
        exact absurd l3 (h3 l l1 l2)
      · rw [updO_n q] at e
        rw [updO_n q'] at e'
        cases w : T2 j with
        | false =>
          cases w' : T2 j' with
          | false => exact a3 j j' i hj hj' w w' e e'
          | true =>
            exfalso
            obtain ⟨l, l1, l2, l3, _, l5⟩ := val j i hj t q e
            obtain ⟨l', m1, m2, m3, m4, _⟩ := val j' i hj' t' q' e'
            have el := h2 l l' i l1 m1 l2 m2 l3 m3
            rw [m4 w'] at el
            rcases l5 w with z | z
            · rw [el, w'] at z; cases z
            · exact q' (by rw [← el, z])
        | true =>
          obtain ⟨l, l1, l2, l3, l4, _⟩ := val j i hj t q e
          obtain ⟨l', m1, m2, m3, m4, m5⟩ := val j' i hj' t' q' e'
          have el := h2 l l' i l1 m1 l2 m2 l3 m3
          rw [l4 w] at el
          cases w' : T2 j' with
          | true => rw [el, m4 w']
          | false =>
            exfalso
            rcases m5 w' with z | z
            · rw [← el, w] at z; cases z
            · exact q (by rw [el, z])
  · rintro ⟨j, j1, j2, j3⟩
    by_cases q : j = nx
    · rw [q, updO_e] at j3
      exact Or.inr (Option.some.inj j3).symm
    · rw [updO_n q] at j3
      cases w : T2 j with
      | true =>
        rw [a1 j w] at j3
        exact Or.inl ⟨j, j1, j2, j3⟩
      | false =>
        rcases (a4 i).mp ⟨j, j1, w, j3⟩ with ⟨l, l1, l2, l3⟩ | rfl
        · exact Or.inl ⟨l, l1, (t2f l l2).1, l3⟩
        · exact Or.inl ⟨nx, hn, hTn, hb⟩
  · rintro (⟨j, j1, j2, j3⟩ | rfl)
    · by_cases q : j = nx
      · -- y goes elsewhere now
        rw [q, hb] at j3
        obtain ⟨l, l1, l2, l3⟩ := (a4 i).mpr (Or.inr (Option.some.inj j3).symm)
        exact ⟨l, l1, (t2f l l2).1, by rw [updO_n (t2f l l2).2]; exact l3⟩
      · cases w : T2 j with
        | true => exact ⟨j, j1, j2, by rw [updO_n q, a1 j w]; exact j3⟩
        | false =>
          obtain ⟨l, l1, l2, l3⟩ := (a4 i).mpr (Or.inl ⟨j, j1, w, j3⟩)
          exact ⟨l, l1, (t2f l l2).1, by rw [updO_n (t2f l l2).2]; exact l3⟩
    · exact ⟨nx, hn, hTn, updO_e⟩
  · by_cases q : j = nx
    · rw [q, updO_e, hb]; rfl
    · rw [updO_n q]; exact f3 j
/-- one more is tried -/
theorem psc_rec (h : PSC n R x b T) (hn : nx < n) (hTT : ∀ j, T j = true → T1 j = true) (hT1 : T1 nx = false) (hT2 : ∀ j, T2 j = (T1 j || decide (j = nx))) (hb : b nx = some y) : PSC n R y b T2 := by
  obtain ⟨h1, h2, h3⟩ := h
  have tf : ∀ j, T2 j = false → T j = false ∧ j ≠ nx := fun j hj => by
    refine ⟨?_, fun z => by rw [hT2, z, decide_eq_true (show nx = nx from rfl), Bool.or_true] at hj; cases hj⟩
    cases q : T j with
    | false => rfl
    | true =>
      rw [hT2, hTT j q, Bool.true_or] at hj
      cases hj
  have hTn : T nx = false := by
    cases q : T nx with
    | false => rfl
    | true => rw [hTT nx q] at hT1; cases hT1
  exact ⟨h1, fun j j' i hj hj' t t' e e' => h2 j j' i hj hj' (tf j t).1 (tf j' t').1 e e', fun j hj t e => (tf j t).2 (h2 j nx y hj hn (tf j t).1 hTn e hb)⟩
/-- the whole search, from none tried -/
theorem mt_asc (h : MTk n R b (SgK n R k)) (ha : ASK n R k b (fun _ => false) b1) : MTk n R b1 (fun x => SgK n R k x ∨ x = k) := by
  obtain ⟨_, a2, a3, a4, _⟩ := ha
  refine ⟨a2, fun j j' i hj hj' e e' => a3 j j' i hj hj' rfl rfl e e', fun i => ?_⟩
  have e : (∃ j, j < n ∧ b1 j = some i) ↔ ∃ j, j < n ∧ (fun _ : Nat => false) j = false ∧ b1 j = some i := ⟨fun ⟨j, j1, j2⟩ => ⟨j, j1, rfl, j2⟩, fun ⟨j, j1, _, j2⟩ => ⟨j, j1, j2⟩⟩
  show (SgK n R k i ∨ i = k) ↔ _
  rw [e, a4 i, h.2.2 i]
  exact ⟨fun z => z.elim (fun ⟨j, j1, j2⟩ => Or.inl ⟨j, j1, rfl, j2⟩) Or.inr, fun z => z.elim (fun ⟨j, j1, _, j2⟩ => Or.inl ⟨j, j1, j2⟩) Or.inr⟩
theorem mt_psc (h : MTk n R b (SgK n R k)) : PSC n R k b (fun _ => false) := ⟨h.1, fun j j' i hj hj' _ _ e e' => h.2.1 j j' i hj hj' e e', fun j hj _ e => by
  have := sg_lt ((h.2.2 k).mpr ⟨j, hj, e⟩)
  omega⟩
end ASK
