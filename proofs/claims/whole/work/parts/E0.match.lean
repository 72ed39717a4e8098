/-! MATCHING: who can go on from which closing to which -/
section PIG
theorem pigK : ∀ (n m : Nat) (f : Nat → Nat), (∀ i, i < m → f i < n) → (∀ i j, i < m → j < m → f i = f j → i = j) → m ≤ n
  | 0, m, f, h1, _ => by
    rcases Nat.eq_zero_or_pos m with z | z
    · omega
    · have := h1 0 z
      omega
  | n + 1, m, f, h1, h2 => by
    rcases Nat.eq_zero_or_pos m with z | z
    · omega
    · have a1 : ∀ i, i < m - 1 → (if f i = n then f (m - 1) else f i) < n := fun i hi => by
        by_cases q : f i = n
        · rw [if_pos q]
          have a := h1 (m - 1) (by omega)
          have b : f (m - 1) ≠ n := fun y => by
            have := h2 i (m - 1) (by omega) (by omega) (by rw [q, y])
            omega
          omega
        · rw [if_neg q]
          have := h1 i (by omega)
          omega
      have a2 : ∀ i j, i < m - 1 → j < m - 1 → (if f i = n then f (m - 1) else f i) = (if f j = n then f (m - 1) else f j) → i = j := fun i j hi hj e => by
        by_cases q : f i = n
        · by_cases q' : f j = n
          · exact h2 i j (by omega) (by omega) (by rw [q, q'])
          · rw [if_pos q, if_neg q'] at e
            have := h2 (m - 1) j (by omega) (by omega) e
            omega
        · by_cases q' : f j = n
          · rw [if_neg q, if_pos q'] at e
            have := h2 i (m - 1) (by omega) (by omega) e
            omega
          · rw [if_neg q, if_neg q'] at e
            exact h2 i j (by omega) (by omega) e
      have := pigK n (m - 1) (fun i => if f i = n then f (m - 1) else f i) a1 a2
      omega
def itn (f : Nat → Nat) (k : Nat) : Nat → Nat
  | 0 => k
  | t + 1 => f (itn f k t)
/-- b says for each closing from which one its keeper comes; S are those whose keeper goes on -/
def MTk (n : Nat) (R : Nat → Nat → Prop) (b : Nat → Option Nat) (S : Nat → Prop) : Prop := (∀ j i, j < n → b j = some i → i < n ∧ R i j) ∧ (∀ j j' i, j < n → j' < n → b j = some i → b j' = some i → j = j') ∧ ∀ i, S i ↔ ∃ j, j < n ∧ b j = some i
/-- all that can be found from k is found, and none of it is free -/
def HVk (n : Nat) (R : Nat → Nat → Prop) (b : Nat → Option Nat) (k : Nat) (V : Nat → Prop) : Prop := (∀ j, j < n → R k j → V j) ∧ ∀ j, j < n → V j → ∃ i, b j = some i ∧ ∀ j', j' < n → R i j' → V j'
theorem no_mt {n k : Nat} {R : Nat → Nat → Prop} {b : Nat → Option Nat} {S V : Nat → Prop} (hM : MTk n R b S) (hk : ¬ S k) (hV : HVk n R b k V) : ¬ ∃ b', MTk n R b' (fun i => S i ∨ i = k) := by
  rintro ⟨b', h1, h2, h3⟩
  obtain ⟨g1, g2, g3⟩ := hM
  have stp : ∀ x, ∃ q : Nat × Nat, ((S x ∨ x = k) ∧ ∀ j, j < n → R x j → V j) → q.2 < n ∧ b' q.2 = some x ∧ b q.2 = some q.1 ∧ S q.1 ∧ ∀ j', j' < n → R q.1 j' → V j' := fun x => by
    by_cases hx : (S x ∨ x = k) ∧ ∀ j, j < n → R x j → V j
    · obtain ⟨j, j1, j2⟩ := (h3 x).mp hx.1
      obtain ⟨y, y1, y2⟩ := hV.2 j j1 (hx.2 j j1 (h1 j x j1 j2).2)
      exact ⟨(y, j), fun _ => ⟨j1, j2, y1, (g3 y).mpr ⟨j, j1, y1⟩, y2⟩⟩
    · exact ⟨(0, 0), fun z => absurd z hx⟩
  obtain ⟨f, hf⟩ := Classical.skolem.mp stp
  have gd : ∀ t, (S (itn (fun x => (f x).1) k t) ∨ itn (fun x => (f x).1) k t = k) ∧ ∀ j, j < n → R (itn (fun x => (f x).1) k t) j → V j := fun t => by
    induction t with
    | zero => exact ⟨Or.inr rfl, hV.1⟩
    | succ t ih =>
      obtain ⟨_, _, _, e4, e5⟩ := hf _ ih
      exact ⟨Or.inl e4, e5⟩
  have lt : ∀ t, itn (fun x => (f x).1) k t < n := fun t => by
    obtain ⟨j, j1, j2⟩ := (h3 _).mp (gd t).1
    exact (h1 j _ j1 j2).1
  have ds : ∀ s d, itn (fun x => (f x).1) k s = itn (fun x => (f x).1) k (s + d + 1) → False := fun s => by
    induction s with
    | zero =>
      intro d e
      have e' : k = (f (itn (fun x => (f x).1) k (0 + d))).1 := e
      obtain ⟨_, _, _, e4, _⟩ := hf _ (gd (0 + d))
      rw [← e'] at e4
      exact hk e4
    | succ s ih =>
      intro d e
      have e0 : s + 1 + d + 1 = (s + d + 1) + 1 := by omega
      rw [e0] at e
      have e' : (f (itn (fun x => (f x).1) k s)).1 = (f (itn (fun x => (f x).1) k (s + d + 1))).1 := e
      obtain ⟨a1, a2, a3, _, _⟩ := hf _ (gd s)
      obtain ⟨b1, b2, b3, _, _⟩ := hf _ (gd (s + d + 1))
      rw [← e'] at b3
      have ej := g2 _ _ _ a1 b1 a3 b3
      rw [ej, b2] at a2
      exact ih d (Option.some.inj a2).symm
  have := pigK n (n + 1) (itn (fun x => (f x).1) k) (fun i _ => lt i) (fun i j _ _ e => by
    rcases Nat.lt_trichotomy i j with z | z | z
    · exfalso
      refine ds i (j - i - 1) ?_
      rw [show i + (j - i - 1) + 1 = j by omega]; exact e
    · exact z
    · exfalso
      refine ds j (i - j - 1) ?_
      rw [show j + (i - j - 1) + 1 = i by omega]; exact e.symm)
  omega
/-- those below k whose keeper goes on, taken one by one -/
def SgK (n : Nat) (R : Nat → Nat → Prop) : Nat → Nat → Prop
  | 0 => fun _ => False
  | k + 1 => fun i => SgK n R k i ∨ (i = k ∧ ∃ b, MTk n R b (fun x => SgK n R k x ∨ x = k))
noncomputable def ndK (n : Nat) (R : Nat → Nat → Prop) : Nat → Nat
  | 0 => 0
  | k + 1 => ndK n R k + @ite Nat (∃ b, MTk n R b (fun x => SgK n R k x ∨ x = k)) (Classical.propDecidable _) 1 0
section SGK
variable {n k i : Nat} {R : Nat → Nat → Prop} {b : Nat → Option Nat} {V : Nat → Prop}
theorem sg_lt : ∀ {k i : Nat}, SgK n R k i → i < k
  | 0, _, h => False.elim h
  | k + 1, i, h => by
    rcases h with z | ⟨z, _⟩
    · have := sg_lt z
      omega
    · omega
theorem nd_le : ∀ k, ndK n R k ≤ k
  | 0 => Nat.le_refl _
  | k + 1 => by
    have := nd_le k
    show ndK n R k + _ ≤ k + 1
    by_cases q : ∃ b, MTk n R b (fun x => SgK n R k x ∨ x = k)
    · rw [if_pos q]; omega
    · rw [if_neg q]; omega
theorem sg_y (h : MTk n R b (fun x => SgK n R k x ∨ x = k)) : MTk n R b (SgK n R (k + 1)) ∧ ndK n R (k + 1) = ndK n R k + 1 := by
  have q : ∃ b, MTk n R b (fun x => SgK n R k x ∨ x = k) := ⟨b, h⟩
  refine ⟨⟨h.1, h.2.1, fun i => ?_⟩, ?_⟩
  · rw [← h.2.2 i]
    show (SgK n R k i ∨ (i = k ∧ ∃ b, MTk n R b (fun x => SgK n R k x ∨ x = k))) ↔ _
    exact ⟨fun z => z.elim Or.inl (fun y => Or.inr y.1), fun z => z.elim Or.inl (fun y => Or.inr ⟨y, q⟩)⟩
  · show ndK n R k + _ = _
    rw [if_pos q]
theorem sg_n (h : MTk n R b (SgK n R k)) (hV : HVk n R b k V) : MTk n R b (SgK n R (k + 1)) ∧ ndK n R (k + 1) = ndK n R k := by
  have q : ¬ ∃ b, MTk n R b (fun x => SgK n R k x ∨ x = k) := no_mt h (fun z => by have := sg_lt z; omega) hV
  refine ⟨⟨h.1, h.2.1, fun i => ?_⟩, ?_⟩
  · rw [← h.2.2 i]
    show (SgK n R k i ∨ (i = k ∧ ∃ b, MTk n R b (fun x => SgK n R k x ∨ x = k))) ↔ _
    exact ⟨fun z => z.elim id (fun y => absurd y.2 q), Or.inl⟩
  · show ndK n R k + _ = _
    rw [if_neg q]
    rfl
end SGK
/-- the rule by which one can go -/
def RelK (vF vL vM : Nat → Int32) (i j : Nat) : Prop := (vL i).toInt + 1 + (((vM i).toInt - (vM j).toInt).natAbs : Int) ≤ (vF j).toInt
def oI : Option Nat → Int32
  | none => mI
  | some i => nI i
theorem oI_n {o : Option Nat} (h : ∀ i, o = some i → i < 100) : oI o = mI ↔ o = none := by
  match o, h with
  | none, _ => exact ⟨fun _ => rfl, fun _ => rfl⟩
  | some i, h =>
    have hi := h i rfl
    refine ⟨fun z => ?_, fun z => by cases z⟩
    have z' : nI i = mI := z
    rw [cneg (by omega)] at z'
    exact z'.elim
def updO (b : Nat → Option Nat) (j x : Nat) : Nat → Option Nat := fun i => if i = j then some x else b i
theorem updO_e {b : Nat → Option Nat} {j x : Nat} : updO b j x j = some x := if_pos rfl
theorem updO_n {b : Nat → Option Nat} {j x i : Nat} (h : i ≠ j) : updO b j x i = b i := if_neg h
end PIG
