/-! DRIVES: when one can be where -/
def wa (u : Nat → Nat → Int32) (k : Nat) : Nat := (u 134 (48 + 4 * k)).toInt.toNat
def wb (u : Nat → Nat → Int32) (k : Nat) : Nat := (u 134 (49 + 4 * k)).toInt.toNat
def ws (u : Nat → Nat → Int32) (k : Nat) : Nat := (u 134 (50 + 4 * k)).toInt.toNat
def wg (u : Nat → Nat → Int32) (k : Nat) : Nat := (u 134 (51 + 4 * k)).toInt.toNat
/-- a way may be taken in a minute -/
def wOpen (u : Nat → Nat → Int32) (cl : Nat → Nat → Bool) (k t : Nat) : Prop := u 134 (51 + 4 * k) = mI ∨ cl (wg u k) t = false
/-- who is at p in t can be at q in j -/
def conP (u : Nat → Nat → Int32) (cl : Nat → Nat → Bool) (W t p j q : Nat) : Prop := (q = p ∧ j = t + 1) ∨ ∃ k, k < W ∧ wOpen u cl k t ∧ j = t + ws u k ∧ ((wa u k = p ∧ q = wb u k) ∨ (wb u k = p ∧ q = wa u k))
def rchT (u : Nat → Nat → Int32) (cl : Nat → Nat → Bool) (W P m0 fr : Nat) : Nat → Nat → Nat → Prop
  | 0 => fun _ _ => False
  | n + 1 => fun m q => (m < n ∧ rchT u cl W P m0 fr n m q) ∨ (m = n ∧ ((n = m0 ∧ q = fr) ∨ ∃ t, t < n ∧ ∃ p, p < P ∧ rchT u cl W P m0 fr n t p ∧ conP u cl W t p n q))
def rch (u : Nat → Nat → Int32) (cl : Nat → Nat → Bool) (W P m0 fr m q : Nat) : Prop := rchT u cl W P m0 fr (m + 1) m q
/-- what a drive's answer is -/
def DrvP (u : Nat → Nat → Int32) (cl : Nat → Nat → Bool) (W P m0 fr to : Nat) (r : Int32) : Prop := (r = mI ∧ ∀ m, m < 200 → ¬ rch u cl W P m0 fr m to) ∨ ∃ m, m < 200 ∧ r = nI m ∧ rch u cl W P m0 fr m to ∧ ∀ j, j < m → ¬ rch u cl W P m0 fr j to
section RC
variable {u : Nat → Nat → Int32} {cl cl' : Nat → Nat → Bool} {G W P E C m0 fr m q n t p to : Nat} {c0 c1 c2 : List Nat}
theorem rchT_eq : ∀ {n m q : Nat}, m < n → (rchT u cl W P m0 fr n m q ↔ rch u cl W P m0 fr m q)
  | 0, m, q, h => by omega
  | n + 1, m, q, h => by
    by_cases hm : m = n
    · subst hm; exact Iff.rfl
    · have hlt : m < n := by omega
      rw [← rchT_eq (n := n) hlt]
      constructor
      · rintro (h1 | h1)
        · exact h1.2
        · omega
      · intro h1; exact Or.inl ⟨hlt, h1⟩
theorem rch_iff : rch u cl W P m0 fr m q ↔ (m = m0 ∧ q = fr) ∨ ∃ t, t < m ∧ ∃ p, p < P ∧ rch u cl W P m0 fr t p ∧ conP u cl W t p m q := by
  constructor
  · rintro (h | ⟨_, h | ⟨t, h1, p, h2, h3, h4⟩⟩)
    · omega
    · exact Or.inl h
    · exact Or.inr ⟨t, h1, p, h2, (rchT_eq h1).mp h3, h4⟩
  · rintro (h | ⟨t, h1, p, h2, h3, h4⟩)
    · exact Or.inr ⟨rfl, Or.inl h⟩
    · exact Or.inr ⟨rfl, Or.inr ⟨t, h1, p, h2, (rchT_eq h1).mpr h3, h4⟩⟩
theorem rch_ge : ∀ {m q : Nat}, rch u cl W P m0 fr m q → m0 ≤ m := by
  intro m
  induction m using Nat.strongRecOn with
  | _ m ih =>
    intro q h
    rcases rch_iff.mp h with h | ⟨t, h1, p, h2, h3, h4⟩
    · omega
    · have := ih t h1 h3; omega
theorem rch_wait (hq : q < P) (h : rch u cl W P m0 fr m q) : ∀ d, rch u cl W P m0 fr (m + d) q
  | 0 => h
  | d + 1 => rch_iff.mpr (Or.inr ⟨m + d, by omega, q, hq, rch_wait hq h d, Or.inl ⟨rfl, by omega⟩⟩)
/-- a way's data -/
theorem DU.way (hu : DU u G P E C W c0 c1 c2) {k : Nat} (hk : k < W) : u 134 (48 + 4 * k) = nI (wa u k) ∧ u 134 (49 + 4 * k) = nI (wb u k) ∧ u 134 (50 + 4 * k) = nI (ws u k) ∧ wa u k < P ∧ wb u k < P ∧ wa u k ≠ wb u k ∧ 1 ≤ ws u k ∧ ws u k ≤ 60 ∧ (u 134 (51 + 4 * k) = mI ∨ (wg u k < G ∧ u 134 (51 + 4 * k) = nI (wg u k))) := by
  have hb := hu.2.1
  obtain ⟨a, b, s, h1, h2, h3, h4, h5, h6, h7, h8, h9⟩ := hu.2.2.2.2.2.1 k hk
  have e1 : wa u k = a := by unfold wa; rw [h1, nI_i (by omega)]; rfl
  have e2 : wb u k = b := by unfold wb; rw [h2, nI_i (by omega)]; rfl
  have e3 : ws u k = s := by unfold ws; rw [h3, nI_i (by omega)]; rfl
  rw [e1, e2, e3]
  refine ⟨h1, h2, h3, h4, h5, h6, h7, h8, ?_⟩
  rcases h9 with h9 | ⟨g, h9, h10⟩
  · exact Or.inl h9
  · have e4 : wg u k = g := by unfold wg; rw [h10, nI_i (by omega)]; rfl
    rw [e4]; exact Or.inr ⟨h9, h10⟩
theorem con_lt (hu : DU u G P E C W c0 c1 c2) {j : Nat} (h : conP u cl W t p j q) : t < j := by
  rcases h with h | ⟨k, h1, h2, h3, h4⟩
  · omega
  · have := hu.way h1; omega
theorem con_cong (hu : DU u G P E C W c0 c1 c2) (hcl : ∀ g t, g < G → cl g t = cl' g t) {j : Nat} (h : conP u cl W t p j q) : conP u cl' W t p j q := by
  rcases h with h | ⟨k, h1, h2, h3⟩
  · exact Or.inl h
  · refine Or.inr ⟨k, h1, ?_, h3⟩
    rcases h2 with h2 | h2
    · exact Or.inl h2
    · rcases (hu.way h1).2.2.2.2.2.2.2.2 with h4 | h4
      · exact Or.inl h4
      · exact Or.inr (by rw [← hcl _ _ h4.1]; exact h2)
theorem rch_cong1 (hu : DU u G P E C W c0 c1 c2) (hcl : ∀ g t, g < G → cl g t = cl' g t) : ∀ {m q : Nat}, rch u cl W P m0 fr m q → rch u cl' W P m0 fr m q := by
  intro m
  induction m using Nat.strongRecOn with
  | _ m ih =>
    intro q h
    rcases rch_iff.mp h with h | ⟨t, h1, p, h2, h3, h4⟩
    · exact rch_iff.mpr (Or.inl h)
    · exact rch_iff.mpr (Or.inr ⟨t, h1, p, h2, ih t h1 h3, con_cong hu hcl h4⟩)
theorem drv_cong (hu : DU u G P E C W c0 c1 c2) (hcl : ∀ g t, g < G → cl g t = cl' g t) {r : Int32} (h : DrvP u cl W P m0 fr to r) : DrvP u cl' W P m0 fr to r := by
  have e : ∀ m q, rch u cl W P m0 fr m q ↔ rch u cl' W P m0 fr m q := fun m q => ⟨rch_cong1 hu hcl, rch_cong1 hu (fun g t hg => (hcl g t hg).symm)⟩
  rcases h with ⟨h1, h2⟩ | ⟨m, h1, h2, h3, h4⟩
  · exact Or.inl ⟨h1, fun m hm z => h2 m hm ((e m to).mpr z)⟩
  · exact Or.inr ⟨m, h1, h2, (e m to).mp h3, fun j hj z => h4 j hj ((e j to).mpr z)⟩
theorem drv_unique {r r' : Int32} (h : DrvP u cl W P m0 fr to r) (h' : DrvP u cl W P m0 fr to r') : r = r' := by
  rcases h with ⟨h1, h2⟩ | ⟨m, h1, h2, h3, h4⟩ <;> rcases h' with ⟨k1, k2⟩ | ⟨m', k1, k2, k3, k4⟩
  · rw [h1, k1]
  · exact absurd k3 (h2 m' k1)
  · exact absurd h3 (k2 m h1)
  · have : m = m' := by
      rcases Nat.lt_trichotomy m m' with z | z | z
      · exact absurd h3 (k4 m z)
      · exact z
      · exact absurd k3 (h4 m' z)
    rw [h2, k2, this]
/-- what is reached when minutes below m have been gone through -/
def prtP (u : Nat → Nat → Int32) (cl : Nat → Nat → Bool) (W P m0 fr m j q : Nat) : Prop := (j = m0 ∧ q = fr) ∨ ∃ t, t < m ∧ ∃ p, p < P ∧ rch u cl W P m0 fr t p ∧ conP u cl W t p j q
theorem prt_rch (hu : DU u G P E C W c0 c1 c2) {j : Nat} (hj : j ≤ m) : prtP u cl W P m0 fr m j q ↔ rch u cl W P m0 fr j q := by
  rw [rch_iff]
  constructor
  · rintro (h | ⟨t, h1, p, h2, h3, h4⟩)
    · exact Or.inl h
    · exact Or.inr ⟨t, con_lt hu h4, p, h2, h3, h4⟩
  · rintro (h | ⟨t, h1, p, h2, h3, h4⟩)
    · exact Or.inl h
    · exact Or.inr ⟨t, by omega, p, h2, h3, h4⟩
theorem prt_0 {j : Nat} : prtP u cl W P m0 fr m0 j q ↔ (j = m0 ∧ q = fr) := by
  constructor
  · rintro (h | ⟨t, h1, p, h2, h3, h4⟩)
    · exact h
    · have := rch_ge h3; omega
  · exact Or.inl
end RC
/-! THE DIJKSTRA of the class: soonest minutes sp, settled places S -/
def sopen (u : Nat → Nat → Int32) (cl : Nat → Nat → Bool) (k t v : Nat) : Prop := t ≤ v ∧ wOpen u cl k v ∧ ∀ j, t ≤ j → j < v → ¬ wOpen u cl k j
/-- relaxed along way k from place p towards q -/
def relx (u : Nat → Nat → Int32) (cl : Nat → Nat → Bool) (sp : Nat → Nat) (k p q : Nat) : Prop := ∀ v, sopen u cl k (sp p) v → v < 200 → v + ws u k < 200 → sp q ≤ v + ws u k
def ends (u : Nat → Nat → Int32) (k p q : Nat) : Prop := (wa u k = p ∧ q = wb u k) ∨ (wb u k = p ∧ q = wa u k)
def DjI (u : Nat → Nat → Int32) (cl : Nat → Nat → Bool) (W P m0 fr : Nat) (sp : Nat → Nat) (S : Nat → Bool) : Prop :=
  (∀ p, p < 7 → sp p ≤ 200) ∧ (∀ p, p < 7 → sp p < 200 → p < P ∧ rch u cl W P m0 fr (sp p) p) ∧ sp fr ≤ m0 ∧ (∀ p, p < 7 → S p = true → sp p < 200 ∧ ∀ k q, k < W → ends u k p q → relx u cl sp k p q) ∧ ∀ p q, p < 7 → q < 7 → S p = true → S q = false → sp p ≤ sp q
section DJ
variable {u : Nat → Nat → Int32} {cl : Nat → Nat → Bool} {G W P E C m0 fr m q n t p to : Nat} {c0 c1 c2 : List Nat} {sp : Nat → Nat} {S : Nat → Bool}
/-- at the end -/
theorem dj_end (hu : DU u G P E C W c0 c1 c2) (h : DjI u cl W P m0 fr sp S) (hall : ∀ p, p < 7 → sp p < 200 → S p = true) : ∀ m, m < 200 → ∀ q, q < 7 → rch u cl W P m0 fr m q → sp q ≤ m := by
  have hb := hu.2.1
  intro m
  induction m using Nat.strongRecOn with
  | _ m ih =>
    intro hm q hq h1
    rcases rch_iff.mp h1 with ⟨rfl, rfl⟩ | ⟨t, h1, p, h2, h3, h4⟩
    · exact h.2.2.1
    · have hp := ih t h1 (by omega) p (by omega) h3
      rcases h4 with ⟨rfl, rfl⟩ | ⟨k, k1, k2, k3, k4⟩
      · omega
      · have hw := hu.way k1
        have hSp := h.2.2.2.1 p (by omega) (hall p (by omega) (by omega))
        have hr := hSp.2 k q k1 k4
        obtain ⟨v, v1, v2⟩ := pk_least (fun v => sp p ≤ v ∧ wOpen u cl k v) ⟨t, hp, k2⟩
        have hvt : v ≤ t := Nat.le_of_not_lt (fun z => v2 t z ⟨hp, k2⟩)
        have := hr v ⟨v1.1, v1.2, fun j j1 j2 z => v2 j j2 ⟨j1, z⟩⟩ (by omega) (by omega)
        omega
end DJ
