/-! THE TEXT's bytes b 0 .. b (n - 1), cut into tokens -/
def isL (x : Int32) : Bool := decide ((97 : Int32) ≤ x ∧ x ≤ 122)
def isD (x : Int32) : Bool := decide ((48 : Int32) ≤ x ∧ x ≤ 57)
def isK (x : Int32) : Bool := decide (x = 10 ∨ x = 32)
def wordsL : List (List Nat) := [[100, 105, 115, 116, 114, 105, 99, 116], [103, 97, 116, 101], [97, 116], [112, 108, 97, 99, 101], [114, 111, 97, 100], [116, 111], [115, 116, 101, 112, 115], [108, 97, 110, 101], [111, 118, 101, 114], [101, 114, 97], [108, 111, 110, 103], [112, 97, 99, 101], [102, 114, 111, 109], [99, 97, 114], [115, 104, 117, 116, 115], [108, 97, 116, 101], [115, 101, 101, 115], [112, 105, 103, 115], [97, 104, 101, 97, 100], [98, 101, 104, 105, 110, 100], [109, 105, 110, 117, 116, 101], [100, 97, 121], [119, 97, 105, 116, 115], [107, 110, 111, 119, 115], [110, 117, 109, 98, 101, 114], [99, 108, 111, 115, 101, 100], [100, 114, 105, 118, 101], [111, 114], [97, 110, 100], [110, 111, 116], [97, 108, 108], [109, 105, 110], [109, 97, 120], [102, 105, 114, 115, 116], [108, 97, 115, 116], [111, 102, 116, 101, 110], [116, 111, 116, 97, 108], [109, 111, 115, 116], [108, 101, 97, 115, 116]]
def wdl (j : Nat) : List Nat := wordsL.getD j []
def runW (b : Nat → Int32) (s z : Nat) (w : List Nat) : Prop := z = s + w.length ∧ ∀ (i : Nat) (h : i < w.length), b (s + i) = nI w[i]
/-- the value of the first k digits -/
def dv (b : Nat → Int32) (s : Nat) : Nat → Int32
  | 0 => 0
  | k + 1 => dv b s k * 10 + b (s + k) - 48
def pv (sz : Nat → Nat) (t : Nat) : Nat := if t = 0 then 0 else sz (t - 1)
def LexW (b : Nat → Int32) (n : Nat) (T : Tk) (sa sz : Nat → Nat) (t : Nat) : Prop := isL (b (sa t)) = true ∧ sa t < sz t ∧ (∀ i, sa t ≤ i → i < sz t → isL (b i) = true) ∧ (sz t = n ∨ isL (b (sz t)) = false) ∧ (T 3 t = 1 ∨ T 3 t = 4) ∧ (T 6 t = mI ∨ ∃ j, j < 39 ∧ T 6 t = nI j) ∧ ∀ j, j < 39 → (T 6 t = nI j ↔ runW b (sa t) (sz t) (wdl j))
def LexN (b : Nat → Int32) (n : Nat) (T : Tk) (sa sz : Nat → Nat) (t : Nat) : Prop := isD (b (sa t)) = true ∧ sa t < sz t ∧ (∀ i, sa t ≤ i → i < sz t → isD (b i) = true) ∧ (sz t = n ∨ isD (b (sz t)) = false) ∧ (T 3 t = 2 ∨ T 3 t = 4) ∧ T 6 t = dv b (sa t) (min (sz t - sa t) 4)
def LexS (b : Nat → Int32) (n : Nat) (T : Tk) (sa sz : Nat → Nat) (t : Nat) : Prop := isL (b (sa t)) = false ∧ isD (b (sa t)) = false ∧ T 3 t = 3 ∧ T 6 t = b (sa t) ∧ sz t = sa t + 1
def Lex (b : Nat → Int32) (n : Nat) (T : Tk) (e : Nat) (sa sz : Nat → Nat) : Prop :=
  Ends T e ∧ n ≤ 1600 ∧ sa e = n ∧ (∀ t, t ≤ e → T 4 t = nI (sa t) ∧ T 5 t = nI (sz t) ∧ sa t ≤ sz t ∧ sz t ≤ n ∧ pv sz t ≤ sa t ∧ ∀ i, pv sz t ≤ i → i < sa t → isK (b i) = true) ∧
  (∀ t, t < e → sa t < n ∧ isK (b (sa t)) = false ∧ (LexW b n T sa sz t ∨ LexN b n T sa sz t ∨ LexS b n T sa sz t)) ∧
  ∀ t, t < e → T 3 t ≠ 3 → (T 3 t = 4 ↔ (0 < t ∧ T 3 (t - 1) ≠ 3 ∧ sz (t - 1) = sa t))
/-- where the latest word or number ended -/
def En (T : Tk) (sa sz : Nat → Nat) (t : Nat) (x : Int32) : Prop := (x = mI ∨ ∃ k, k ≤ sa t ∧ x = nI k) ∧ (nI (sa t) = x ↔ (0 < t ∧ T 3 (t - 1) ≠ 3 ∧ sz (t - 1) = sa t))
def wdc (c : Nat) : Nat := if c < 130 then c - 97 else ([33, 34, 35, 36, 37, 38, 29, 28, 27, 30, 31, 32, 18, 19, 10, 11, 20, 15, 21, 22, 23, 24, 2, 5, 12, 25, 26] : List Nat).getD (c - 156) 0
def isWc (c : Nat) : Prop := (97 ≤ c ∧ c < 130) ∨ (156 ≤ c ∧ c < 183)
/-- the words of the reference -/
def RWd (M : sMem) : Prop := ∀ c, isWc c → ∀ (i : Nat) (h : i < (wdl (wdc c)).length), M.2.1 c i = nI (wdl (wdc c))[i]
def wcOK (c : Nat) : Bool := (refSh.any fun q => q.1 == c && q.2.1 == 13 && q.2.2 == (wdl (wdc c)).length) && decide (wdc c < 39) && decide ((wdl (wdc c)).length ≤ 8) && decide (1 ≤ (wdl (wdc c)).length)
def wcOK2 (c : Nat) : Bool := if (97 ≤ c ∧ c < 130) ∨ (156 ≤ c ∧ c < 183) then wcOK c else true
theorem wc_sh0 : ∀ c, c < 183 → wcOK2 c = true := by decide +kernel
theorem wc_sh {c : Nat} (h : isWc c) : (c, 13, (wdl (wdc c)).length) ∈ refSh ∧ wdc c < 39 ∧ (wdl (wdc c)).length ≤ 8 ∧ 1 ≤ (wdl (wdc c)).length := by
  unfold isWc at h
  have h1 := wc_sh0 c (by omega)
  unfold wcOK2 at h1
  rw [if_pos h] at h1
  unfold wcOK at h1
  simp only [Bool.and_eq_true, decide_eq_true_eq] at h1
  obtain ⟨⟨⟨h2, h3⟩, h4⟩, h5⟩ := h1
  obtain ⟨q, q1, q2⟩ := List.any_eq_true.mp h2
  simp only [Bool.and_eq_true, beq_iff_eq] at q2
  have : q = (c, 13, (wdl (wdc c)).length) := by
    obtain ⟨x, y, z⟩ := q
    dsimp only at q2
    rw [q2.1.1, q2.1.2, q2.2]
  rw [this] at q1
  exact ⟨q1, h3, h4, h5⟩
theorem isL_D {x : Int32} (h : isL x = true) : isD x = false := by
  have := of_decide_eq_true h
  refine decide_eq_false (fun q => ?_)
  have a1 := le_i.mp this.1
  have a2 := le_i.mp q.2
  have e1 : (97 : Int32).toInt = 97 := rfl
  have e2 : (57 : Int32).toInt = 57 := rfl
  omega
theorem isL_m : isL mI = false := by decide
theorem isD_m : isD mI = false := by decide
section LX
variable {b : Nat → Int32} {n e t : Nat} {T : Tk} {sa sz : Nat → Nat}
theorem Lex.k3 (h : Lex b n T e sa sz) (ht : t < e) (h3 : T 3 t = 3) : LexS b n T sa sz t := by
  rcases (h.2.2.2.2.1 t ht).2.2 with q | q | q
  · have := q.2.2.2.2.1; rw [h3] at this; exact absurd this (by decide)
  · have := q.2.2.2.2.1; rw [h3] at this; exact absurd this (by decide)
  · exact q
theorem Lex.k1 (h : Lex b n T e sa sz) (ht : t < e) (h3 : T 3 t = 1) : LexW b n T sa sz t := by
  rcases (h.2.2.2.2.1 t ht).2.2 with q | q | q
  · exact q
  · have := q.2.2.2.2.1; rw [h3] at this; exact absurd this (by decide)
  · have := q.2.2.1; rw [h3] at this; exact absurd this (by decide)
theorem Lex.k2 (h : Lex b n T e sa sz) (ht : t < e) (h3 : T 3 t = 2) : LexN b n T sa sz t := by
  rcases (h.2.2.2.2.1 t ht).2.2 with q | q | q
  · have := q.2.2.2.2.1; rw [h3] at this; exact absurd this (by decide)
  · exact q
  · have := q.2.2.1; rw [h3] at this; exact absurd this (by decide)
theorem Lex.ne (h : Lex b n T e sa sz) (hte : t ≤ e) (h3 : T 3 t ≠ 0) : t < e := by
  rcases Nat.lt_or_ge t e with q | q
  · exact q
  · have : t = e := by omega
    subst this; exact absurd h.1.1 h3
theorem dv_rg {s : Nat} : ∀ {k : Nat}, k ≤ 4 → (∀ i, s ≤ i → i < s + k → isD (b i) = true) → ∃ v, v < 10 ^ k ∧ dv b s k = nI v
  | 0, _, _ => ⟨0, by decide, rfl⟩
  | k + 1, hk, h => by
    obtain ⟨v, v1, v2⟩ := dv_rg (k := k) (by omega) (fun i a1 a2 => h i a1 (by omega))
    have hd := of_decide_eq_true (h (s + k) (by omega) (by omega))
    have a1 := le_i.mp hd.1
    have a2 := le_i.mp hd.2
    have e1 : (48 : Int32).toInt = 48 := rfl
    have e2 : (57 : Int32).toInt = 57 := rfl
    have hv : v < 1000 := by
      have : 10 ^ k ≤ 10 ^ 3 := Nat.pow_le_pow_right (by decide) (by omega)
      omega
    refine ⟨v * 10 + ((b (s + k)).toInt.toNat - 48), by rw [Nat.pow_succ]; omega, ?_⟩
    show dv b s k * 10 + b (s + k) - 48 = _
    rw [v2]
    refine eq_i.mpr ?_
    have x1 : (nI v * 10).toInt = v * 10 := by rw [show (10 : Int32) = nI 10 from rfl, pk_mul, nI_i (by omega)]; omega
    rw [sub_i (by rw [add_i (by omega) (by omega)]; omega) (by rw [add_i (by omega) (by omega)]; omega), add_i (by omega) (by omega), x1, e1, nI_i (by omega)]
    omega
theorem Lex.R (h : Lex b n T e sa sz) : LexR T e := by
  refine ⟨fun t ht h1 => (h.k1 (h.ne ht (by rw [h1]; decide)) h1).2.2.2.2.2.1, fun t ht h2 => ?_⟩
  have q := h.k2 (h.ne ht (by rw [h2]; decide)) h2
  obtain ⟨v, v1, v2⟩ := dv_rg (b := b) (s := sa t) (k := min (sz t - sa t) 4) (by omega) (fun i a1 a2 => q.2.2.1 i a1 (by omega))
  refine ⟨v, ?_, by rw [q.2.2.2.2.2]; exact v2⟩
  have : 10 ^ (min (sz t - sa t) 4) ≤ 10 ^ 4 := Nat.pow_le_pow_right (by decide) (by omega)
  omega
theorem pv_s : pv sz (t + 1) = sz t := rfl
/-- behind a word or a number, behind a sign -/
theorem En.w (h : Lex b n T e sa sz) (ht : t < e) (h3 : T 3 t ≠ 3) : En T sa sz (t + 1) (nI (sz t)) := by
  have hl := h.2.2.2.1 (t + 1) (by omega)
  have hn := h.2.1
  refine ⟨Or.inr ⟨sz t, hl.2.2.2.2.1, rfl⟩, ?_⟩
  rw [nI_eq (by omega) (by have := h.2.2.2.1 t (by omega); omega)]
  exact ⟨fun z => ⟨by omega, h3, z.symm⟩, fun z => z.2.2.symm⟩
theorem En.s (h : Lex b n T e sa sz) (ht : t < e) (h3 : T 3 t = 3) {x : Int32} (hx : En T sa sz t x) : En T sa sz (t + 1) x := by
  have hl := h.2.2.2.1 (t + 1) (by omega)
  have hq := h.k3 ht h3
  have hn := h.2.1
  have hs : sz t ≤ sa (t + 1) := hl.2.2.2.2.1
  have hz := hq.2.2.2.2
  refine ⟨?_, ⟨fun z => ?_, fun z => absurd h3 z.2.1⟩⟩
  · rcases hx.1 with q | ⟨k, k1, k2⟩
    · exact Or.inl q
    · exact Or.inr ⟨k, by omega, k2⟩
  · exfalso
    rcases hx.1 with q | ⟨k, k1, k2⟩
    · rw [q, cneg (by omega)] at z; exact z
    · rw [k2, nI_eq (by omega) (by omega)] at z; omega
end LX
