/-! BASE: loads, stores and loops by natural numbers -/
theorem nl (n : Nat) : (OfNat.ofNat n : Int32) = nI n := Int32.toInt_inj.mp rfl
theorem nlit (n : Nat) : (OfNat.ofNat n : Int32) = nI (OfNat.ofNat n) := Int32.toInt_inj.mp rfl
theorem bm (z : Int) : z.bmod (2 ^ 32) = (z + 2147483648) % 4294967296 - 2147483648 := by
  rw [Int.bmod_def]
  by_cases h : z % ((2 ^ 32 : Nat) : Int) < (((2 ^ 32 : Nat) : Int) + 1) / 2
  · rw [if_pos h]; omega
  · rw [if_neg h]; omega
section BS
variable {M : sMem} {c n a i q : Nat}
theorem ldI_n {j : Nat} (h : M.1[a]? = some (c, n)) (hj : j < n) (hn : n < 2147483648) : ldI c M a (nI j) = some (M.2.1 a j) := by
  rw [ldI_of h (by rw [nI_i (by omega)]; omega), nI_i (by omega)]; rfl
theorem ldJ_n {j : Nat} (h : M.1[a]? = some (15, n)) (hj : j < n) (hn : n < 2147483648) : ldJ M a (nI j) = some (M.2.2.1 a j) := by
  rw [ldJ_of h (by rw [nI_i (by omega)]; omega), nI_i (by omega)]; rfl
theorem stI_n {j : Nat} {x : Int32} (h : M.1[a]? = some (14, n)) (hj : j < n) (hn : n < 2147483648) : stI M a (nI j) x = some (wrI M a j x) := by
  rw [stI_of h (by rw [nI_i (by omega)]; omega), nI_i (by omega)]; rfl
theorem stZ_n {j : Nat} {x : Int32} (h : M.1[a]? = some (16, n)) (hj : j < n) (hn : n < 2147483648) (hx : x = 0 ∨ x = 1) : stZ M a (nI j) x = some (wrI M a j x) := by
  rw [stZ_of h (by rw [nI_i (by omega)]; omega) hx, nI_i (by omega)]; rfl
theorem stJ_n {j : Nat} {x : Int64} (h : M.1[a]? = some (15, n)) (hj : j < n) (hn : n < 2147483648) : stJ M a (nI j) x = some (wrJ M a j x) := by
  rw [stJ_of h (by rw [nI_i (by omega)]; omega), nI_i (by omega)]; rfl
/-- a loop that counts up -/
theorem itr_up {σ β : Type} {f : Int32 × σ → Option ((Int32 × σ) ⊕ β)} (I : Nat → σ → Prop) (P : β → Prop) (n : Nat) (hn : n < 900000)
    (hs : ∀ k s, k ≤ n → I k s → (k < n ∧ ∃ s', f (nI k, s) = some (.inl (nI (k + 1), s')) ∧ I (k + 1) s') ∨ ∃ b, f (nI k, s) = some (.inr b) ∧ P b) {i : Nat} {s : σ} (hi : i ≤ n) (h : I i s) : ∃ b, sItr f sFuel (nI i, s) = some b ∧ P b := by
  refine sItr_inv (fun a => ∃ k, k ≤ n ∧ a.1 = nI k ∧ I k a.2) (fun a => n - a.1.toNatClampNeg) P ?_ sFuel (nI i, s) ⟨i, hi, rfl, h⟩ (by rw [sFuel_v]; omega)
  rintro ⟨x, s1⟩ ⟨k, hk, hx, hI⟩
  dsimp only at hx hI
  subst hx
  rcases hs k s1 hk hI with ⟨hlt, s', h1, h2⟩ | ⟨b, h1, h2⟩
  · refine Or.inl ⟨(nI (k + 1), s'), h1, ⟨k + 1, hlt, rfl, h2⟩, ?_⟩
    dsimp only
    rw [nI_clamp (by omega), nI_clamp (by omega)]
    omega
  · exact Or.inr ⟨b, h1, h2⟩
/-- the same, the counter alone -/
theorem itr_up0 {β : Type} {f : Int32 → Option (Int32 ⊕ β)} (I : Nat → Prop) (P : β → Prop) (n : Nat) (hn : n < 900000)
    (hs : ∀ k, k ≤ n → I k → (k < n ∧ f (nI k) = some (.inl (nI (k + 1))) ∧ I (k + 1)) ∨ ∃ b, f (nI k) = some (.inr b) ∧ P b) {i : Nat} (hi : i ≤ n) (h : I i) : ∃ b, sItr f sFuel (nI i) = some b ∧ P b := by
  refine sItr_inv (fun a => ∃ k, k ≤ n ∧ a = nI k ∧ I k) (fun a => n - a.toNatClampNeg) P ?_ sFuel (nI i) ⟨i, hi, rfl, h⟩ (by rw [sFuel_v]; omega)
  rintro x ⟨k, hk, hx, hI⟩
  subst hx
  rcases hs k hk hI with ⟨hlt, h1, h2⟩ | ⟨b, h1, h2⟩
  · refine Or.inl ⟨nI (k + 1), h1, ⟨k + 1, hlt, rfl, h2⟩, ?_⟩
    rw [nI_clamp (by omega), nI_clamp (by omega)]
    omega
  · exact Or.inr ⟨b, h1, h2⟩
theorem t1 (e : Nat) (he : e < 5) (hs : RefS M.1 M.2.2.2) : ldI 14 M 135 ((15 : Int32) + (3 : Int32) * nI e) = some (M.2.1 135 (15 + 3 * e)) := by
  simp only [nlit, nI_add, pk_mul]
  rw [ldI_n (rs135 hs) (by omega) (by omega)]
theorem t2 (e k : Nat) (he : e < 5) (hk : k < 100) (x : Int32) (h : 0 ≤ x.toInt) (h2 : x.toInt < 50): (nI e - x + 7) < nI k + 13 := by
  simp only [lt_i, Int32.toInt_add, Int32.toInt_sub, bm, Int32.reduceToInt]
  rw [nI_i (by omega), nI_i (by omega)]
  omega
theorem t3 (x y : Int32) (h : x < 3) (h2 : 0 < x) (h3 : x ≠ 1) (hy : y = x): y + 1 = 3 := by
  simp only [lt_i, eq_i, Int32.toInt_add, bm, ne_eq] at *
  simp only [Int32.reduceToInt] at *
  omega
end BS
