/-! THE REFERENCE lets a district stand: all of it -/
section SD2
variable {M : sMem} {n C : Nat}
/-- what stands -/
def Std (M N : sMem) (n C : Nat) : Prop := (N.1 = M.1 ∧ N.2.2.2 = M.2.2.2) ∧
  ((∀ k, k < 2 → N.2.1 130 (2 + k) = M.2.1 130 k) ∧ (∀ k, k < 5 → N.2.1 131 (5 + k) = M.2.1 131 k) ∧ (∀ k, k < 3 → N.2.1 137 (3 + k) = M.2.1 137 k) ∧ (∀ k, k < 3 → N.2.1 138 (3 + k) = M.2.1 138 k) ∧ (∀ k, k < 6 → N.2.1 133 (6 + k) = M.2.1 133 k) ∧ (∀ k, k < 48 → N.2.1 134 (48 + k) = M.2.1 134 k) ∧ (∀ k, k < 15 → N.2.1 135 (15 + k) = M.2.1 135 k) ∧ (∀ k, k < 15 → N.2.1 136 (15 + k) = M.2.1 136 k) ∧ (∀ k, k < n → N.2.1 139 (1600 + k) = M.2.1 139 k) ∧ ∀ k, k < 32 → N.2.2.1 132 (32 + k) = M.2.2.1 132 k) ∧
  (∀ a j, a < 130 ∨ 140 < a → a ≠ 94 → N.2.1 a j = M.2.1 a j) ∧ (∀ j, j ≠ 57 → j ≠ 80 → j ≠ 85 → N.2.1 94 j = M.2.1 94 j) ∧ (N.2.1 94 57 = 1 ∧ N.2.1 94 80 = 0 ∧ N.2.1 94 85 = 0) ∧ (∀ j, j < 148 → N.2.1 140 j = now0 M.2.1 C j) ∧ ∀ a j, a ≠ 132 → N.2.2.1 a j = M.2.2.1 a j
theorem r_stands (hs : RefS M.1 M.2.2.2) (hn : n ≤ 1600) (h55 : M.2.1 94 55 = nI n) (hC : C ≤ 5) (h3 : M.2.1 131 3 = nI C) : ∃ N, f_X12_stands 94 M = some N ∧ Std M N n C := by
  unfold f_X12_stands
  rw [sr94 hs, pZ_of (rs94 hs) (Or.inr rfl), Option.bind_some]
  obtain ⟨M0, m0⟩ : ∃ M0, M0 = wrI M 94 57 1 := ⟨_, rfl⟩
  rw [← m0]
  have b0 : M0.1 = M.1 ∧ M0.2.2 = M.2.2 := by rw [m0]; exact ⟨rfl, rfl⟩
  have v0 : ∀ a j, a ≠ 94 → M0.2.1 a j = M.2.1 a j := fun a j h => by rw [m0, wrI_ne (by omega)]
  have w0 : ∀ j, j ≠ 57 → M0.2.1 94 j = M.2.1 94 j := fun j h => by rw [m0, wrI_ne (by omega)]
  have x0 : M0.2.1 94 57 = 1 := by rw [m0, wrI_eq]
  have hs0 : RefS M0.1 M0.2.2.2 := by rw [b0.1, b0.2]; exact hs
  obtain ⟨M1, e1, b1, c1, k1⟩ := s_7 hs0
  have hs1 : RefS M1.1 M1.2.2.2 := by rw [b1, c1]; exact hs0
  obtain ⟨M2, e2, b2, c2, k2⟩ := s_34 hs1
  have hs2 : RefS M2.1 M2.2.2.2 := by rw [b2, c2]; exact hs1
  obtain ⟨M3, e3, b3, c3, k3⟩ := s_61 hs2
  have hs3 : RefS M3.1 M3.2.2.2 := by rw [b3, c3]; exact hs2
  obtain ⟨M4, e4, b4, c4, j4, k4⟩ := s_102 hs3
  have hs4 : RefS M4.1 M4.2.2.2 := by rw [b4, c4]; exact hs3
  obtain ⟨M5, e5, b5, c5, k5⟩ := s_131 hs4
  have hs5 : RefS M5.1 M5.2.2.2 := by rw [b5, c5]; exact hs4
  obtain ⟨M6, e6, b6, c6, k6⟩ := s_160 hs5
  have hs6 : RefS M6.1 M6.2.2.2 := by rw [b6, c6]; exact hs5
  obtain ⟨M7, e7, b7, c7, k7⟩ := s_189 hs6
  have hs7 : RefS M7.1 M7.2.2.2 := by rw [b7, c7]; exact hs6
  have h55' : M7.2.1 94 55 = nI n := by rw [k7, if_neg (fun z => absurd z.1 (by decide)), k6, if_neg (fun z => absurd z.1 (by decide)), k5, if_neg (fun z => absurd z.1 (by decide)), j4, k3, if_neg (fun z => absurd z.1 (by decide)), k2, if_neg (fun z => absurd z.1 (by decide)), k1, if_neg (fun z => absurd z.1 (by decide)), w0 _ (by decide)]; exact h55
  obtain ⟨M8, e8, b8, c8, k8⟩ := s_233 hs7 hn h55'
  have hs8 : RefS M8.1 M8.2.2.2 := by rw [b8, c8]; exact hs7
  obtain ⟨M9, e9, b9, c9, k9⟩ := s_265 hs8
  have hs9 : RefS M9.1 M9.2.2.2 := by rw [b9, c9]; exact hs8
  have h3' : M9.2.1 131 3 = nI C := by rw [k9, if_neg (by omega), k8, if_neg (fun z => absurd z.1 (by decide)), k7, if_neg (fun z => absurd z.1 (by decide)), k6, if_neg (fun z => absurd z.1 (by decide)), k5, if_neg (fun z => absurd z.1 (by decide)), j4, k3, if_neg (fun z => absurd z.1 (by decide)), k2, if_neg (by omega), k1, if_neg (fun z => absurd z.1 (by decide)), v0 _ _ (by decide)]; exact h3
  obtain ⟨M10, e10, b10, c10, k10, n10⟩ := s_287 hs9 hC h3' (fun j hj => by rw [k9, if_pos ⟨rfl, hj⟩])
  have hs10 : RefS M10.1 M10.2.2.2 := by rw [b10, c10]; exact hs9
  rw [e1, e2, e3, e4, e5, e6, e7, e8, e9, e10]
  unfold f_X12_stands_B343
  rw [pi94 hs10, Option.bind_some, pi94 (M := wrI M10 94 85 0) hs10, Option.bind_some]
  have f130 : ∀ k, k < 2 → (wrI (wrI M10 94 85 0) 94 80 0).2.1 130 (2 + k) = M.2.1 130 k := fun k hk => by
    rw [wrI_ne (by omega), wrI_ne (by omega), k10 _ _ (by decide), k9, if_neg (by omega), k8, if_neg (fun z => absurd z.1 (by decide)), k7, if_neg (fun z => absurd z.1 (by decide)), k6, if_neg (fun z => absurd z.1 (by decide)), k5, if_neg (fun z => absurd z.1 (by decide)), j4, k3, if_neg (fun z => absurd z.1 (by decide)), k2, if_neg (fun z => absurd z.1 (by decide)), k1, if_pos ⟨by decide, by omega, by omega⟩, show 2 + k - 2 = k by omega, v0 _ _ (by decide)]
  have f131 : ∀ k, k < 5 → (wrI (wrI M10 94 85 0) 94 80 0).2.1 131 (5 + k) = M.2.1 131 k := fun k hk => by
    rw [wrI_ne (by omega), wrI_ne (by omega), k10 _ _ (by decide), k9, if_neg (by omega), k8, if_neg (fun z => absurd z.1 (by decide)), k7, if_neg (fun z => absurd z.1 (by decide)), k6, if_neg (fun z => absurd z.1 (by decide)), k5, if_neg (fun z => absurd z.1 (by decide)), j4, k3, if_neg (fun z => absurd z.1 (by decide)), k2, if_pos ⟨by decide, by omega, by omega⟩, show 5 + k - 5 = k by omega, k1, if_neg (fun z => absurd z.1 (by decide)), v0 _ _ (by decide)]
  have f137 : ∀ k, k < 3 → (wrI (wrI M10 94 85 0) 94 80 0).2.1 137 (3 + k) = M.2.1 137 k := fun k hk => by
    rw [wrI_ne (by omega), wrI_ne (by omega), k10 _ _ (by decide), k9, if_neg (by omega), k8, if_neg (fun z => absurd z.1 (by decide)), k7, if_neg (fun z => absurd z.1 (by decide)), k6, if_neg (fun z => absurd z.1 (by decide)), k5, if_neg (fun z => absurd z.1 (by decide)), j4, k3, if_pos ⟨by decide, by omega, by omega⟩, show 3 + k - 3 = k by omega, k2, if_neg (fun z => absurd z.1 (by decide)), k1, if_neg (fun z => absurd z.1 (by decide)), v0 _ _ (by decide)]
  have f138 : ∀ k, k < 3 → (wrI (wrI M10 94 85 0) 94 80 0).2.1 138 (3 + k) = M.2.1 138 k := fun k hk => by
    rw [wrI_ne (by omega), wrI_ne (by omega), k10 _ _ (by decide), k9, if_neg (by omega), k8, if_neg (fun z => absurd z.1 (by decide)), k7, if_neg (fun z => absurd z.1 (by decide)), k6, if_neg (fun z => absurd z.1 (by decide)), k5, if_neg (fun z => absurd z.1 (by decide)), j4, k3, if_pos ⟨by decide, by omega, by omega⟩, show 3 + k - 3 = k by omega, k2, if_neg (fun z => absurd z.1 (by decide)), k1, if_neg (fun z => absurd z.1 (by decide)), v0 _ _ (by decide)]
  have f133 : ∀ k, k < 6 → (wrI (wrI M10 94 85 0) 94 80 0).2.1 133 (6 + k) = M.2.1 133 k := fun k hk => by
    rw [wrI_ne (by omega), wrI_ne (by omega), k10 _ _ (by decide), k9, if_neg (by omega), k8, if_neg (fun z => absurd z.1 (by decide)), k7, if_neg (fun z => absurd z.1 (by decide)), k6, if_neg (fun z => absurd z.1 (by decide)), k5, if_pos ⟨by decide, by omega, by omega⟩, show 6 + k - 6 = k by omega, j4, k3, if_neg (fun z => absurd z.1 (by decide)), k2, if_neg (fun z => absurd z.1 (by decide)), k1, if_neg (fun z => absurd z.1 (by decide)), v0 _ _ (by decide)]
  have f134 : ∀ k, k < 48 → (wrI (wrI M10 94 85 0) 94 80 0).2.1 134 (48 + k) = M.2.1 134 k := fun k hk => by
    rw [wrI_ne (by omega), wrI_ne (by omega), k10 _ _ (by decide), k9, if_neg (by omega), k8, if_neg (fun z => absurd z.1 (by decide)), k7, if_neg (fun z => absurd z.1 (by decide)), k6, if_pos ⟨by decide, by omega, by omega⟩, show 48 + k - 48 = k by omega, k5, if_neg (fun z => absurd z.1 (by decide)), j4, k3, if_neg (fun z => absurd z.1 (by decide)), k2, if_neg (fun z => absurd z.1 (by decide)), k1, if_neg (fun z => absurd z.1 (by decide)), v0 _ _ (by decide)]
  have f135 : ∀ k, k < 15 → (wrI (wrI M10 94 85 0) 94 80 0).2.1 135 (15 + k) = M.2.1 135 k := fun k hk => by
    rw [wrI_ne (by omega), wrI_ne (by omega), k10 _ _ (by decide), k9, if_neg (by omega), k8, if_neg (fun z => absurd z.1 (by decide)), k7, if_pos ⟨by decide, by omega, by omega⟩, show 15 + k - 15 = k by omega, k6, if_neg (fun z => absurd z.1 (by decide)), k5, if_neg (fun z => absurd z.1 (by decide)), j4, k3, if_neg (fun z => absurd z.1 (by decide)), k2, if_neg (fun z => absurd z.1 (by decide)), k1, if_neg (fun z => absurd z.1 (by decide)), v0 _ _ (by decide)]
  have f136 : ∀ k, k < 15 → (wrI (wrI M10 94 85 0) 94 80 0).2.1 136 (15 + k) = M.2.1 136 k := fun k hk => by
    rw [wrI_ne (by omega), wrI_ne (by omega), k10 _ _ (by decide), k9, if_neg (by omega), k8, if_neg (fun z => absurd z.1 (by decide)), k7, if_pos ⟨by decide, by omega, by omega⟩, show 15 + k - 15 = k by omega, k6, if_neg (fun z => absurd z.1 (by decide)), k5, if_neg (fun z => absurd z.1 (by decide)), j4, k3, if_neg (fun z => absurd z.1 (by decide)), k2, if_neg (fun z => absurd z.1 (by decide)), k1, if_neg (fun z => absurd z.1 (by decide)), v0 _ _ (by decide)]
  have f139 : ∀ k, k < n → (wrI (wrI M10 94 85 0) 94 80 0).2.1 139 (1600 + k) = M.2.1 139 k := fun k hk => by
    rw [wrI_ne (by omega), wrI_ne (by omega), k10 _ _ (by decide), k9, if_neg (by omega), k8, if_pos ⟨by decide, by omega, by omega⟩, show 1600 + k - 1600 = k by omega, k7, if_neg (fun z => absurd z.1 (by decide)), k6, if_neg (fun z => absurd z.1 (by decide)), k5, if_neg (fun z => absurd z.1 (by decide)), j4, k3, if_neg (fun z => absurd z.1 (by decide)), k2, if_neg (fun z => absurd z.1 (by decide)), k1, if_neg (fun z => absurd z.1 (by decide)), v0 _ _ (by decide)]
  have a10 : ∀ a j, a < 130 ∨ 140 < a → M10.2.1 a j = M0.2.1 a j := fun a j h => by
    have hm : ∀ l : List Nat, (∀ x ∈ l, 130 ≤ x ∧ x ≤ 140) → a ∉ l := fun l hl z => by have := hl a z; omega
    rw [k10 _ _ (by omega), k9, if_neg (by omega), k8, if_neg (fun z => hm _ (by decide) z.1), k7, if_neg (fun z => hm _ (by decide) z.1), k6, if_neg (fun z => hm _ (by decide) z.1), k5, if_neg (fun z => hm _ (by decide) z.1), j4, k3, if_neg (fun z => hm _ (by decide) z.1), k2, if_neg (fun z => hm _ (by decide) z.1), k1, if_neg (fun z => hm _ (by decide) z.1)]
  have l3 : M3.2.2 = M.2.2 := by rw [c3, c2, c1, b0.2]
  have l10 : M10.2.2.1 = M4.2.2.1 := by rw [c10, c9, c8, c7, c6, c5]
  have t136 : ∀ j, j < 15 → M9.2.1 136 j = M.2.1 136 j := fun j hj => by rw [k9, if_neg (by omega), k8, if_neg (fun z => absurd z.1 (by decide)), k7, if_neg (by omega), k6, if_neg (fun z => absurd z.1 (by decide)), k5, if_neg (fun z => absurd z.1 (by decide)), j4, k3, if_neg (fun z => absurd z.1 (by decide)), k2, if_neg (fun z => absurd z.1 (by decide)), k1, if_neg (fun z => absurd z.1 (by decide)), v0 _ _ (by decide)]
  refine ⟨_, rfl, ⟨?_, ?_⟩, ⟨f130, f131, f137, f138, f133, f134, f135, f136, f139, fun k hk => ?_⟩, fun a j h h2 => ?_, fun j h1 h2 h3 => ?_, ⟨?_, ?_, ?_⟩, fun j hj => ?_, fun a j h => ?_⟩
  · show M10.1 = M.1
    rw [b10, b9, b8, b7, b6, b5, b4, b3, b2, b1, b0.1]
  · show M10.2.2.2 = M.2.2.2
    rw [c10, c9, c8, c7, c6, c5, c4, l3]
  · show M10.2.2.1 132 (32 + k) = _
    rw [l10, k4, if_pos ⟨rfl, by omega, by omega⟩, l3, show 32 + k - 32 = k by omega]
  · rw [wrI_ne (by omega), wrI_ne (by omega), a10 a j h, v0 a j h2]
  · rw [wrI_ne (by omega), wrI_ne (by omega), a10 94 j (by omega), w0 j h1]
  · rw [wrI_ne (by omega), wrI_ne (by omega), a10 94 57 (by omega), x0]
  · rw [wrI_eq]
  · rw [wrI_ne (by omega), wrI_eq]
  · rw [wrI_ne (by omega), wrI_ne (by omega), n10 j hj]
    unfold now0
    by_cases q : 12 ≤ j ∧ j < 12 + 3 * C
    · rw [if_pos q, if_pos q, t136 _ (by omega)]
    · rw [if_neg q, if_neg q]
  · show M10.2.2.1 a j = _
    rw [l10, k4, if_neg (fun z => h z.1), l3]
end SD2
