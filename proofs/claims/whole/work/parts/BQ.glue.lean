/-! BOTH districts are the same -/
section GLU
variable {b : Nat → Int32} {n e t D Do : Nat} {T : Tk} {sa sz : Nat → Nat} {M N Nc N1 : sMem} {d : Ds}
theorem du_cong {u u' : Nat → Nat → Int32} {G P E C W : Nat} {c0 c1 c2 : List Nat} (h : ∀ a k, 130 ≤ a → a ≤ 139 → u' a k = u a k) (hu : DU u G P E C W c0 c1 c2) : DU u' G P E C W c0 c1 c2 := by
  unfold DU CodeU at *
  simp only [h 130 _ (by decide) (by decide), h 131 _ (by decide) (by decide), h 133 _ (by decide) (by decide), h 134 _ (by decide) (by decide), h 135 _ (by decide) (by decide), h 136 _ (by decide) (by decide), h 137 _ (by decide) (by decide), h 138 _ (by decide) (by decide), h 139 _ (by decide) (by decide)]
  exact hu
theorem r57_out {a k : Nat} (h : a < 94 ∨ 187 ≤ a) : r57 a k = false := by
  have hn : ∀ x, 94 ≤ x → x < 187 → (a == x) = false := fun x h1 h2 => beq_eq_false_iff_ne.mpr (by omega)
  unfold r57 r56 rdX rqX rlX qX
  rw [hn 94 (by decide) (by decide), hn 130 (by decide) (by decide), hn 131 (by decide) (by decide), hn 133 (by decide) (by decide), hn 134 (by decide) (by decide), hn 135 (by decide) (by decide), hn 136 (by decide) (by decide), hn 137 (by decide) (by decide), hn 138 (by decide) (by decide), hn 139 (by decide) (by decide), hn 183 (by decide) (by decide), hn 184 (by decide) (by decide)]
  rfl
/-- the reference leaves the class's cells alone -/
def RfX (M N : sMem) : Prop := N.1 = M.1 ∧ N.2.2.2 = M.2.2.2 ∧ (∀ a k, a < 94 ∨ 187 ≤ a → N.2.1 a k = M.2.1 a k) ∧ ∀ a k, a ≠ 132 → N.2.2.1 a k = M.2.2.1 a k
theorem rfx_y {C : Nat} (h : Fr r57 rdJ M N1) (hS : Std (fl78 N1 (0, mI)) N n C) : RfX M N := by
  obtain ⟨⟨s1, s2⟩, _, s3, _, _, _, s7⟩ := hS
  refine ⟨s1.trans h.1, s2.trans h.2.1, fun a k ha => ?_, fun a k ha => ?_⟩
  · rw [s3 a k (by omega) (by omega)]
    unfold fl78
    rw [wrI_ne (by omega), wrI_ne (by omega), h.i (r57_out ha)]
  · rw [s7 a k ha]
    exact h.j (by unfold rdJ; rw [beq_eq_false_iff_ne.mpr ha]; rfl)
theorem rfx_n (h : Fr r57 rdJ M N1) (q : Flt) (x : Int32) : RfX M (wrI (fl78 N1 q) 96 1 x) := by
  refine ⟨h.1, h.2.1, fun a k ha => ?_, fun a k ha => ?_⟩
  · unfold fl78
    rw [wrI_ne (by omega), wrI_ne (by omega), wrI_ne (by omega), h.i (r57_out ha)]
  · exact h.j (by unfold rdJ; rw [beq_eq_false_iff_ne.mpr ha]; rfl)
/-- the class's view of what stands, out of what both were told -/
theorem cv_of {M1 R1 : sMem} {C : Nat} (hD : (D = 10 ∧ Do = 32) ∨ (D = 32 ∧ Do = 10)) (hA : GA b n T e D N1) (hE : CE N1 D d (fcd d)) (hG : GF d t) (hK : TK N1 Nc D Do (d.2.1 3).length) (hX : RfX Nc N) (hR : RD R1 d) (hS : Std R1 N (cdL d) C) (hcN : ClsS N.1 N.2.2.2) : CV (uR N) N D (d.2.1 0).length (d.2.1 1).length (d.2.1 2).length (d.2.1 3).length (d.2.1 4).length (fcd d 0) (fcd d 1) (fcd d 2) := by
  have hD1 : D = 10 ∨ D = 32 := by omega
  obtain ⟨k1, k2, k3, k4, _⟩ := hK
  obtain ⟨x1, x2, x3, x4⟩ := hX
  have hl : 187 ≤ N1.1.length := hA.2.2.1.1
  have uv : ∀ a k, 130 ≤ a → a ≤ 139 → uR N a k = N.2.1 a k := fun a k h1 h2 => (uR_eq h1 h2).symm
  have vc : ∀ a k, D ≤ a → a ≤ D + 21 → N.2.1 a k = N1.2.1 a k := fun a k h1 h2 => by rw [x3 a k (by omega), k4 a k (by omega) (by omega) (by omega) (by omega)]
  have vh : ∀ a k, 187 ≤ a → N.2.1 a k = N1.2.1 a k := fun a k h1 => by rw [x3 a k (by omega), k4 a k (by omega) (by omega) (by omega) (by omega)]
  have sh : N.1 = N1.1 := x1.trans k1
  have rf : ∀ a k, D ≤ a → a ≤ D + 21 → N.2.2.2 a k = N1.2.2.2 a k := fun a k h1 h2 => by rw [x2, k3, if_neg (by omega), if_neg (by omega)]
  obtain ⟨hRN, a3, a4, a5, a6, a7, a8, a9⟩ := hR
  obtain ⟨_, ⟨s130, s131, s137, s138, s133, s134, s135, s136, s139, _⟩, _⟩ := hS
  obtain ⟨e1, e2, e3, e4⟩ := hE
  have hb : ∀ kd, kd < 5 → (d.2.1 kd).length ≤ mxK kd := hG.1.2.2
  have b0 : (d.2.1 0).length ≤ 6 := hb 0 (by decide)
  have b2 : (d.2.1 2).length ≤ 5 := hb 2 (by decide)
  have b3 : (d.2.1 3).length ≤ 5 := hb 3 (by decide)
  have b4 : (d.2.1 4).length ≤ 12 := hb 4 (by decide)
  have prg : ∀ wh, wh < 3 → ∃ q n, Prg N (pr3 D wh) q n (fcd d wh) ∧ (q = pr3 D wh + 1 ∨ 187 ≤ q) := by
    intro wh hw
    have hp := pr3_in (D := D) hD1 hw
    obtain ⟨w1, q, n', s, w2, w3, w4, w5, w6, w7⟩ := hA.2.2.1.2.1 _ hp
    obtain ⟨q2, n2, p1, p2, p3, p4, p5⟩ := e4 wh hw
    obtain rfl := Option.some.inj (w2.symm.trans p1)
    have hnn : n' = n2 := by have := w3.symm.trans p2; simpa using this
    have hn : n' ≤ 2048 := by
      obtain ⟨j, j1, j2⟩ := w4
      rw [j2]
      have : 2 ^ j ≤ 2 ^ 5 := Nat.pow_le_pow_right (by decide) j1
      omega
    have hin : D ≤ pr3 D wh ∧ pr3 D wh ≤ D + 20 := by unfold pr3; omega
    refine ⟨q, n2, ⟨by rw [sh]; exact w1, by rw [rf _ _ hin.1 (by omega)]; exact p1, by rw [sh]; exact p2, by rw [vc _ _ hin.1 (by omega)]; exact p3, p4, by omega, fun i hi => ?_⟩, w7⟩
    rcases w7 with w7 | w7
    · rw [vc _ _ (by omega) (by omega)]; exact p5 i hi
    · rw [vh _ _ w7]; exact p5 i hi
  refine ⟨⟨hcN, hD1, by rw [sh]; exact hl⟩, ⟨?_, ?_, ?_, ?_⟩, ⟨?_, ?_, ?_, ?_, ?_, ?_, ?_⟩, fun g hg => ?_, fun k j hk hj => ?_, fun k j hk hj => ?_, fun k j hk hj => ?_, fun _ => ⟨prg 0 (by decide), prg 1 (by decide), prg 2 (by decide)⟩⟩
  · rw [x2, k3, if_pos (by omega)]
  · rw [x2, k3, if_pos (by omega)]
  · rw [x2, k3, if_pos (by omega)]
  · rw [x2, k3, if_pos (by omega)]
  · rw [vc _ _ (by omega) (by omega), e2, uv _ _ (by decide) (by decide), s130 0 (by decide), a7.1]
  · rw [vc _ _ (by omega) (by omega), e3, uv _ _ (by decide) (by decide), s130 1 (by decide), a7.2]
  · rw [vc _ _ (by omega) (by omega)]; exact (e1 0 (by decide)).1
  · rw [vc _ _ (by omega) (by omega)]; exact (e1 1 (by decide)).1
  · rw [vc _ _ (by omega) (by omega)]; exact (e1 4 (by decide)).1
  · rw [vc _ _ (by omega) (by omega)]; exact (e1 2 (by decide)).1
  · rw [vc _ _ (by omega) (by omega)]; exact (e1 3 (by decide)).1
  · rw [vc _ _ (by omega) (by omega), uv _ _ (by decide) (by decide), s133 g (by omega), a3 g hg]
    exact ((e1 0 (by decide)).2.2 g hg).2 0 (by decide)
  · rw [vc _ _ (by omega) (by omega), uv _ _ (by decide) (by decide), show 48 + 4 * k + j = 48 + (4 * k + j) by omega, s134 _ (by omega), a4 k hk j hj]
    exact ((e1 4 (by decide)).2.2 k hk).2 j hj
  · rw [vc _ _ (by omega) (by omega), uv _ _ (by decide) (by decide), show 15 + 3 * k + j = 15 + (3 * k + j) by omega, s135 _ (by omega), a5 k hk j hj]
    exact ((e1 2 (by decide)).2.2 k hk).2 j (by omega)
  · rw [vc _ _ (by omega) (by omega), uv _ _ (by decide) (by decide), show 15 + 3 * k + j = 15 + (3 * k + j) by omega, s136 _ (by omega), a6 k hk j hj]
    exact ((e1 3 (by decide)).2.2 k hk).2 j (by omega)
end GLU
