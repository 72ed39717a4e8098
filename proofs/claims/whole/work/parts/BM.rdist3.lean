/-! THE REFERENCE's district stands as it was told -/
section RD3
variable {b : Nat → Int32} {n e t k wh : Nat} {T : Tk} {sa sz : Nat → Nat} {M N : sMem} {d : Ds}
theorem dfl_gd : ∀ wh, wh < 3 → tyA (dfl wh) [] = some [wh == 0] ∧ ∀ x ∈ dfl wh, okCode wh x = true := by decide
theorem fcd_gd (h : GdC d) (hw : wh < 3) : GoodC wh (fcd d wh) := by
  unfold fcd GoodC
  cases z : d.2.2 wh with
  | none => exact dfl_gd wh hw
  | some c => exact h wh hw c z
theorem nI_int {m : Nat} (h : m < 2147483648) : (nI m).toInt = m := by
  rw [nI_toInt h]
theorem rows_g (hG : GF d t) {kd i : Nat} (hk : kd < 5) (h : i < (d.2.1 kd).length) : rwG d kd (d.2.1 kd)[i].2 := hG.2.2.2.1 kd hk _ (List.getElem_mem h)
theorem du_of {C : Nat} (hR : RD M d) (hG : GF d t) (ht : t ≤ 1600) (hm : ∃ m, 5 ≤ m ∧ m ≤ 60 ∧ d.1.1 = nI m) (hS : Std M N (cdL d) C) : DU N.2.1 (d.2.1 0).length (d.2.1 1).length (d.2.1 2).length (d.2.1 3).length (d.2.1 4).length (fcd d 0) (fcd d 1) (fcd d 2) := by
  obtain ⟨hRN, a3, a4, a5, a6, a7, a8, a9⟩ := hR
  obtain ⟨_, ⟨s130, s131, s137, s138, s133, s134, s135, s136, s139, _⟩, _⟩ := hS
  obtain ⟨m, m1, m2, m3⟩ := hm
  obtain ⟨gd, gc, ⟨m', p, q1, q2, q3⟩, gr, gk⟩ := hG
  have hb : ∀ kd, kd < 5 → (d.2.1 kd).length ≤ mxK kd := gd.2.2
  have b0 := hb 0 (by decide)
  have b1 := hb 1 (by decide)
  have b2 := hb 2 (by decide)
  have b3 := hb 3 (by decide)
  have b4 := hb 4 (by decide)
  replace b0 : (d.2.1 0).length ≤ 6 := b0
  replace b1 : (d.2.1 1).length ≤ 7 := b1
  replace b2 : (d.2.1 2).length ≤ 5 := b2
  replace b3 : (d.2.1 3).length ≤ 5 := b3
  replace b4 : (d.2.1 4).length ≤ 12 := b4
  have e0 : N.2.1 130 2 = nI m := by rw [s130 0 (by decide), a7.1]; exact m3
  have e1 : N.2.1 130 3 = nI p := by rw [s130 1 (by decide), a7.2, q1]
  have hc : ∀ wh, wh < 3 → CodeU N.2.1 wh (fcd d wh) := by
    intro wh hw
    have := a9 wh hw
    unfold fcd CodeU
    cases z : d.2.2 wh with
    | none => rw [z] at this; exact Or.inl ⟨by rw [s137 wh hw]; exact this, rfl⟩
    | some c =>
      rw [z] at this
      obtain ⟨fr, f1, f2, f3, f4⟩ := this
      refine Or.inr ⟨fr, by rw [s137 wh hw]; exact f1, by rw [s138 wh hw]; exact f2, ?_, fun i hi => ?_⟩
      · show fr + c.length ≤ 1600
        omega
      · have hi' : i < c.length := hi
        rw [s139 (fr + i) (by omega)]; exact f4 i hi'
  refine ⟨⟨?_, ?_, ?_, ?_, ?_⟩, ⟨b0, b1, b2, b3, b4⟩, ⟨?_, ?_, ?_, ?_⟩, fun g hg => ?_, fun x hx => ?_, fun x hx => ?_, fun x hx => ?_, fun z => ?_, fun _ => ⟨⟨hc 0 (by decide), hc 1 (by decide), hc 2 (by decide)⟩, fcd_gd gc (by decide), fcd_gd gc (by decide), fcd_gd gc (by decide)⟩⟩
  · rw [s131 0 (by decide)]; exact hRN.1 0 (by decide)
  · rw [s131 1 (by decide)]; exact hRN.1 1 (by decide)
  · rw [s131 2 (by decide)]; exact hRN.1 2 (by decide)
  · rw [s131 3 (by decide)]; exact hRN.1 3 (by decide)
  · rw [s131 4 (by decide)]; exact hRN.1 4 (by decide)
  · rw [e0, nI_int (by omega)]; omega
  · rw [e0, nI_int (by omega)]; omega
  · rw [e1, nI_int (by omega)]; omega
  · rw [e1, nI_int (by omega)]; omega
  · obtain ⟨v, v1, v2⟩ := (gr 0 (by decide) _ (List.getElem_mem hg)).1 rfl
    have : N.2.1 133 (6 + g) = nI v := by rw [s133 g (by omega), a3 g hg, v2]; rfl
    rw [this, nI_int (by omega)]; omega
  · obtain ⟨v, w, y, v1, v2, v3, v4⟩ := (gr 2 (by decide) _ (List.getElem_mem hx)).2.2.1 rfl
    have t0 : N.2.1 135 (15 + 3 * x) = nI v := by rw [s135 (3 * x) (by omega), show 3 * x = 3 * x + 0 from rfl, a5 x hx 0 (by decide), v4]; rfl
    have t1 : N.2.1 135 (16 + 3 * x) = nI w := by rw [show 16 + 3 * x = 15 + (3 * x + 1) by omega, s135 (3 * x + 1) (by omega), a5 x hx 1 (by decide), v4]; rfl
    have t2 : N.2.1 135 (17 + 3 * x) = nI y := by rw [show 17 + 3 * x = 15 + (3 * x + 2) by omega, s135 (3 * x + 2) (by omega), a5 x hx 2 (by decide), v4]; rfl
    rw [t0, t1, t2, nI_int (by omega), nI_int (by omega), nI_int (by omega)]; omega
  · obtain ⟨v, w, y, g, v1, v2, v3, v4⟩ := (gr 4 (by decide) _ (List.getElem_mem hx)).2.2.2.2 rfl
    have t0 : N.2.1 134 (48 + 4 * x) = nI v := by rw [s134 (4 * x) (by omega), show 4 * x = 4 * x + 0 from rfl, a4 x hx 0 (by decide), v3]; rfl
    have t1 : N.2.1 134 (49 + 4 * x) = nI w := by rw [show 49 + 4 * x = 48 + (4 * x + 1) by omega, s134 (4 * x + 1) (by omega), a4 x hx 1 (by decide), v3]; rfl
    have t2 : N.2.1 134 (50 + 4 * x) = nI y := by rw [show 50 + 4 * x = 48 + (4 * x + 2) by omega, s134 (4 * x + 2) (by omega), a4 x hx 2 (by decide), v3]; rfl
    have t3 : N.2.1 134 (51 + 4 * x) = g := by rw [show 51 + 4 * x = 48 + (4 * x + 3) by omega, s134 (4 * x + 3) (by omega), a4 x hx 3 (by decide), v3]; rfl
    refine ⟨v, w, y, t0, t1, t2, v1.1, v1.2.1, v1.2.2, v2.1, v2.2, ?_⟩
    rw [t3]
    rcases v4 with z | ⟨g', z1, z2⟩
    · exact Or.inl z
    · exact Or.inr ⟨g', z1, z2⟩
  · obtain ⟨v, w, y, v1, v2, v3, v4, v5⟩ := (gr 3 (by decide) _ (List.getElem_mem hx)).2.2.2.1 rfl
    exact ⟨y, by rw [show 17 + 3 * x = 15 + (3 * x + 2) by omega, s136 (3 * x + 2) (by omega), a6 x hx 2 (by decide), v5]; rfl, v4⟩
  · rw [e0, nI_int (by omega)] at z
    omega
end RD3
