/-! WHAT READING LEAVES of the other district -/
section KEP
variable {u : Nat → Nat → Int32} {M N : sMem} {D Do G P E C W : Nat} {c0 c1 c2 : List Nat}
theorem sf_v (hA : PA M) (hD : D = 10 ∨ D = 32) (hF : SF D M N) {a k : Nat} (h1 : a < 187) (h2 : tpX a k = false) (h3 : ¬ (D ≤ a ∧ a ≤ D + 21)) : N.2.1 a k = M.2.1 a k := by
  have hl := hA.1
  refine hF.2.1 a k (by omega) h2 h3 (fun i hi z => ?_)
  have hp := pr3_in (D := D) hD hi
  have hq := (hA.2.1 _ hp).q1 hp z
  have hpr : D + 16 ≤ pr3 D i ∧ pr3 D i ≤ D + 20 := by unfold pr3; omega
  omega
theorem sf_prg (hA : PA M) (hD : (D = 10 ∧ Do = 32) ∨ (D = 32 ∧ Do = 10)) (hF : SF D M N) {wh : Nat} (hw : wh < 3) {cs : List Nat} (h : ∃ q n, Prg M (pr3 Do wh) q n cs ∧ (q = pr3 Do wh + 1 ∨ 187 ≤ q)) : ∃ q n, Prg N (pr3 Do wh) q n cs ∧ (q = pr3 Do wh + 1 ∨ 187 ≤ q) := by
  obtain ⟨q, n, ⟨p1, p2, p3, p4, p5, p6, p7⟩, p8⟩ := h
  have hl := hA.1
  have hD1 : D = 10 ∨ D = 32 := by omega
  have hD2 : Do = 10 ∨ Do = 32 := by omega
  have hp2 := pr3_in (D := Do) hD2 hw
  have hpr : Do + 16 ≤ pr3 Do wh ∧ pr3 Do wh ≤ Do + 20 := by unfold pr3; omega
  have hne : ∀ i, i < 3 → pr3 D i ≠ pr3 Do wh := fun i hi => by unfold pr3; omega
  refine ⟨q, n, ⟨hF.1 _ _ p1, ?_, hF.1 _ _ p3, ?_, p5, p6, fun i hi => ?_⟩, p8⟩
  · rw [hF.2.2.2.1 _ _ (by omega) (fun i hi z => hne i hi z.1.symm)]; exact p2
  · rw [sf_v hA hD1 hF (by omega) (tp_out (by omega)) (by omega)]; exact p4
  · rw [hF.2.1 q i (lt_of_sh p3) (tp_out (by omega)) (by omega) (fun j hj z => ?_)]
    · exact p7 i hi
    · have := hA.2.2 _ (pr3_in (D := D) hD1 hj) _ hp2 (hne j hj)
      exact this (z.trans p2.symm)
theorem cv_sf (hA : PA M) (hD : (D = 10 ∧ Do = 32) ∨ (D = 32 ∧ Do = 10)) (h : CV u M Do G P E C W c0 c1 c2) (hF : SF D M N) (hcN : ClsS N.1 N.2.2.2) : CV u N Do G P E C W c0 c1 c2 := by
  have hD1 : D = 10 ∨ D = 32 := by omega
  have rr : ∀ a k, a < 94 → (∀ i, i < 3 → a ≠ pr3 D i) → N.2.2.2 a k = M.2.2.2 a k := fun a k ha hi => hF.2.2.2.1 a k (by have := hA.1; omega) (fun i h z => hi i h z.1)
  have vv : ∀ a k, Do ≤ a → a ≤ Do + 21 → N.2.1 a k = M.2.1 a k := fun a k h1 h2 => sf_v hA hD1 hF (by omega) (tp_out (by omega)) (by omega)
  have hl : 187 ≤ N.1.length := Nat.le_trans hA.1 hF.len
  obtain ⟨⟨h1, h2, h3⟩, ⟨r1, r2, r3, r4⟩, ⟨i1, i2, i3, i4, i5, i6, i7⟩, v1, v2, v3, v4, pg⟩ := h
  have pg0 := fun z => sf_prg (wh := 0) hA hD hF (by decide) (pg z).1
  have pg1 := fun z => sf_prg (wh := 1) hA hD hF (by decide) (pg z).2.1
  have pg2 := fun z => sf_prg (wh := 2) hA hD hF (by decide) (pg z).2.2
  refine ⟨⟨hcN, h2, hl⟩, ⟨?_, ?_, ?_, ?_⟩, ⟨?_, ?_, ?_, ?_, ?_, ?_, ?_⟩, fun g hg => ?_, fun k j hk hj => ?_, fun k j hk hj => ?_, fun k j hk hj => ?_, fun z => ⟨pg0 z, pg1 z, pg2 z⟩⟩
  all_goals clear pg pg0 pg1 pg2
  · rw [rr _ _ (by decide) (fun i hi => by unfold pr3; omega)]; exact r1
  · rw [rr _ _ (by decide) (fun i hi => by unfold pr3; omega)]; exact r2
  · rw [rr _ _ (by decide) (fun i hi => by unfold pr3; omega)]; exact r3
  · rw [rr _ _ (by decide) (fun i hi => by unfold pr3; omega)]; exact r4
  · rw [vv _ _ (by omega) (by omega)]; exact i1
  · rw [vv _ _ (by omega) (by omega)]; exact i2
  · rw [vv _ _ (by omega) (by omega)]; exact i3
  · rw [vv _ _ (by omega) (by omega)]; exact i4
  · rw [vv _ _ (by omega) (by omega)]; exact i5
  · rw [vv _ _ (by omega) (by omega)]; exact i6
  · rw [vv _ _ (by omega) (by omega)]; exact i7
  · rw [vv _ _ (by omega) (by omega)]; exact v1 g hg
  · rw [vv _ _ (by omega) (by omega)]; exact v2 k j hk hj
  · rw [vv _ _ (by omega) (by omega)]; exact v3 k j hk hj
  · rw [vv _ _ (by omega) (by omega)]; exact v4 k j hk hj
end KEP
