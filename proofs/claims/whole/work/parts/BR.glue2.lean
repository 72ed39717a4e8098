/-! BOTH begin alike -/
section GL2
variable {b : Nat → Int32} {n e t D Do : Nat} {M N Nc N1 R1 : sMem} {d : Ds}
theorem now0_lo {u : Nat → Nat → Int32} {C j : Nat} (h : j < 12) : now0 u C j = 0 := by unfold now0; rw [if_neg (by omega)]
theorem now0_car {u : Nat → Nat → Int32} {C c : Nat} (h : c < C) : now0 u C (12 + 3 * c) = u 136 (3 * c) ∧ now0 u C (13 + 3 * c) = u 136 (3 * c + 1) ∧ now0 u C (14 + 3 * c) = 0 := by
  unfold now0
  refine ⟨?_, ?_, ?_⟩
  · rw [if_pos (by omega), if_pos (by omega), show 12 + 3 * c - 12 = 3 * c by omega]
  · rw [if_pos (by omega), if_neg (by omega), if_pos (by omega), show 13 + 3 * c - 12 = 3 * c + 1 by omega]
  · rw [if_pos (by omega), if_neg (by omega), if_neg (by omega)]
theorem upF0 {w : Nat → Int32} (h : ∀ g, g < 6 → w (1 + g) = 0) : ∀ G, G ≤ 6 → upF w G = 0
  | 0, _ => rfl
  | G + 1, hG => by
    have ih := upF0 h G (by omega)
    unfold upF
    rw [ih, h G (by omega)]
    rfl
theorem now_of {C : Nat} (hD : (D = 10 ∧ Do = 32) ∨ (D = 32 ∧ Do = 10)) (hE : CE N1 D d (fcd d)) (hG : GF d t) (hK : TK N1 Nc D Do (d.2.1 3).length) (hX : RfX Nc N) (hR : RD R1 d) (hS : Std R1 N (cdL d) (d.2.1 3).length) : SV (N.2.1 140) N 54 (d.2.1 0).length (d.2.1 2).length (d.2.1 3).length ∧ WG (N.2.1 140) (d.2.1 0).length (d.2.1 1).length (d.2.1 2).length (d.2.1 3).length := by
  obtain ⟨k1, k2, k3, k4, k5, k6, k7, k8, k9⟩ := hK
  obtain ⟨x1, x2, x3, x4⟩ := hX
  obtain ⟨_, _, _, _, _, s6, _⟩ := hS
  obtain ⟨_, a3, a4, a5, a6, _⟩ := hR
  have b0 : (d.2.1 0).length ≤ 6 := hG.1.2.2 0 (by decide)
  have b1 : (d.2.1 1).length ≤ 7 := hG.1.2.2 1 (by decide)
  have b2 : (d.2.1 2).length ≤ 5 := hG.1.2.2 2 (by decide)
  have b3 : (d.2.1 3).length ≤ 5 := hG.1.2.2 3 (by decide)
  have lo : ∀ j, j < 12 → N.2.1 140 j = 0 := fun j hj => by rw [s6 j (by omega)]; exact now0_lo hj
  have car : ∀ (c : Nat) (h : c < (d.2.1 3).length), N.2.1 140 (12 + 3 * c) = (d.2.1 3)[c].2.getD 0 0 ∧ N.2.1 140 (13 + 3 * c) = (d.2.1 3)[c].2.getD 1 0 ∧ N.2.1 140 (14 + 3 * c) = 0 := fun c h => by
    obtain ⟨n1, n2, n3⟩ := now0_car (u := R1.2.1) h
    rw [s6 _ (by omega), s6 _ (by omega), s6 _ (by omega), n1, n2, n3]
    exact ⟨a6 c h 0 (by decide), a6 c h 1 (by decide), rfl⟩
  have u0 : upF (N.2.1 140) (d.2.1 0).length = 0 := upF0 (fun g hg => lo (1 + g) (by omega)) _ b0
  refine ⟨⟨?_, ?_, fun x hx => ?_, fun c hc => ⟨?_, ?_, ?_⟩⟩, ⟨0, by decide, lo 0 (by decide)⟩, fun g hg => Or.inl (lo _ (by omega)), fun x hx => ?_, fun c hc => ?_⟩
  · rw [x3 _ _ (by omega), k7.1, lo 0 (by decide)]
  · rw [x3 _ _ (by omega), k7.2.1, u0]; rfl
  · rw [x3 _ _ (by omega), (k8 x (by omega)).1, lo _ (by omega)]
  · rw [x3 _ _ (by omega), (k9 c hc).1, (car c hc).1]
    exact ((hE.1 3 (by decide)).2.2 c hc).2 0 (by decide)
  · rw [x3 _ _ (by omega), (k9 c hc).2, (car c hc).2.1]
    exact ((hE.1 3 (by decide)).2.2 c hc).2 1 (by decide)
  · rw [x3 _ _ (by omega), (k8 c (by omega)).2, (car c hc).2.2]
  · have : LF (N.2.1 140) x = 0 := by unfold LF; rw [lo _ (by omega)]; rfl
    rw [this, lo _ (by omega)]
    exact ⟨rfl, by decide⟩
  · obtain ⟨p, q, f, v1, v2, v3, v4, v5⟩ := (hG.2.2.2.1 3 (by decide) _ (List.getElem_mem hc)).2.2.2.1 rfl
    have t0 : N.2.1 140 (12 + 3 * c) = nI p := by rw [(car c hc).1, v5]; rfl
    have t1 : N.2.1 140 (13 + 3 * c) = nI q := by rw [(car c hc).2.1, v5]; rfl
    have e0 : atS (N.2.1 140) c = p := by unfold atS; rw [t0, nI_int (by omega)]; rfl
    have e1 : gaS (N.2.1 140) c = q := by unfold gaS; rw [t1, nI_int (by omega)]; rfl
    rw [e0, e1, t0, t1, (car c hc).2.2]
    exact ⟨rfl, rfl, v1, v2, v3, 0, by decide, rfl⟩
end GL2
