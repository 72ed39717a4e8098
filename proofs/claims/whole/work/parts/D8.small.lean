/-! WHAT a question asks of a car: bounds -/
section QSM
variable {D G P E C W c m n fr to : Nat} {c0 c1 c2 cs : List Nat} {w : Nat → Int32} {u : Nat → Nat → Int32} {cl : Nat → Nat → Bool}
theorem rch_in (hu : DU u G P E C W c0 c1 c2) (hfr : fr < P) (h : rch u cl W P m fr n to) : to < P := by
  rcases rch_iff.mp h with ⟨_, z⟩ | ⟨t, _, p, hp, _, ⟨z, _⟩ | ⟨k, hk, _, _, z⟩⟩
  · omega
  · omega
  · have hw := hu.way hk
    rcases z with ⟨_, z⟩ | ⟨_, z⟩
    · omega
    · omega
theorem drvF_out (hu : DU u G P E C W c0 c1 c2) (hfr : fr < P) (hto : P ≤ to) : drvF u cl W P m fr to = mI := by
  rcases drvF_P (u := u) (cl := cl) (W := W) (P := P) (m0 := m) (fr := fr) (to := to) with ⟨z, _⟩ | ⟨k, _, _, z, _⟩
  · exact z
  · have := rch_in hu hfr z
    omega
theorem cw_out {g t : Nat} (hg : G ≤ g) : cw u c0 G E w g t = false := by
  unfold cw clS
  rw [decide_eq_false (by omega)]; rfl
theorem envQ_rg (hu : DU u G P E C W c0 c1 c2) (hw : WG w G P E C) (hc : c < C) (k : Nat) : -1000000 ≤ envQ u w (wtS u c0 G E W P w c) c k ∧ envQ u w (wtS u c0 G E W P w c) c k ≤ 1000000 := by
  have hb := hu.2.1
  have hcar := hu.car hc
  obtain ⟨w1, w2, w3, w4, w5, kk, w6, w7⟩ := hw.2.2.2 c hc
  obtain ⟨d, d1, d2⟩ := hw.1
  unfold envQ
  rw [d2, w1, w2, w7, hcar.1, nI_i (by omega), nI_i (by omega), nI_i (by omega), nI_i (by omega), nI_i (by omega)]
  have ht : -1000000 ≤ (wtS u c0 G E W P w c).toInt ∧ (wtS u c0 G E W P w c).toInt ≤ 1000000 := by
    rcases wt_rg (u := u) (c0 := c0) (G := G) (E := E) (W := W) (P := P) (w := w) (c := c) with z | ⟨n, n1, n2⟩
    · rw [z]; decide
    · rw [n2, nI_i (by omega)]; omega
  have h5 := hcar.2
  split
  · omega
  · split
    · exact ht
    · split
      · omega
      · split
        · omega
        · split
          · omega
          · split <;> omega
theorem envQ_ok (hu : DU u G P E C W c0 c1 c2) (hw : WG w G P E C) (hc : c < C) : Env (envQ u w (wtS u c0 G E W P w c) c) (shQ cl m) (drQ u cl W P m fr) cs := fun x _ => ⟨fun _ _ => envQ_rg hu hw hc _, fun _ _ v => ⟨shQ_rg, drQ_rg⟩⟩
end QSM
