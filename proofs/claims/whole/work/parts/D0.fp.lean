/-! A QUESTION IS READ: what it leaves -/
section QFP
variable {M N : sMem} {D Do G P E C W n pc pn : Nat} {c0 c1 c2 : List Nat} {u : Nat → Nat → Int32}
theorem fp_v (hA : PA M) (hF : FP 8 M N) {a k : Nat} (h1 : a < 187) (h2 : a ≠ 1) (h3 : a ≠ 8) (h4 : a ≠ 9) : N.2.1 a k = M.2.1 a k := by
  refine hF.2.1 a k (by have := hA.1; omega) (tp_no h2) h3 (fun z => ?_)
  obtain ⟨_, q, m, s, a2, _, _, _, _, a7⟩ := hA.2.1 8 (by decide)
  rw [a2] at z
  cases z
  omega
theorem fp_prg (hA : PA M) (hF : FP 8 M N) {p : Nat} (hp : p ∈ prgL) (hne : p ≠ 8) {cs : List Nat} (h : ∃ q n, Prg M p q n cs ∧ (q = p + 1 ∨ 187 ≤ q)) : ∃ q n, Prg N p q n cs ∧ (q = p + 1 ∨ 187 ≤ q) := by
  obtain ⟨q, n, ⟨a1, a2, a3, a4, a5, a6, a7⟩, a8⟩ := h
  have hr : N.2.2.2 p 0 = M.2.2.2 p 0 := hF.2.2.2.1 p 0 (lt_of_sh a1) (fun z => hne z.1)
  have hd : M.2.2.2 8 0 ≠ some q := fun z => hA.2.2 8 (by decide) p hp (fun y => hne y.symm) (by rw [z, a2])
  have pl : ∀ p ∈ prgL, 8 ≤ p ∧ p ≤ 53 := by decide
  have hp2 := pl p hp
  have hnp : ∀ p ∈ prgL, p + 1 ≠ 8 := by decide
  have h8 : M.2.2.2 8 0 ≠ some p := fun z => by
    obtain ⟨_, q', m, s, b2, _, _, _, _, b7⟩ := hA.2.1 8 (by decide)
    rw [b2] at z
    cases z
    have h9 : (9 : Nat) ∉ prgL := by decide
    rcases b7 with y | y
    · rw [y] at hp; exact h9 hp
    · omega
  refine ⟨q, n, ⟨hF.1 _ _ a1, by rw [hr]; exact a2, hF.1 _ _ a3, ?_, a5, a6, fun i hi => ?_⟩, a8⟩
  · rw [hF.2.1 p 1 (lt_of_sh a1) (tp_no (by omega)) hne h8]; exact a4
  · have hq : q ≠ 8 := fun z => by
      rcases a8 with y | y
      · exact hnp p hp (by omega)
      · omega
    rw [hF.2.1 q i (lt_of_sh a3) (tp_no (by omega)) hq hd]; exact a7 i hi
theorem Cor.fp (h : Cor M D Do G P E C W c0 c1 c2 pc pn) (hF : FP 8 M N) (hAN : PA N) : Cor N D Do G P E C W c0 c1 c2 pc pn := by
  obtain ⟨k, ⟨t2, t3⟩, ⟨u1, u2⟩, ⟨⟨r1, hA, r3⟩, ⟨w1, w2⟩, r4, r5⟩⟩ := h
  have hl : 187 ≤ M.1.length := k.2.2.1.ln
  have hD : D = 10 ∨ D = 32 := k.2.2.1.hD
  have v : ∀ a k, a < 187 → a ≠ 1 → a ≠ 8 → a ≠ 9 → N.2.1 a k = M.2.1 a k := fun a k h1 h2 h3 h4 => fp_v hA hF h1 h2 h3 h4
  have rr : ∀ a k, a < M.1.length → a ≠ 8 → N.2.2.2 a k = M.2.2.2 a k := fun a k h1 h2 => hF.2.2.2.1 a k h1 (fun z => h2 z.1)
  obtain ⟨h1, h2, h3, ⟨h4, h5⟩, ⟨h6, h7⟩, h8, ⟨kc, h9, h10, h11⟩, h12⟩ := k
  have hc := h3.hc
  have eu : uR N = uR M := uR_cong (fun a k q1 q2 => v a k (by omega) (by omega) (by omega) (by omega))
  have e140 : N.2.1 140 = M.2.1 140 := funext fun k => v 140 k (by omega) (by omega) (by omega) (by omega)
  have hs : RefS N.1 N.2.2.2 := ⟨fun q hq => hF.1 _ _ (h1.1 q hq), fun q hq => by rw [rr 94 _ (by omega) (by omega)]; exact h1.2 q hq⟩
  have hcl : ∀ q ∈ clsRf, q.1 < 187 ∧ q.1 ≠ 8 := by decide +kernel
  have hcN : ClsS N.1 N.2.2.2 := ⟨fun q hq => hF.1 _ _ (hc.1 q hq), fun q hq => by rw [rr q.1 q.2.1 (by have := (hcl q hq).1; omega) (hcl q hq).2]; exact hc.2 q hq⟩
  have hV : SV (M.2.1 140) N 54 G E C := h6.sm (fun _ => rfl) (fun j k hj => v _ _ (by omega) (by omega) (by omega) (by omega))
  have hlN : 187 ≤ N.1.length := hAN.1
  have hcv : CV (uR M) N D G P E C W c0 c1 c2 := by
    obtain ⟨_, ⟨b1, b2, b3, b4⟩, ⟨d1, d2, d3, d4, d5, d6, d7⟩, g, w, e, c, p⟩ := h3
    refine ⟨⟨hcN, hD, hlN⟩, ⟨by rw [rr 0 2 (by omega) (by omega)]; exact b1, by rw [rr 67 3 (by omega) (by omega)]; exact b2, by rw [rr 76 1 (by omega) (by omega)]; exact b3, by rw [rr 80 1 (by omega) (by omega)]; exact b4⟩, ⟨?_, ?_, ?_, ?_, ?_, ?_, ?_⟩, fun i hi => ?_, fun i j hi hj => ?_, fun i j hi hj => ?_, fun i j hi hj => ?_, fun hz => ?_⟩
    · rw [v _ _ (by omega) (by omega) (by omega) (by omega)]; exact d1
    · rw [v _ _ (by omega) (by omega) (by omega) (by omega)]; exact d2
    · rw [v _ _ (by omega) (by omega) (by omega) (by omega)]; exact d3
    · rw [v _ _ (by omega) (by omega) (by omega) (by omega)]; exact d4
    · rw [v _ _ (by omega) (by omega) (by omega) (by omega)]; exact d5
    · rw [v _ _ (by omega) (by omega) (by omega) (by omega)]; exact d6
    · rw [v _ _ (by omega) (by omega) (by omega) (by omega)]; exact d7
    · rw [v _ _ (by omega) (by omega) (by omega) (by omega)]; exact g i hi
    · rw [v _ _ (by omega) (by omega) (by omega) (by omega)]; exact w i j hi hj
    · rw [v _ _ (by omega) (by omega) (by omega) (by omega)]; exact e i j hi hj
    · rw [v _ _ (by omega) (by omega) (by omega) (by omega)]; exact c i j hi hj
    · obtain ⟨p0, p1, p2⟩ := p hz
      exact ⟨fp_prg hA hF (by rcases hD with rfl | rfl <;> decide) (by omega) p0, fp_prg hA hF (by rcases hD with rfl | rfl <;> decide) (by omega) p1, fp_prg hA hF (by rcases hD with rfl | rfl <;> decide) (by omega) p2⟩
  have hrows : RowsI (uR M) N G c0 := by
    have e77 : ∀ w, N.2.2.2 77 w = M.2.2.2 77 w := fun w => rr 77 w (by omega) (by omega)
    refine ⟨fun w q hw hq => ?_, fun w w' q hw hw' a b => h4.2.1 w w' q hw hw' (by rw [← e77]; exact a) (by rw [← e77]; exact b), fun w hw h1 => ?_⟩
    · rw [e77] at hq
      exact ⟨(h4.1 w q hw hq).1, hF.1 _ _ (h4.1 w q hw hq).2⟩
    · rw [v 78 w (by omega) (by omega) (by omega) (by omega)] at h1
      obtain ⟨q, a1, a2⟩ := h4.2.2 w hw h1
      refine ⟨q, by rw [e77]; exact a1, fun g m hg hm => ?_⟩
      rw [show N.2.2.1 q = M.2.2.1 q from funext fun k => hF.2.2.1 q k (lt_of_sh (h4.1 w q hw a1).2)]
      exact a2 g m hg hm
  refine ⟨⟨hs, by rw [eu]; exact h2, by rw [eu]; exact hcv, ⟨by rw [eu]; exact hrows, fun k hk => by rw [hF.2.2.1 74 k (by omega)]; exact h5 k hk⟩, ⟨by rw [e140]; exact hV, by rw [e140]; exact h7⟩, by rw [v 94 70 (by omega) (by omega) (by omega) (by omega)]; exact h8, ⟨kc, h9, by rw [e140]; exact h10, by rw [v 54 7 (by omega) (by omega) (by omega) (by omega)]; exact h11⟩, by rw [eu, v 94 57 (by omega) (by omega) (by omega) (by omega)]; exact h12⟩, ⟨t2.fr (fun a k q1 q2 => v a k (by omega) (by omega) (by omega) (by omega)) (fun k => hF.2.2.1 132 k (by omega)), t3.fr (fun k => v 59 k (by omega) (by omega) (by omega) (by omega)) (fun k => v 140 k (by omega) (by omega) (by omega) (by omega))⟩, ⟨u1.fr hF.1 (fun j => rr 66 j (by omega) (by omega)) (fun a k ha hq => rr a k (lt_of_sh hq) (by omega)), ?_⟩, ⟨?_, hAN, Nat.le_trans hF.2.2.2.2.2 r3⟩, ?_, ?_, r5⟩
  · exact u2.fr u1 (v 0 7 (by omega) (by omega) (by omega) (by omega)) (v 0 8 (by omega) (by omega) (by omega) (by omega)) (v 94 85 (by omega) (by omega) (by omega) (by omega)) (v 94 86 (by omega) (by omega) (by omega) (by omega)) (fun k => v 155 k (by omega) (by omega) (by omega) (by omega)) (fun j => rr 66 j (by omega) (by omega)) (fun a k q ha hq hs => hF.2.1 a k (lt_of_sh hq) (tp_no (by omega)) (by omega) (fun z => hA.nS (by decide) z hq hs))
  · exact r1.fr (fun c k hc => v c k (by unfold isWc at hc; omega) (by unfold isWc at hc; omega) (by unfold isWc at hc; omega) (by unfold isWc at hc; omega))
  · exact ⟨w1.fr (fun a k q1 q2 => v a k (by omega) (by omega) (by omega) (by omega)), w2.fr (fun a k q1 q2 => v a k (by omega) (by omega) (by omega) (by omega))⟩
  · rw [rr 0 3 (by omega) (by omega)]; exact r4
theorem ra_ix {a k : Nat} (h : iX a k = true) : raX a k = false := Bool.eq_false_iff.mpr (fun y => by
  unfold raX rqX rlX qX at y
  unfold iX at h
  simp only [Bool.or_eq_true, Bool.and_eq_true, beq_iff_eq, decide_eq_true_eq] at h y
  omega)
end QFP
