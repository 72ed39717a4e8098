/-! THE CLASS's district(): the answer -/
/-- what taking over leaves -/
def TK (M N : sMem) (D Do n : Nat) : Prop := N.1 = M.1 ∧ N.2.2.1 = M.2.2.1 ∧ (∀ a k, N.2.2.2 a k = if (a = 0 ∧ k = 2) ∨ (a = 67 ∧ k = 3) ∨ (a = 80 ∧ k = 1) ∨ (a = 76 ∧ k = 1) then some D else if a = 0 ∧ k = 3 then some Do else M.2.2.2 a k) ∧
  (∀ a k, a ≠ 78 → ¬ (54 ≤ a ∧ a ≤ 58) → ¬ (a = 1 ∧ k = 1) → ¬ (a = 0 ∧ (k = 7 ∨ k = 13)) → N.2.1 a k = M.2.1 a k) ∧ (N.2.1 1 1 = 0 ∧ N.2.1 0 7 = 0 ∧ N.2.1 0 13 = 0) ∧ (∀ k, k < 500 → N.2.1 78 k = 0) ∧ (N.2.1 54 0 = 0 ∧ N.2.1 54 1 = 0 ∧ N.2.1 54 7 = 0) ∧ (∀ k, k < 5 → N.2.1 55 k = 0 ∧ N.2.1 58 k = 0) ∧ ∀ c, c < n → N.2.1 56 c = M.2.1 (D + 15) (4 * c + 0) ∧ N.2.1 57 c = M.2.1 (D + 15) (4 * c + 1)
section CD2
variable {b : Nat → Int32} {n e t D Do : Nat} {T : Tk} {sa sz : Nat → Nat} {M N : sMem} {d : Ds}
theorem c_over (hc : ClsS M.1 M.2.2.2) (hD : D = 10 ∨ D = 32) (h2 : M.2.2.2 0 2 = some Do) (h3 : M.2.2.2 0 3 = some D) (hn : M.2.1 (D + 13) 3 = nI n) (hn5 : n ≤ 5) (x3 : Int32) : ∃ N, ((pI 10 10 1 M 1 ((0 : Int32))).bind fun M6 => (gR 11 20 2 M6 0).bind fun x9 => (gR 11 20 3 M6 0).bind fun x10 => (pR 11 20 2 M6 0 x10).bind fun M11 => (pR 11 20 3 M11 0 x9).bind fun M12 => (gR 11 20 9 M12 0).bind fun x13 => (gR 11 20 2 M12 0).bind fun x14 => (f_X0_take x13 x14 M12).bind fun M15 => (gR 11 20 4 M15 0).bind fun x16 => (gR 11 20 2 M15 0).bind fun x17 => (f_X8_start x16 x17 M15).bind fun M18 => (pI 11 20 7 M18 0 ((0 : Int32))).bind fun M19 => (pI 11 20 13 M19 0 ((0 : Int32))).bind fun M20 => some ((x3, M20))) = some (x3, N) ∧ TK M N D Do n := by
  obtain ⟨M1, m1⟩ : ∃ M1, M1 = wrI M 1 1 0 := ⟨_, rfl⟩
  have c1 : ClsS M1.1 M1.2.2.2 := by rw [m1]; exact hc
  have r1 : M1.2.2.2 = M.2.2.2 := by rw [m1]; rfl
  obtain ⟨M2, m2⟩ : ∃ M2, M2 = wrR M1 0 2 (some D) := ⟨_, rfl⟩
  have c2 : ClsS M2.1 M2.2.2.2 := by rw [m2]; exact cls_wr c1 (by decide)
  obtain ⟨M3, m3⟩ : ∃ M3, M3 = wrR M2 0 3 (some Do) := ⟨_, rfl⟩
  have c3 : ClsS M3.1 M3.2.2.2 := by rw [m3]; exact cls_wr c2 (by decide)
  have q3 : ∀ a k, M3.2.2.2 a k = if a = 0 ∧ k = 3 then some Do else if a = 0 ∧ k = 2 then some D else M.2.2.2 a k := fun a k => by rw [m3, wrR_get, m2, wrR_get, r1]
  have i3 : ∀ a k, M3.2.1 a k = if a = 1 ∧ k = 1 then 0 else M.2.1 a k := fun a k => by rw [m3, show (wrR M2 0 3 (some Do)).2.1 = M2.2.1 from rfl, m2, show (wrR M1 0 2 (some D)).2.1 = M1.2.1 from rfl, m1, wrI_get]
  obtain ⟨M4, t1, c4, t3, t4, t5, t6, t7⟩ := c_take (D := D) c3
  have i4 : ∀ a k, a ≠ 78 → M4.2.1 a k = if a = 1 ∧ k = 1 then 0 else M.2.1 a k := fun a k h => by rw [t6 a k h, i3]
  obtain ⟨M5, s1, s2, s3, s4, s5, s6, s7⟩ := c_begin (n := n) c4 hD (by rw [i4 _ _ (by omega), if_neg (by omega)]; exact hn) hn5
  have c5 : ClsS M5.1 M5.2.2.2 := by rw [s2, s3]; exact c4
  rw [pI_of (cs1 hc), Option.bind_some, ← m1, gR_of (cs0 c1) (by rw [r1]; exact h2), Option.bind_some, gR_of (cs0 c1) (by rw [r1]; exact h3), Option.bind_some, pR_of (cs0 c1), Option.bind_some, ← m2, pR_of (cs0 c2), Option.bind_some, ← m3, gr0_9 c3, Option.bind_some, gR_of (cs0 c3) (show M3.2.2.2 0 2 = some D by rw [q3, if_neg (by omega), if_pos (by omega)]), Option.bind_some, t1, Option.bind_some, gr0_4 c4, Option.bind_some, gR_of (cs0 c4) (show M4.2.2.2 0 2 = some D by rw [t5, if_neg (by omega), q3, if_neg (by omega), if_pos (by omega)]), Option.bind_some, s1, Option.bind_some, pI_of (cs0 c5), Option.bind_some, pI_of (M := wrI M5 0 7 0) (cs0 c5), Option.bind_some]
  refine ⟨_, rfl, ?_, ?_, fun a k => ?_, fun a k h1 h2 h3 h4 => ?_, ⟨?_, ?_, ?_⟩, fun k hk => ?_, ⟨?_, ?_, ?_⟩, fun k hk => ⟨?_, ?_⟩, fun c hc => ⟨?_, ?_⟩⟩
  · show M5.1 = M.1
    rw [s2, t3, m3, m2, m1]; rfl
  · show M5.2.2.1 = M.2.2.1
    rw [s3, t4, m3, m2, m1]; rfl
  · show M5.2.2.2 a k = _
    rw [s3, t5, q3]
    by_cases w1 : (a = 67 ∧ k = 3) ∨ (a = 80 ∧ k = 1) ∨ (a = 76 ∧ k = 1)
    · rw [if_pos w1, if_pos (by omega)]
    · rw [if_neg w1]
      by_cases w2 : a = 0 ∧ k = 3
      · rw [if_pos w2, if_neg (by omega), if_pos w2]
      · rw [if_neg w2]
        by_cases w3 : a = 0 ∧ k = 2
        · rw [if_pos w3, if_pos (by omega)]
        · rw [if_neg w3, if_neg (by omega), if_neg w2]
  · rw [wrI_ne (by omega), wrI_ne (by omega), s4 a k h2, i4 a k h1, if_neg h3]
  · rw [wrI_ne (by omega), wrI_ne (by omega), s4 _ _ (by omega), i4 _ _ (by omega), if_pos (by omega)]
  · rw [wrI_ne (by omega), wrI_eq]
  · rw [wrI_eq]
  · rw [wrI_ne (by omega), wrI_ne (by omega), s4 _ _ (by omega)]; exact t7 k hk
  · rw [wrI_ne (by omega), wrI_ne (by omega)]; exact s5.1
  · rw [wrI_ne (by omega), wrI_ne (by omega)]; exact s5.2.1
  · rw [wrI_ne (by omega), wrI_ne (by omega)]; exact s5.2.2
  · rw [wrI_ne (by omega), wrI_ne (by omega)]; exact (s6 k hk).1
  · rw [wrI_ne (by omega), wrI_ne (by omega)]; exact (s6 k hk).2
  · rw [wrI_ne (by omega), wrI_ne (by omega), (s7 c hc).1, i4 _ _ (by omega), if_neg (by omega)]
  · rw [wrI_ne (by omega), wrI_ne (by omega), (s7 c hc).2, i4 _ _ (by omega), if_neg (by omega)]
theorem c_dist (hC : CT b n M) (hA : PA M) (hD : (D = 10 ∧ Do = 32) ∨ (D = 32 ∧ Do = 10)) (hW : TWa M D) (h2 : M.2.2.2 0 2 = some Do) (h3 : M.2.2.2 0 3 = some D) : ∃ v N M1 N1 e sa sz, f_X11_district 0 M = some (v, N) ∧ Fr srX q0 M M1 ∧ Lex b n M1.2.1 e sa sz ∧ DZ b n M1.2.1 e D M1 N1 v (diR b M1.2.1 sa sz) ∧ match diR b M1.2.1 sa sz with | .inl q => N = wrI (wrI N1 1 1 0) 93 1 (N1.2.1 93 1 + 1) | .inr (d, k) => TK N1 N D Do (d.2.1 3).length := by
  have hD1 : D = 10 ∨ D = 32 := by omega
  obtain ⟨v, N1, M1, e, sa, sz, a1, a2, a3, a4⟩ := c_rdist hC hA hD1 hW
  have hc := hC.1
  have a4' := a4
  obtain ⟨z1, z2, z3⟩ := a4
  have hc1 := z2.2.1.1
  have rr : ∀ k, N1.2.2.2 0 k = M.2.2.2 0 k := fun k => by
    rw [z1.2.2.2.1 0 k (by have := lt_of_sh (cs0 (a2.hc hc)); omega) (fun i hi w => by have := w.1; unfold pr3 at this; omega), a2.2.1]
  unfold f_X11_district f_X11_refuse
  rw [sr0 hc, gr0_1 hc, Option.bind_some, gR_of (cs0 hc) h3, Option.bind_some, a1]
  dsimp only [Option.bind_some]
  rw [gr0_0 hc1, Option.bind_some]
  match z : diR b M1.2.1 sa sz with
  | .inl q =>
    rw [z] at z3 a4'
    dsimp only at z3
    have c6 : ClsS (wrI N1 1 1 0).1 (wrI N1 1 1 0).2.2.2 := hc1
    rw [pI_of (cs1 hc1), Option.bind_some, if_pos z3.1, sr0 c6, gr0_18 c6, Option.bind_some, show ldI 14 (wrI N1 1 1 0) 93 1 = some ((wrI N1 1 1 0).2.1 93 1) from ldI_n (j := 1) (cs93 c6) (by decide) (by decide), Option.bind_some, show ∀ x, stI (wrI N1 1 1 0) 93 1 x = some (wrI (wrI N1 1 1 0) 93 1 x) from fun x => stI_n (j := 1) (cs93 c6) (by decide) (by decide), wrI_ne (by omega)]
    refine ⟨v, _, M1, N1, e, sa, sz, by rw [z3.1]; rfl, a2, a3, ?_⟩
    rw [z]
    exact ⟨a4', rfl⟩
  | .inr (d, k) =>
    rw [z] at z3 a4'
    dsimp only at z3
    obtain ⟨y1, y2, y3, y4, y5, y6⟩ := z3
    have hC5 := y5.1.2.2 3 (by decide)
    have hv : ¬ v = -1 := fun w => by
      rw [y1] at w
      have w2 : nI k = mI := w
      rw [cneg (by omega)] at w2; exact w2
    simp only [if_neg hv]
    obtain ⟨N, o1, o2⟩ := c_over (n := (d.2.1 3).length) hc1 hD1 (by rw [rr]; exact h2) (by rw [rr]; exact h3) (y4.1 3 (by decide)).1 hC5 v
    rw [o1]
    refine ⟨v, N, M1, N1, e, sa, sz, rfl, a2, a3, ?_⟩
    rw [z]
    exact ⟨a4', o2⟩
end CD2
