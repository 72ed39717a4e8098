/-! THE CLASS reads a district -/
def wz (l : List (Nat × Nat)) (M : sMem) : sMem := l.foldl (fun M q => wrI M q.1 q.2 0) M
def clL (D : Nat) : List (Nat × Nat) := [(D, 0), (D + 1, 3), (D + 4, 3), (D + 7, 3), (D + 10, 3), (D + 13, 3), (D + 16, 1), (D + 18, 1), (D + 20, 1), (D, 9)]
def clX (D : Nat) : Nat → Nat → Bool := fun a _ => decide (D ≤ a) && decide (a ≤ D + 21)
theorem wz_c : ∀ (l : List (Nat × Nat)) (M : sMem), (wz l M).1 = M.1 ∧ (wz l M).2.2 = M.2.2 ∧ ∀ a k, (wz l M).2.1 a k = if (a, k) ∈ l then 0 else M.2.1 a k
  | [], M => ⟨rfl, rfl, fun a k => by rw [if_neg (by simp)]; rfl⟩
  | q :: l, M => by
    obtain ⟨h1, h2, h3⟩ := wz_c l (wrI M q.1 q.2 0)
    refine ⟨h1, h2, fun a k => ?_⟩
    rw [show wz (q :: l) M = wz l (wrI M q.1 q.2 0) from rfl, h3, wrI_get]
    by_cases z : (a, k) ∈ l
    · rw [if_pos z, if_pos (List.mem_cons_of_mem _ z)]
    · rw [if_neg z]
      by_cases w : a = q.1 ∧ k = q.2
      · rw [if_pos w, if_pos (by rw [w.1, w.2]; exact List.mem_cons_self ..)]
      · rw [if_neg w, if_neg (fun y => by
          rcases List.mem_cons.mp y with y | y
          · exact w ⟨by rw [← y], by rw [← y]⟩
          · exact z y)]
section CDI
variable {b : Nat → Int32} {n e t D kd wh : Nat} {T : Tk} {sa sz : Nat → Nat} {M N O : sMem} {s : Cs} {d : Ds}
theorem c_clear0 (hc : ClsS M.1 M.2.2.2) (hD : D = 10 ∨ D = 32) : f_X1_clear D M = some (wz (clL D) M) := by
  unfold f_X1_clear
  obtain ⟨M0, h0⟩ : ∃ N, N = wrI M D 0 0 := ⟨_, rfl⟩
  have c0 : ClsS M0.1 M0.2.2.2 := by rw [h0]; exact hc
  rw [srD hc hD, pI_of (dsh0 hc hD), Option.bind_some, ← h0]
  obtain ⟨M1, h1⟩ : ∃ N, N = wrI M0 (D + 1) 3 0 := ⟨_, rfl⟩
  have c1 : ClsS M1.1 M1.2.2.2 := by rw [h1]; exact c0
  rw [grD_1 c0 hD, Option.bind_some, pI_of (dsh1 c0 hD), Option.bind_some, ← h1]
  obtain ⟨M2, h2⟩ : ∃ N, N = wrI M1 (D + 4) 3 0 := ⟨_, rfl⟩
  have c2 : ClsS M2.1 M2.2.2.2 := by rw [h2]; exact c1
  rw [grD_2 c1 hD, Option.bind_some, pI_of (dsh4 c1 hD), Option.bind_some, ← h2]
  obtain ⟨M3, h3⟩ : ∃ N, N = wrI M2 (D + 7) 3 0 := ⟨_, rfl⟩
  have c3 : ClsS M3.1 M3.2.2.2 := by rw [h3]; exact c2
  rw [grD_3 c2 hD, Option.bind_some, pI_of (dsh7 c2 hD), Option.bind_some, ← h3]
  obtain ⟨M4, h4⟩ : ∃ N, N = wrI M3 (D + 10) 3 0 := ⟨_, rfl⟩
  have c4 : ClsS M4.1 M4.2.2.2 := by rw [h4]; exact c3
  rw [grD_4 c3 hD, Option.bind_some, pI_of (dsh10 c3 hD), Option.bind_some, ← h4]
  obtain ⟨M5, h5⟩ : ∃ N, N = wrI M4 (D + 13) 3 0 := ⟨_, rfl⟩
  have c5 : ClsS M5.1 M5.2.2.2 := by rw [h5]; exact c4
  rw [grD_5 c4 hD, Option.bind_some, pI_of (dsh13 c4 hD), Option.bind_some, ← h5]
  obtain ⟨M6, h6⟩ : ∃ N, N = wrI M5 (D + 16) 1 0 := ⟨_, rfl⟩
  have c6 : ClsS M6.1 M6.2.2.2 := by rw [h6]; exact c5
  rw [grD_6 c5 hD, Option.bind_some, pI_of (dsh16 c5 hD), Option.bind_some, ← h6]
  obtain ⟨M7, h7⟩ : ∃ N, N = wrI M6 (D + 18) 1 0 := ⟨_, rfl⟩
  have c7 : ClsS M7.1 M7.2.2.2 := by rw [h7]; exact c6
  rw [grD_7 c6 hD, Option.bind_some, pI_of (dsh18 c6 hD), Option.bind_some, ← h7]
  obtain ⟨M8, h8⟩ : ∃ N, N = wrI M7 (D + 20) 1 0 := ⟨_, rfl⟩
  have c8 : ClsS M8.1 M8.2.2.2 := by rw [h8]; exact c7
  rw [grD_8 c7 hD, Option.bind_some, pI_of (dsh20 c7 hD), Option.bind_some, ← h8]
  rw [pI_of (dsh0 c8 hD), Option.bind_some, h8, h7, h6, h5, h4, h3, h2, h1, h0]
  rfl
theorem clL_in (hD : D = 10 ∨ D = 32) {a k : Nat} (h : (a, k) ∈ clL D) : D ≤ a ∧ a ≤ D + 20 := by
  simp [clL] at h; omega
theorem c_clear (hD : D = 10 ∨ D = 32) (hA : GA b n T e D M) : ∃ N, f_X1_clear D M = some N ∧ SF D M N ∧ GA b n T e D N ∧ (∀ k, N.2.1 1 k = M.2.1 1 k) ∧ CD N D d00 := by
  obtain ⟨w1, w2, w3⟩ := wz_c (clL D) M
  refine ⟨_, c_clear0 hA.2.1.1 hD, ?_⟩
  generalize wz (clL D) M = N at *
  have out : ∀ a k, ¬ (D ≤ a ∧ a ≤ D + 20) → N.2.1 a k = M.2.1 a k := fun a k h => by rw [w3, if_neg (fun z => h (clL_in hD z))]
  have hc : ClsS N.1 N.2.2.2 := by rw [w1, w2]; exact hA.2.1.1
  have zr : ∀ a k, (a, k) ∈ clL D → N.2.1 a k = 0 := fun a k h => by rw [w3, if_pos h]
  have hkd : ∀ kd, kd < 5 → (D + ofK kd, 3) ∈ clL D ∧ (D + ofK kd, 0) ∉ clL D := by
    intro kd hk
    have : ∀ kd, kd < 5 → ((10 + ofK kd, 3) ∈ clL 10 ∧ (10 + ofK kd, 0) ∉ clL 10) ∧ ((32 + ofK kd, 3) ∈ clL 32 ∧ (32 + ofK kd, 0) ∉ clL 32) := by decide
    rcases hD with rfl | rfl
    · exact (this kd hk).1
    · exact (this kd hk).2
  have hpw : ∀ p ∈ prgL, PW N p := by
    intro p hp
    obtain ⟨h1, q, n', s, a1, a2, a3, a4, a5, a6⟩ := hA.2.2.1.2.1 p hp
    by_cases z : (p, 1) ∈ clL D
    · exact ⟨by rw [w1]; exact h1, q, n', 0, by rw [w2]; exact a1, by rw [w1]; exact a2, a3, zr p 1 z, Nat.zero_le _, a6⟩
    · exact ⟨by rw [w1]; exact h1, q, n', s, by rw [w2]; exact a1, by rw [w1]; exact a2, a3, by rw [w3, if_neg z]; exact a4, a5, a6⟩
  have hPot : Pot N = Pot M := by
    have e1 : capP N = capP M := by funext p; unfold capP; rw [w1, w2]
    unfold Pot Phi; rw [e1, w1, w2]
  refine ⟨⟨fun a q z => by rw [w1]; exact z, fun a k _ _ z _ => out a k (by omega), fun a k _ => by rw [w2], fun a k _ _ => by rw [w2], fun _ _ => Or.inl (by rw [w2]), Nat.le_of_eq hPot⟩, ⟨⟨hc, ?_, hA.1.2.2.1, fun i hi => ?_⟩, ⟨hc, fun a k h1 h2 => ?_, ?_, hA.2.1.2.2.2⟩, ⟨by rw [w1]; exact hA.2.2.1.1, hpw, fun p hp p' hp' z => by rw [w2]; exact hA.2.2.1.2.2 p hp p' hp' z⟩, fun kd hk => ?_⟩, fun k => out 1 k (by omega), fun kd hk => ?_, zr _ _ (by simp [clL]), zr _ _ (by simp [clL]), fun wh hw => ?_⟩
  · rw [out 1 1 (by omega)]; exact hA.1.2.1
  · rw [out 2 i (by omega)]; exact hA.1.2.2.2 i hi
  · rw [out a k (by omega)]; exact hA.2.1.2.1 a k h1 h2
  · rw [out 1 6 (by omega)]; exact hA.2.1.2.2.1
  · exact ⟨by rw [w3, if_neg (hkd kd hk).2]; exact (hA.2.2.2 kd hk).1, 0, Nat.zero_le _, zr _ _ (hkd kd hk).1⟩
  · exact ⟨zr _ _ (hkd kd hk).1, Nat.zero_le _, fun i hi => absurd hi (Nat.not_lt_zero i)⟩
  · obtain ⟨h1, q, n', s, a1, a2, a3, a4, a5, a6⟩ := hpw _ (pr3_in hD hw)
    refine ⟨q, n', a1, a2, zr _ _ ?_, Nat.zero_le _, fun i hi => absurd hi (Nat.not_lt_zero i)⟩
    unfold pr3
    match wh, hw with
    | 0, _ => simp [clL]
    | 1, _ => simp [clL]
    | 2, _ => simp [clL]
end CDI
