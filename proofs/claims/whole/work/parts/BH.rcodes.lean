/-! THE REFERENCE's statements: rules -/
section RC
variable {b : Nat → Int32} {n e t c kd wh : Nat} {T : Tk} {sa sz : Nat → Nat} {M N : sMem} {s : Cs} {d : Ds} {cs : List Nat}
theorem RS.of4 (h : RS T e sa sz M s) (hk : ∀ k, k = 2 ∨ k = 4 ∨ k = 5 ∨ k = 6 → N.2.1 94 k = M.2.1 94 k) : RS T e sa sz N s := by
  match s, h with
  | .inl q, h => exact ⟨by rw [hk _ (by omega)]; exact h.1, by rw [hk _ (by omega)]; exact h.2.1, h.2.2⟩
  | .inr t, h => exact ⟨by rw [hk _ (by omega)]; exact h.1, h.2.1, by rw [hk _ (by omega)]; exact h.2.2.1, by rw [hk _ (by omega)]; exact h.2.2.2.1, by rw [hk _ (by omega)]; exact h.2.2.2.2⟩
def addC (d : Ds) (wh : Nat) (cs : List Nat) : Ds := (d.1, d.2.1, fun k => if k = wh then some cs else d.2.2 k)
theorem cdL_add (hw : wh < 3) (hn : d.2.2 wh = none) : cdL (addC d wh cs) = cdL d + cs.length := by
  unfold cdL addC
  dsimp only
  match wh, hw with
  | 0, _ => rw [hn]; simp; omega
  | 1, _ => rw [hn]; simp; omega
  | 2, _ => rw [hn]; simp
theorem rx139 {k : Nat} (h : k < 1600) : rdX 139 k = true := by simp [rdX, h]
theorem rx137 {k : Nat} (h : k < 3) : rdX 137 k = true := by simp [rdX, h]
theorem rx138 {k : Nat} (h : k < 3) : rdX 138 k = true := by simp [rdX, h]
theorem up_rq (h : Fr rqX q0 M N) : Fr rdX rdJ M N := h.mono (fun a k z => by unfold rdX at z; revert z; cases rqX a k <;> simp) (fun _ _ _ => rfl)
theorem rq_out {a k : Nat} (h : a ≠ 94 ∧ a ≠ 183 ∧ a ≠ 184) : rqX a k = false := by
  unfold rqX rlX qX
  rw [beq_eq_false_iff_ne.mpr h.1, beq_eq_false_iff_ne.mpr h.2.1, beq_eq_false_iff_ne.mpr h.2.2]; rfl
/-- codes are laid behind the others -/
theorem h_lay (hB : RG b n d M) (hS : RS T e sa sz M s) (hw : wh < 3) (hn : d.2.2 wh = none) (h116 : M.2.1 94 116 = nI cs.length) (h183 : ∀ (i : Nat) (h : i < cs.length), M.2.1 183 i = nI cs[i]) (hl : cdL d + cs.length ≤ 1600) (h5 : M.2.1 94 5 = 0) : ∃ N, f_X12_codesTold_B71 94 (nI wh) M = some N ∧ Fr rdX rdJ M N ∧ RS T e sa sz N s ∧ RD N (addC d wh cs) := by
  have hs := hB.1.1
  obtain ⟨hRN, a3, a4, a5, a6, a7, a8, a9⟩ := hB.2.1
  unfold f_X12_codesTold_B71 f_X12_codesTold_L91 f_X12_codesTold_B130
  rw [gi94 hs, Option.bind_some, h5, if_pos rfl, gr94_52 hs, Option.bind_some, gi94 hs, Option.bind_some, stI_n (rs137 hs) (show wh < 6 by omega) (by decide), Option.bind_some, a8]
  obtain ⟨M1, h1⟩ : ∃ M1, M1 = wrI M 137 wh (nI (cdL d)) := ⟨_, rfl⟩
  rw [← h1]
  have m1 : ∀ a k, M1.2.1 a k = if a = 137 ∧ k = wh then nI (cdL d) else M.2.1 a k := fun a k => by rw [h1, wrI_get]
  have F1 : Fr rdX rdJ M M1 := by rw [h1]; exact Fr.rf.wi (rx137 hw)
  obtain ⟨r, r1, r2, r3, r4, r5⟩ := itr_g (f := fun a : Int32 × sMem => f_X12_codesTold_K91 94 (nI wh) a.1 a.2) (fun k s => (nI k, s)) (fun k s => Fr rdX rdJ M s ∧ (∀ a j, (a = 139 ∧ cdL d ≤ j) ∨ (a = 94 ∧ j = 55) ∨ s.2.1 a j = M1.2.1 a j) ∧ (∀ (j : Nat) (h : j < cs.length), j < k → s.2.1 139 (cdL d + j) = nI cs[j]) ∧ s.2.1 94 55 = nI (cdL d + k) ∧ ∀ j, s.2.2.1 132 j = M.2.2.1 132 j) (fun s => Fr rdX rdJ M s ∧ (∀ a j, (a = 139 ∧ cdL d ≤ j) ∨ (a = 94 ∧ j = 55) ∨ s.2.1 a j = M1.2.1 a j) ∧ (∀ (j : Nat) (h : j < cs.length), s.2.1 139 (cdL d + j) = nI cs[j]) ∧ s.2.1 94 55 = nI (cdL d + cs.length) ∧ ∀ j, s.2.2.1 132 j = M.2.2.1 132 j) cs.length (by omega) (fun k s hk hI => by
    obtain ⟨i1, i2, i3, i4, i5⟩ := hI
    have hss := i1.hs hs
    have e116 : s.2.1 94 116 = nI cs.length := by
      rcases i2 94 116 with z | z | z
      · omega
      · omega
      · rw [z, m1, if_neg (by omega)]; exact h116
    dsimp only
    unfold f_X12_codesTold_K91
    rw [gi94 hss, Option.bind_some, e116]
    by_cases q : k < cs.length
    · left
      refine ⟨q, ?_⟩
      have e183 : s.2.1 183 k = nI cs[k] := by
        rcases i2 183 k with z | z | z
        · omega
        · omega
        · rw [z, m1, if_neg (by omega)]; exact h183 k q
      rw [if_neg (by rw [cle (by omega) (by omega)]; omega), gr94_54 hss, Option.bind_some, gi94 hss, Option.bind_some, gr94_115 hss, Option.bind_some, ldI_n (rs183 hss) (show k < 1700 by omega) (by decide), Option.bind_some, e183, i4, stI_n (rs139 hss) (by omega) (by decide), Option.bind_some, gi94 (M := wrI s 139 (cdL d + k) (nI cs[k])) hss, Option.bind_some, wrI_ne (by omega), i4, pi94 (M := wrI s 139 (cdL d + k) (nI cs[k])) hss, Option.bind_some, nI_1, nI_1]
      refine ⟨_, rfl, (i1.wi (rx139 (by omega))).wi rfl, fun a j => ?_, fun j hj hjk => ?_, wrI_eq, fun j => i5 j⟩
      · by_cases w1 : a = 94 ∧ j = 55
        · exact Or.inr (Or.inl w1)
        · by_cases w2 : a = 139 ∧ j = cdL d + k
          · exact Or.inl ⟨w2.1, by omega⟩
          · rw [wrI_ne w1, wrI_ne w2]; exact i2 a j
      · rw [wrI_ne (by omega)]
        by_cases w : j = k
        · subst w; exact wrI_eq
        · rw [wrI_ne (by omega)]; exact i3 j hj (by omega)
    · right
      rw [if_pos (by rw [cle (by omega) (by omega)]; omega)]
      exact ⟨s, rfl, i1, i2, fun j hj => i3 j hj (by omega), by rw [i4, show k = cs.length by omega], i5⟩) (i := 0) (s := M1) (Nat.zero_le _) ⟨F1, fun a j => Or.inr (Or.inr rfl), fun j hj h => by omega, by rw [m1, if_neg (by omega)]; exact a8, fun j => by rw [h1]; rfl⟩
  replace r1 : sItr (fun a : Int32 × sMem => f_X12_codesTold_K91 94 (nI wh) a.1 a.2) sFuel (0, M1) = some r := r1
  obtain ⟨r5, r6⟩ := r5
  have hsr := r2.hs hs
  rw [r1, Option.bind_some, gr94_53 hsr, Option.bind_some, gi94 hsr, Option.bind_some, r5, stI_n (rs138 hsr) (show wh < 6 by omega) (by decide), Option.bind_some]
  have v : ∀ a j, ¬ (a = 139 ∧ cdL d ≤ j) → ¬ (a = 94 ∧ j = 55) → ¬ (a = 138 ∧ j = wh) → ¬ (a = 137 ∧ j = wh) → (wrI r 138 wh (nI (cdL d + cs.length))).2.1 a j = M.2.1 a j := fun a j h1 h2 h3 h4 => by
    rw [wrI_ne h3]
    rcases r3 a j with z | z | z
    · exact absurd z h1
    · exact absurd z h2
    · rw [z, m1, if_neg h4]
  refine ⟨_, rfl, r2.wi (rx138 hw), hS.of4 (fun k hk => v 94 k (by omega) (by omega) (by omega) (by omega)), ⟨fun k hk => ?_, fun k hk i h => ?_⟩, fun i h => ?_, fun i h j hj => ?_, fun i h j hj => ?_, fun i h j hj => ?_, ⟨?_, ?_⟩, ?_, fun w hw2 => ?_⟩
  · rw [v _ _ (by omega) (by omega) (by omega) (by omega)]; exact hRN.1 k hk
  · show (r.2.2.1 132 _).toInt = _
    rw [r6]; exact hRN.2 k hk i h
  · rw [v _ _ (by omega) (by omega) (by omega) (by omega)]; exact a3 i h
  · rw [v _ _ (by omega) (by omega) (by omega) (by omega)]; exact a4 i h j hj
  · rw [v _ _ (by omega) (by omega) (by omega) (by omega)]; exact a5 i h j hj
  · rw [v _ _ (by omega) (by omega) (by omega) (by omega)]; exact a6 i h j hj
  · rw [v _ _ (by omega) (by omega) (by omega) (by omega)]; exact a7.1
  · rw [v _ _ (by omega) (by omega) (by omega) (by omega)]; exact a7.2
  · rw [wrI_ne (by omega), r5, cdL_add hw hn]
  · have e1 : (addC d wh cs).2.2 w = if w = wh then some cs else d.2.2 w := rfl
    rw [e1]
    by_cases q : w = wh
    · rw [if_pos q]
      dsimp only
      refine ⟨cdL d, ?_, ?_, by rw [cdL_add hw hn]; exact Nat.le_refl _, fun i h => ?_⟩
      · rw [wrI_ne (by omega)]
        rcases r3 137 w with z | z | z
        · omega
        · omega
        · rw [z, m1, if_pos ⟨rfl, q⟩]
      · rw [q]; exact wrI_eq
      · rw [wrI_ne (by omega)]; exact r4 i h
    · rw [if_neg q]
      have := a9 w hw2
      cases z : d.2.2 w with
      | none =>
        rw [z] at this
        dsimp only at this ⊢
        rw [v _ _ (by omega) (by omega) (by omega) (by omega)]; exact this
      | some c =>
        rw [z] at this
        dsimp only at this ⊢
        obtain ⟨fr, f1, f2, f3, f4⟩ := this
        exact ⟨fr, by rw [v _ _ (by omega) (by omega) (by omega) (by omega)]; exact f1, by rw [v _ _ (by omega) (by omega) (by omega) (by omega)]; exact f2, by rw [cdL_add hw hn]; omega, fun i h => by rw [v _ _ (by omega) (by omega) (by omega) (by omega)]; exact f4 i h⟩
theorem h_code (hL : Lex b n T e sa sz) (hB : RG b n d M) (hw : wh < 3) (hcd : cdL d ≤ t) (hS : RS T e sa sz M (.inr t)) (at' : Int32) : ∃ N, f_X12_codesTold 94 (nI wh) at' M = some N ∧ RE b n T e sa sz M N (codeR T d wh at' t) := by
  have hs := hB.1.1
  have he := hL.1.2
  have hE := hL.1
  have hte := hS.2.1
  have a9 := hB.2.1.2.2.2.2.2.2.2 wh hw
  unfold f_X12_codesTold codeR
  rw [sr94 hs, gi94 hs, Option.bind_some, hS.1, if_pos rfl, gr94_52 hs, Option.bind_some, ldI_n (rs137 hs) (show wh < 6 by omega) (by decide), Option.bind_some]
  cases z : d.2.2 wh with
  | some c =>
    rw [z] at a9
    dsimp only at a9
    obtain ⟨fr, f1, f2, f3, f4⟩ := a9
    obtain ⟨N, g1, g2, g3⟩ := r_fail hB.1 hS 5 at' (by decide)
    replace g3 : RS T e sa sz N (.inl (5, at')) := g3
    rw [f1, if_neg (fun w => by have w2 : nI fr = mI := w; rw [cneg (by omega)] at w2; exact w2), g1, Option.bind_some]
    unfold f_X12_codesTold_B23
    rw [gi94 (g2.hs hs), Option.bind_some, g3.1, if_neg (show ¬ (5 : Int32) = 0 by decide), if_pos (by simp)]
    exact ⟨N, rfl, up_rd g2, hB.1.rl g2, g3⟩
  | none =>
    rw [z] at a9
    dsimp only at a9
    rw [a9, if_pos mIe, if_neg (by simp)]
    unfold f_X12_codesTold_B23
    rw [gi94 hs, Option.bind_some, hS.1, if_pos rfl, pi94 hs, Option.bind_some, pi94 (M := wrI M 94 58 (nI wh)) hs, Option.bind_some, pi94 (M := wrI (wrI M 94 58 (nI wh)) 94 116 0) hs, Option.bind_some, pi94 (M := wrI (wrI (wrI M 94 58 (nI wh)) 94 116 0) 94 118 0) hs, Option.bind_some, pi94 (M := wrI (wrI (wrI (wrI M 94 58 (nI wh)) 94 116 0) 94 118 0) 94 119 0) hs, Option.bind_some]
    obtain ⟨M1, h1⟩ : ∃ M1, M1 = wrI (wrI (wrI (wrI (wrI M 94 58 (nI wh)) 94 116 0) 94 118 0) 94 119 0) 94 120 0 := ⟨_, rfl⟩
    rw [← h1]
    have F1 : Fr rdX rdJ M M1 := by rw [h1]; exact ((((Fr.rf.wi rfl).wi rfl).wi rfl).wi rfl).wi rfl
    have m1 : ∀ a k, M1.2.1 a k = if a = 94 ∧ k = 120 then 0 else if a = 94 ∧ k = 119 then 0 else if a = 94 ∧ k = 118 then 0 else if a = 94 ∧ k = 116 then 0 else if a = 94 ∧ k = 58 then nI wh else M.2.1 a k := fun a k => by rw [h1, wrI_get, wrI_get, wrI_get, wrI_get, wrI_get]
    have hB1 : RB b n M1 := hB.1.rd F1
    have hG1 : RG b n d M1 := ⟨hB1, hB.2.1.of (fun a k p q => by rw [m1, if_neg (by omega), if_neg (by omega), if_neg (by omega), if_neg (by omega), if_neg (by omega)]) (fun k => by rw [h1]; rfl) (by rw [m1, if_neg (by omega), if_neg (by omega), if_neg (by omega), if_neg (by omega), if_neg (by omega)]), hB.2.2⟩
    have hS1 : RS T e sa sz M1 (.inr t) := hS.of4 (fun k hk => by rw [m1, if_neg (by omega), if_neg (by omega), if_neg (by omega), if_neg (by omega), if_neg (by omega)])
    have h58 : M1.2.1 94 58 = nI wh := by rw [m1, if_neg (by omega), if_neg (by omega), if_neg (by omega), if_neg (by omega), if_pos (by omega)]
    have hQ : RQ M1 [] [] [] 0 := by
      refine ⟨?_, trivial, ?_, fun i h => absurd h (Nat.not_lt_zero i), ?_, ?_⟩
      · rw [m1, if_neg (by omega), if_neg (by omega), if_pos (by omega)]; rfl
      · rw [m1, if_neg (by omega), if_neg (by omega), if_neg (by omega), if_pos (by omega)]; rfl
      · rw [m1, if_neg (by omega), if_pos (by omega)]; rfl
      · rw [m1, if_pos (by omega)]; rfl
    -- what follows the codes
    have fin : ∀ N, Fr rqX q0 M1 N → ∀ R : Rs, (∀ cs t', R = .inr (cs, t') → cs.length + t ≤ t' ∧ t' ≤ e) → (match R with | .inl q => RS T e sa sz N (.inl q) | .inr q => RS T e sa sz N (.inr q.2) ∧ ∃ o, RQ N [] [] q.1 o) → ∃ O, f_X12_codesTold_B71 94 (nI wh) N = some O ∧ RE b n T e sa sz M O (match R with | .inl q => .inl q | .inr q => .inr (addC d wh q.1, q.2)) := by
      intro N hF R hR hm
      have hGN : RG b n d N := ⟨hB1.rd (up_rq hF), hG1.2.1.of (fun a k p q => hF.i (rq_out (by omega))) (fun k => hF.j rfl) (hF.i rfl), hB.2.2⟩
      match R, hR, hm with
      | .inl q, hR, hm =>
        unfold f_X12_codesTold_B71
        rw [gi94 hGN.1.1, Option.bind_some, if_neg (by rw [hm.1]; exact hm.2.2)]
        exact ⟨N, rfl, F1.tr (up_rq hF), hGN.1, hm⟩
      | .inr (cs, t'), hR, hm =>
        obtain ⟨l1, l2⟩ := hR cs t' rfl
        obtain ⟨hm1, o, hm2⟩ := hm
        obtain ⟨O, o1, o2, o3, o4⟩ := h_lay (cs := cs) hGN hm1 hw z hm2.2.2.1 hm2.2.2.2.1 (by omega) hm1.1
        exact ⟨O, o1, (F1.tr (up_rq hF)).tr o2, hGN.1.rd o2, o4, o3⟩
    by_cases q : wh = 0
    · subst q
      rw [if_pos (show nI 0 = (0 : Int32) from rfl)]
      simp only [if_true]
      obtain ⟨N, n1, n2, n3⟩ := r_qTest (wh := 0) hL (by decide) hB1 h58 hS1 hQ
      rw [n1, Option.bind_some]
      exact fin N n2 (pTest 0 T 6 t) (fun cs t' h => by have := ptest_adv hE t cs t' hte h; omega) n3
    · rw [if_neg (by rw [show (0 : Int32) = nI 0 from rfl, nI_eq (by omega) (by omega)]; exact q), if_neg q]
      obtain ⟨N, n1, n2, n3⟩ := r_qSums (wh := wh) hL (by omega) hB1 h58 hS1 hQ (fun s hs => absurd hs (by simp)) (Nat.zero_le _) (by decide)
      rw [n1, Option.bind_some]
      refine fin N n2 (pSum wh T 6 t) (fun cs t' h => by have := psum_adv hE t cs t' hte h; omega) ?_
      rw [show 6 - 0 = 6 from rfl] at n3
      match zz : pSum wh T 6 t with
      | .inl w => rw [zz] at n3; exact n3.1
      | .inr w => rw [zz] at n3; exact ⟨n3.1, 0, by simpa using n3.2⟩
end RC
