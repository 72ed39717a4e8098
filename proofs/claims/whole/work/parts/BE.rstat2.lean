/-! THE REFERENCE's statements: a new name, an old one -/
section RS2
variable {b : Nat → Int32} {n e t c kd wh : Nat} {T : Tk} {sa sz : Nat → Nat} {M N : sMem} {s : Cs} {d : Ds} {rows : List Row} {L : List Nat} {α : Type} {r : Flt ⊕ (α × Nat)} {P : α → Prop}
theorem h_new (hL : Lex b n T e sa sz) (hB : RG b n d M) (hS : RS T e sa sz M (.inr t)) : ∃ v N, f_X12_newName 94 M = some (v, N) ∧ Fr rlX q0 M N ∧ RG b n d N ∧ RH T e sa sz N (nwR b T sa sz d t) fun L => v.toInt = nv L L.length := by
  obtain ⟨v, M1, a1, a2, a3⟩ := r_name hL hB.1 hS
  have hB1 := hB.rl a2
  unfold f_X12_newName f_X12_newName_L7
  rw [sr94 hB.1.1, a1]
  dsimp only [Option.bind_some]
  dsimp only at a3
  unfold nwR sb
  match z : nameR b T sa sz t with
  | .inl q =>
    rw [z] at a3
    dsimp only at a3 ⊢
    obtain ⟨r, r1, r2⟩ := itr_g (f := fun a : Int32 × sMem => f_X12_newName_K7 94 v a.1 a.2) (fun k s => (nI k, s)) (fun k s => s = M1) (fun r => r = (v, M1)) 4 (by decide) (fun k s hk hI => by
      subst hI
      dsimp only
      unfold f_X12_newName_K7
      by_cases q : k < 4
      · rw [if_neg (by rw [show (4 : Int32) = nI 4 from rfl, cle (by decide) (by omega)]; omega)]
        exact Or.inl ⟨q, s, (r_nnI (T := T) (e := e) (sa := sa) (sz := sz) (L := []) hB1 q v).1 (by rw [a3.1]; exact a3.2.2), rfl⟩
      · rw [if_pos (by rw [show (4 : Int32) = nI 4 from rfl, cle (by decide) (by omega)]; omega)]
        exact Or.inr ⟨_, rfl, rfl⟩) (i := 0) (s := M1) (by decide) rfl
    replace r1 : sItr (fun a : Int32 × sMem => f_X12_newName_K7 94 v a.1 a.2) sFuel (0, M1) = some r := r1
    rw [r1, Option.bind_some, r2]
    exact ⟨v, M1, rfl, a2, hB1, a3⟩
  | .inr (L, t1) =>
    rw [z] at a3
    dsimp only at a3 ⊢
    obtain ⟨v1, v2, v3⟩ := a3
    obtain ⟨hgd, _, _⟩ := nameR_gd hL hS.2.1 z
    obtain ⟨r, r1, r2⟩ := itr_g (f := fun a : Int32 × sMem => f_X12_newName_K7 94 v a.1 a.2) (fun k s => (nI k, s)) (fun k s => (s = M1 ∧ ∀ j, j < k → fnd (d.2.1 j) L = none) ∨ (Fr rlX q0 M1 s ∧ RS T e sa sz s (.inl (3, T 4 t)) ∧ ∃ j, j < 4 ∧ fnd (d.2.1 j) L ≠ none)) (fun r => r.1 = v ∧ ((r.2 = M1 ∧ ∀ j, j < 4 → fnd (d.2.1 j) L = none) ∨ (Fr rlX q0 M1 r.2 ∧ RS T e sa sz r.2 (.inl (3, T 4 t)) ∧ ∃ j, j < 4 ∧ fnd (d.2.1 j) L ≠ none))) 4 (by decide) (fun k s hk hI => by
      dsimp only
      unfold f_X12_newName_K7
      by_cases q : k < 4
      · left
        rw [if_neg (by rw [show (4 : Int32) = nI 4 from rfl, cle (by decide) (by omega)]; omega)]
        refine ⟨q, ?_⟩
        rcases hI with ⟨rfl, hI⟩ | ⟨i1, i2, i3⟩
        · obtain ⟨N, n1, n2, n3⟩ := (r_nnI (T := T) (e := e) (sa := sa) (sz := sz) (L := L) hB1 q v).2 t1 (T 4 t) v2 hgd v1 v3
          refine ⟨N, n1, ?_⟩
          rcases n3 with ⟨n3, rfl⟩ | ⟨n3, n4⟩
          · refine Or.inl ⟨rfl, fun j hj => ?_⟩
            by_cases w : j = k
            · rw [w]; exact n3
            · exact hI j (by omega)
          · exact Or.inr ⟨n2, n4, k, q, n3⟩
        · exact ⟨s, (r_nnI (T := T) (e := e) (sa := sa) (sz := sz) (L := []) (hB1.rl i1) q v).1 (by rw [i2.1]; exact i2.2.2), Or.inr ⟨i1, i2, i3⟩⟩
      · right
        rw [if_pos (by rw [show (4 : Int32) = nI 4 from rfl, cle (by decide) (by omega)]; omega)]
        refine ⟨_, rfl, rfl, ?_⟩
        rcases hI with ⟨rfl, hI⟩ | hI
        · exact Or.inl ⟨rfl, fun j hj => hI j (by omega)⟩
        · exact Or.inr hI) (i := 0) (s := M1) (by decide) (Or.inl ⟨rfl, fun j hj => by omega⟩)
    replace r1 : sItr (fun a : Int32 × sMem => f_X12_newName_K7 94 v a.1 a.2) sFuel (0, M1) = some r := r1
    rw [r1, Option.bind_some]
    obtain ⟨r3, r4⟩ := r2
    refine ⟨r.1, r.2, rfl, ?_⟩
    rw [r3]
    rcases r4 with ⟨e1, e2⟩ | ⟨e1, e2, j, e3, e4⟩
    · rw [e1, if_pos ⟨e2 0 (by decide), e2 1 (by decide), e2 2 (by decide), e2 3 (by decide)⟩]
      exact ⟨a2, hB1, v1, v2⟩
    · rw [if_neg (fun w => by
        match j, e3, e4 with
        | 0, _, e4 => exact e4 w.1
        | 1, _, e4 => exact e4 w.2.1
        | 2, _, e4 => exact e4 w.2.2.1
        | 3, _, e4 => exact e4 w.2.2.2)]
      exact ⟨a2.tr e1, hB1.rl e1, e2⟩
theorem fnd_some (hn : (rows.map Prod.fst).Nodup) {i : Nat} (hi : i < rows.length) (h : rows[i].1 = L) : fnd rows L = some i := by
  unfold fnd
  rw [List.findIdx?_eq_some_iff_getElem]
  refine ⟨hi, beq_iff_eq.mpr h, fun j hj => ?_⟩
  have := (List.pairwise_iff_getElem.mp hn) j i (by rw [List.length_map]; omega) (by rw [List.length_map]; omega) hj
  rw [List.getElem_map, List.getElem_map, h] at this
  simpa using this
theorem h_old (hL : Lex b n T e sa sz) (hB : RG b n d M) (hk : kd < 4) (h : RH T e sa sz M r P) (but : Int32) (bf : α → Int32) (hb : ∀ a, P a → but = bf a) : ∃ v N, f_X12_named 94 (nI kd) but M = some (v, N) ∧ Fr rlX q0 M N ∧ RG b n d N ∧ RH T e sa sz N (sb r fun a t => sb (odR b T sa sz (d.2.1 kd) (bf a) t) fun x t' => .inr ((a, x), t')) fun q => P q.1 ∧ v = q.2 := by
  suffices H : ∃ v N, f_X12_named 94 (nI kd) but M = some (v, N) ∧ Fr rlX q0 M N ∧ RV2 T e sa sz N (csR r) (odR b T sa sz (d.2.1 kd) but) v by
    obtain ⟨v, N, a1, a2, a3⟩ := H
    exact ⟨v, N, a1, a2, hB.rl a2, h.go a3 (fun a ha => by rw [hb a ha])⟩
  have hS := h.rs
  generalize csR r = s at hS
  obtain ⟨v, M1, a1, a2, a3⟩ := r_name hL hB.1 hS
  have hB1 := hB.rl a2
  have hs := hB1.1.1
  have hl := hB.2.2.2.2 kd (by omega)
  have hm := mx_le (kd := kd) (by omega)
  have hc := hB1.2.1.1.1 kd (by omega)
  have hmk : mxK kd ≤ 7 := by
    have : ∀ kd, kd < 4 → mxK kd ≤ 7 := by decide
    exact this kd hk
  unfold f_X12_named f_X12_named_L8
  rw [sr94 hB.1.1, a1]
  dsimp only [Option.bind_some]
  -- the loop, in any state
  have lp : ∃ r, sItr (fun a : Int32 => f_X12_named_K8 94 (nI kd) but v a M1) sFuel 0 = some r ∧ ((r = .inl () ∧ ∀ (i : Nat), i < (d.2.1 kd).length → nI i = but ∨ M1.2.2.1 132 (8 * kd + i) ≠ v) ∨ ∃ i, i < (d.2.1 kd).length ∧ r = .inr (nI i, M1) ∧ nI i ≠ but ∧ M1.2.2.1 132 (8 * kd + i) = v) := by
    obtain ⟨r, k1, k2⟩ := itr_up0 (f := fun x : Int32 => f_X12_named_K8 94 (nI kd) but v x M1) (fun k => ∀ (i : Nat), i < k → i < (d.2.1 kd).length → nI i = but ∨ M1.2.2.1 132 (8 * kd + i) ≠ v) (fun r => (r = .inl () ∧ ∀ (i : Nat), i < (d.2.1 kd).length → nI i = but ∨ M1.2.2.1 132 (8 * kd + i) ≠ v) ∨ ∃ i, i < (d.2.1 kd).length ∧ r = .inr (nI i, M1) ∧ nI i ≠ but ∧ M1.2.2.1 132 (8 * kd + i) = v) (d.2.1 kd).length (by omega) (i := 0) (by
      rintro j hj hI
      try dsimp only
      unfold f_X12_named_K8 f_X12_named_B45
      rw [gr94_46 hs, Option.bind_some, ldI_n (rs131 hs) (show kd < 10 by omega) (by decide), Option.bind_some, hc]
      by_cases q : (d.2.1 kd).length ≤ j
      · right
        rw [if_pos (by rw [cle (by omega) (by omega)]; exact q)]
        exact ⟨_, rfl, Or.inl ⟨rfl, fun i hi => hI i (by omega) hi⟩⟩
      · rw [if_neg (by rw [cle (by omega) (by omega)]; exact q)]
        by_cases q2 : nI j = but
        · left
          rw [if_pos q2, nI_1]
          refine ⟨by omega, rfl, fun i hi hil => ?_⟩
          by_cases q3 : i = j
          · rw [q3]; exact Or.inl q2
          · exact hI i (by omega) hil
        · rw [if_neg q2, gr94_47 hs, Option.bind_some, show (8 : Int32) * nI kd + nI j = nI (8 * kd + j) by rw [show (8 : Int32) = nI 8 from rfl, pk_mul, nI_add], ldJ_n (rs132 hs) (by omega) (by decide), Option.bind_some]
          by_cases q3 : M1.2.2.1 132 (8 * kd + j) = v
          · right
            rw [if_pos q3]
            exact ⟨_, rfl, Or.inr ⟨j, by omega, rfl, q2, q3⟩⟩
          · left
            rw [if_neg q3, nI_1]
            refine ⟨by omega, rfl, fun i hi hil => ?_⟩
            by_cases q4 : i = j
            · rw [q4]; exact Or.inr q3
            · exact hI i (by omega) hil) (Nat.zero_le _) (fun i hi h => by omega)
    exact ⟨r, k1, k2⟩
  obtain ⟨r, r1, r2⟩ := lp
  rw [r1, Option.bind_some]
  have B51b : M1.2.1 94 5 ≠ 0 → f_X12_named_B51 94 M1 = some (0, M1) := fun h5 => by
    unfold f_X12_named_B51
    rw [gi94 hs, Option.bind_some, if_neg h5]
  have bad : M1.2.1 94 5 ≠ 0 → ∃ x, (match r with | .inl _ => f_X12_named_B51 94 M1 | .inr b => some b) = some (x, M1) := fun h5 => by
    rcases r2 with ⟨rfl, _⟩ | ⟨i, _, rfl, _, _⟩
    · exact ⟨0, B51b h5⟩
    · exact ⟨nI i, rfl⟩
  match s, hS, a3 with
  | .inl q, hS, a3 =>
    obtain ⟨x, x1⟩ := bad (by rw [a3.1]; exact a3.2.2)
    exact ⟨x, M1, x1, a2, a3⟩
  | .inr t, hS, a3 =>
    dsimp only at a3
    match z : nameR b T sa sz t with
    | .inl q =>
      rw [z] at a3
      obtain ⟨x, x1⟩ := bad (by rw [a3.1]; exact a3.2.2)
      exact ⟨x, M1, x1, a2, RV2_l (q := q) (by unfold odR sb; rw [z]) a3⟩
    | .inr (L, t1) =>
      rw [z] at a3
      dsimp only at a3
      obtain ⟨v1, v2, v3⟩ := a3
      obtain ⟨hgd, _, _⟩ := nameR_gd hL hS.2.1 z
      have eo : odR b T sa sz (d.2.1 kd) but t = if fdI (d.2.1 kd) L = -1 ∨ fdI (d.2.1 kd) L = but then .inl (3, T 4 t) else .inr (fdI (d.2.1 kd) L, t1) := by unfold odR sb; rw [z]
      have je : ∀ (i : Nat) (h : i < (d.2.1 kd).length), (M1.2.2.1 132 (8 * kd + i) = v ↔ (d.2.1 kd)[i].1 = L) := fun i h => j_eq (hB1.2.1.1.2 kd hk i h) v1 (hB.2.2.1 kd hk _ (List.getElem_mem h)) hgd
      rcases r2 with ⟨rfl, r3⟩ | ⟨i, i1, rfl, i2, i3⟩
      · obtain ⟨N, f1, f2, f3⟩ := r_fail hB1.1 v2 3 (T 4 t) (by decide)
        refine ⟨0, N, ?_, a2.tr f2, RV2_l (q := (3, T 4 t)) ?_ f3⟩
        · dsimp only
          unfold f_X12_named_B51
          rw [gi94 hs, Option.bind_some, v2.1, if_pos rfl, gi94 hs, Option.bind_some, v3, f1]
          rfl
        · rw [eo, if_pos ?_]
          cases w : fnd (d.2.1 kd) L with
          | none => left; unfold fdI; rw [w]
          | some i =>
            right
            have w2 := w
            unfold fnd at w2
            rw [List.findIdx?_eq_some_iff_getElem] at w2
            obtain ⟨w3, w4, _⟩ := w2
            unfold fdI; rw [w]
            rcases r3 i w3 with y | y
            · exact y
            · exact absurd ((je i w3).mpr (beq_iff_eq.mp w4)) y
      · have w := fnd_some (hB.2.2.2.1 kd hk) i1 ((je i i1).mp i3)
        have wf : fdI (d.2.1 kd) L = nI i := by unfold fdI; rw [w]
        refine ⟨nI i, M1, rfl, a2, RV2_r ?_ v2⟩
        rw [eo, wf, if_neg (fun y => by
          rcases y with y | y
          · have : nI i = mI := y
            rw [cneg (by omega)] at this; exact this
          · exact i2 y)]
end RS2
