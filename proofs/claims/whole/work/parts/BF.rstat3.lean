/-! THE REFERENCE's statements: what tells of a table -/
def rdX : Nat → Nat → Bool := fun a k => rqX a k || (a == 94 && (k == 55 || k == 58)) || (a == 130 && decide (k < 2)) || (a == 131 && decide (k < 5)) || (a == 133 && decide (k < 6)) || (a == 134 && decide (k < 48)) || ((a == 135 || a == 136) && decide (k < 15)) || ((a == 137 || a == 138) && decide (k < 3)) || (a == 139 && decide (k < 1600))
def rdJ : Nat → Nat → Bool := fun a k => a == 132 && decide (k < 32)
def RE (b : Nat → Int32) (n : Nat) (T : Tk) (e : Nat) (sa sz : Nat → Nat) (M N : sMem) (R : Flt ⊕ (Ds × Nat)) : Prop := Fr rdX rdJ M N ∧ RB b n N ∧ RH T e sa sz N R fun d' => RD N d'
section RS3
variable {b : Nat → Int32} {n e t c kd wh : Nat} {T : Tk} {sa sz : Nat → Nat} {M N : sMem} {s : Cs} {d : Ds} {rows : List Row} {L : List Nat} {l : List Int32} {α : Type} {r : Flt ⊕ (α × Nat)} {P : α → Prop}
theorem up_rd (h : Fr rlX q0 M N) : Fr rdX rdJ M N := h.mono (fun a k z => by unfold rdX rqX at z; revert z; cases rlX a k <;> simp) (fun _ _ _ => rfl)
theorem RS.of (h : RS T e sa sz M s) (hk : ∀ k, N.2.1 94 k = M.2.1 94 k) : RS T e sa sz N s := by
  match s, h with
  | .inl q, h => exact ⟨by rw [hk]; exact h.1, by rw [hk]; exact h.2.1, h.2.2⟩
  | .inr t, h => exact ⟨by rw [hk]; exact h.1, h.2.1, by rw [hk]; exact h.2.2.1, by rw [hk]; exact h.2.2.2.1, by rw [hk]; exact h.2.2.2.2⟩
theorem RH.cs2 (h : RH T e sa sz M r P) : (∃ q, r = .inl q ∧ M.2.1 94 5 ≠ 0 ∧ RS T e sa sz M (.inl q)) ∨ ∃ a t', r = .inr (a, t') ∧ P a ∧ RS T e sa sz M (.inr t') := by
  match r, h with
  | .inl q, h => exact Or.inl ⟨q, rfl, by rw [h.1]; exact h.2.2, h⟩
  | .inr (a, t'), h => exact Or.inr ⟨a, t', rfl, h.1, h.2⟩
theorem rd_c {c : Nat} (h : (95 ≤ c ∧ c < 130) ∨ (156 ≤ c ∧ c < 183)) (k : Nat) : rdX c k = false := by
  have hn : ∀ x, (x = 94 ∨ (130 ≤ x ∧ x ≤ 139) ∨ x = 183 ∨ x = 184) → (c == x) = false := fun x hx => beq_eq_false_iff_ne.mpr (by omega)
  unfold rdX rqX rlX qX
  rw [hn 94 (by decide), hn 130 (by decide), hn 131 (by decide), hn 133 (by decide), hn 134 (by decide), hn 135 (by decide), hn 136 (by decide), hn 137 (by decide), hn 138 (by decide), hn 139 (by decide), hn 183 (by decide), hn 184 (by decide)]
  rfl
theorem RB.rd (h : RB b n M) (hF : Fr rdX rdJ M N) : RB b n N := h.fr hF rfl (fun c hc k => rd_c hc k)
/-- a row more -/
theorem rd_add (h : RD M d) (hk : kd < 5) (hl : (d.2.1 kd).length < mxK kd)
    (h131 : ∀ k, k < 5 → N.2.1 131 k = if k = kd then nI ((d.2.1 kd).length + 1) else M.2.1 131 k)
    (h132 : ∀ k, (kd < 4 ∧ k = 8 * kd + (d.2.1 kd).length) ∨ N.2.2.1 132 k = M.2.2.1 132 k) (h132' : kd < 4 → (N.2.2.1 132 (8 * kd + (d.2.1 kd).length)).toInt = nv L L.length)
    (h133 : ∀ i, (kd = 0 ∧ i = (d.2.1 0).length) ∨ N.2.1 133 i = M.2.1 133 i) (h133' : kd = 0 → N.2.1 133 (d.2.1 0).length = l.getD 0 0)
    (h134 : ∀ i, (kd = 4 ∧ 4 * (d.2.1 4).length ≤ i) ∨ N.2.1 134 i = M.2.1 134 i) (h134' : kd = 4 → ∀ j, j < 4 → N.2.1 134 (4 * (d.2.1 4).length + j) = l.getD j 0)
    (h135 : ∀ i, (kd = 2 ∧ 3 * (d.2.1 2).length ≤ i) ∨ N.2.1 135 i = M.2.1 135 i) (h135' : kd = 2 → ∀ j, j < 3 → N.2.1 135 (3 * (d.2.1 2).length + j) = l.getD j 0)
    (h136 : ∀ i, (kd = 3 ∧ 3 * (d.2.1 3).length ≤ i) ∨ N.2.1 136 i = M.2.1 136 i) (h136' : kd = 3 → ∀ j, j < 3 → N.2.1 136 (3 * (d.2.1 3).length + j) = l.getD j 0)
    (hr : ∀ a k, a = 130 ∨ a = 137 ∨ a = 138 ∨ a = 139 ∨ a = 94 → N.2.1 a k = M.2.1 a k) (hmx : ∀ k, k < 4 → (d.2.1 k).length ≤ 7) : RD N (addD d kd (L, l)) := by
  obtain ⟨⟨a1, a2⟩, a3, a4, a5, a6, a7, a8, a9⟩ := h
  have ea : ∀ k, (addD d kd (L, l)).2.1 k = if k = kd then d.2.1 k ++ [(L, l)] else d.2.1 k := fun _ => rfl
  have eg : ∀ k (i : Nat) (h : i < ((addD d kd (L, l)).2.1 k).length), (k = kd ∧ i = (d.2.1 k).length ∧ ((addD d kd (L, l)).2.1 k)[i] = (L, l)) ∨ ∃ h' : i < (d.2.1 k).length, ((addD d kd (L, l)).2.1 k)[i] = (d.2.1 k)[i] := by
    intro k i h
    by_cases q : k = kd
    · have e1 : (addD d kd (L, l)).2.1 k = d.2.1 k ++ [(L, l)] := by rw [ea, if_pos q]
      have h2 : i < (d.2.1 k ++ [(L, l)]).length := by rw [← e1]; exact h
      have e2 : ((addD d kd (L, l)).2.1 k)[i] = (d.2.1 k ++ [(L, l)])[i] := by simp only [e1]
      rw [List.length_append, List.length_singleton] at h2
      by_cases w : i < (d.2.1 k).length
      · exact Or.inr ⟨w, by rw [e2, List.getElem_append_left w]⟩
      · exact Or.inl ⟨q, by omega, by rw [e2, List.getElem_append_right (by omega)]; simp⟩
    · have e1 : (addD d kd (L, l)).2.1 k = d.2.1 k := by rw [ea, if_neg q]
      exact Or.inr ⟨by rw [← e1]; exact h, by simp only [e1]⟩
  refine ⟨⟨fun k hk5 => ?_, fun k hk4 i h => ?_⟩, fun i h => ?_, fun i h j hj => ?_, fun i h j hj => ?_, fun i h j hj => ?_, ⟨by rw [hr _ _ (by omega)]; exact a7.1, by rw [hr _ _ (by omega)]; exact a7.2⟩, by rw [hr _ _ (by omega)]; exact a8, fun wh hw => ?_⟩
  · rw [h131 k hk5, ea]
    by_cases q : k = kd
    · rw [if_pos q, if_pos q, List.length_append, List.length_singleton, q]
    · rw [if_neg q, if_neg q]; exact a1 k hk5
  · rcases eg k i h with ⟨q, q1, q2⟩ | ⟨q1, q2⟩
    · rw [q2, q1, q]; exact h132' (by omega)
    · rw [q2]
      have h7 := hmx k hk4
      have h77 : kd < 4 → (d.2.1 kd).length ≤ 7 := fun z => hmx kd z
      rcases h132 (8 * k + i) with ⟨w1, w2⟩ | w
      · have := h77 w1
        have hkk : k = kd := by omega
        subst hkk
        omega
      · rw [w]; exact a2 k hk4 i q1
  · rcases eg 0 i h with ⟨q, q1, q2⟩ | ⟨q1, q2⟩
    · rw [q2, q1]; exact h133' q.symm
    · rw [q2]
      rcases h133 i with ⟨w1, w2⟩ | w
      · omega
      · rw [w]; exact a3 i q1
  · rcases eg 4 i h with ⟨q, q1, q2⟩ | ⟨q1, q2⟩
    · rw [q2, q1]; exact h134' q.symm j hj
    · rw [q2]
      rcases h134 (4 * i + j) with ⟨w1, w2⟩ | w
      · omega
      · rw [w]; exact a4 i q1 j hj
  · rcases eg 2 i h with ⟨q, q1, q2⟩ | ⟨q1, q2⟩
    · rw [q2, q1]; exact h135' q.symm j hj
    · rw [q2]
      rcases h135 (3 * i + j) with ⟨w1, w2⟩ | w
      · omega
      · rw [w]; exact a5 i q1 j hj
  · rcases eg 3 i h with ⟨q, q1, q2⟩ | ⟨q1, q2⟩
    · rw [q2, q1]; exact h136' q.symm j hj
    · rw [q2]
      rcases h136 (3 * i + j) with ⟨w1, w2⟩ | w
      · omega
      · rw [w]; exact a6 i q1 j hj
  · have := a9 wh hw
    have e1 : (addD d kd (L, l)).2.2 = d.2.2 := rfl
    rw [e1]
    cases z : d.2.2 wh with
    | none => rw [z] at this; dsimp only at this ⊢; rw [hr _ _ (by omega)]; exact this
    | some c =>
      rw [z] at this
      dsimp only at this ⊢
      obtain ⟨fr, f1, f2, f3, f4⟩ := this
      exact ⟨fr, by rw [hr _ _ (by omega)]; exact f1, by rw [hr _ _ (by omega)]; exact f2, f3, fun i h => by rw [hr _ _ (by omega)]; exact f4 i h⟩
theorem mx7 (h : GdD d) : ∀ k, k < 4 → (d.2.1 k).length ≤ 7 := fun k hk => by
  have : ∀ kd, kd < 4 → mxK kd ≤ 7 := by decide
  have := this k hk
  have := h.2.2 k (by omega)
  omega
theorem w1_get (M : sMem) (a k : Nat) (x : Int32) (i : Nat) : (wrI M a k x).2.1 a i = if i = k then x else M.2.1 a i := by rw [wrI_get]; simp only [true_and]
theorem h_w2 (hL : Lex b n T e sa sz) (hB : RG b n d M) (h : RH T e sa sz M r P) (c : Nat) (hc : isWc c) {w : Nat} (hw : wdc c = w) : ∃ N, f_X12_asks 94 c M = some N ∧ Fr rlX q0 M N ∧ RG b n d N ∧ RH T e sa sz N (sb r fun a t => sb (aW T w t) fun _ t' => .inr (a, t')) P := by
  subst hw; exact h_w hL hB h c hc
theorem h_end {W : Option sMem} {f : α → Ds} (hF : Fr rlX q0 M N) (hB : RG b n d N) (h : RH T e sa sz N r P) (hW : ∀ a, P a → ∃ O, W = some O ∧ Fr rdX rdJ N O ∧ (∀ k, O.2.1 94 k = N.2.1 94 k) ∧ RD O (f a)) : ∃ O, ((gI 12 127 5 N 94).bind fun x => if x = 0 then W else some N) = some O ∧ RE b n T e sa sz M O (sb r fun a t => .inr (f a, t)) := by
  rw [gi94 hB.1.1, Option.bind_some]
  rcases h.cs2 with ⟨q, z1, z2, z3⟩ | ⟨a, t', z1, z2, z3⟩
  · rw [if_neg z2, z1]
    exact ⟨N, rfl, up_rd hF, hB.1, z3⟩
  · obtain ⟨O, o1, o2, o3, o4⟩ := hW a z2
    rw [z3.1, if_pos rfl, z1, sb_r]
    exact ⟨O, o1, (up_rd hF).tr o2, hB.1.rd o2, o4, z3.of o3⟩
theorem rx0 {k : Nat} (h : k < 5) : rdX 131 k = true := by simp [rdX, h]
theorem rx133 {k : Nat} (h : k < 6) : rdX 133 k = true := by simp [rdX, h]
theorem rx134 {k : Nat} (h : k < 48) : rdX 134 k = true := by simp [rdX, h]
theorem rx135 {k : Nat} (h : k < 15) : rdX 135 k = true := by simp [rdX, h]
theorem rx136 {k : Nat} (h : k < 15) : rdX 136 k = true := by simp [rdX, h]
theorem rj132 {k : Nat} (h : k < 32) : rdJ 132 k = true := by simp [rdJ, h]
theorem rd_gate {v : Int64} {y : Int32} (h : RD M d) (hg : GdD d) (hl : (d.2.1 0).length < 6) (hv : v.toInt = nv L L.length) {O : sMem} (hO : O = wrI (wrI (wrJ M 132 (d.2.1 0).length v) 133 (d.2.1 0).length y) 131 0 (nI ((d.2.1 0).length + 1))) : Fr rdX rdJ M O ∧ (∀ k, O.2.1 94 k = M.2.1 94 k) ∧ RD O (addD d 0 (L, [y, 0, 0, 0])) := by
  have hi : ∀ a k, O.2.1 a k = if a = 131 ∧ k = 0 then nI ((d.2.1 0).length + 1) else if a = 133 ∧ k = (d.2.1 0).length then y else M.2.1 a k := fun a k => by rw [hO, wrI_get, wrI_get]; rfl
  have hj : ∀ a k, O.2.2.1 a k = if a = 132 ∧ k = (d.2.1 0).length then v else M.2.2.1 a k := fun a k => by rw [hO]; exact wrJ_get
  refine ⟨by rw [hO]; exact ((Fr.rf.wj (rj132 (by omega))).wi (rx133 (by omega))).wi (rx0 (by decide)), fun k => by rw [hi]; simp, rd_add h (by decide) hl ?_ ?_ ?_ ?_ ?_ ?_ ?_ ?_ ?_ ?_ ?_ ?_ (mx7 hg)⟩
  · intro k hk; rw [hi]; simp
  · intro k
    by_cases q : k = (d.2.1 0).length
    · exact Or.inl ⟨by decide, by omega⟩
    · exact Or.inr (by rw [hj]; simp [q])
  · intro _; rw [hj]; simp [hv]
  · intro i
    by_cases q : i = (d.2.1 0).length
    · exact Or.inl ⟨rfl, q⟩
    · exact Or.inr (by rw [hi]; simp [q])
  · intro _; rw [hi]; simp
  · intro i; exact Or.inr (by rw [hi]; simp)
  · intro z; cases z
  · intro i; exact Or.inr (by rw [hi]; simp)
  · intro z; cases z
  · intro i; exact Or.inr (by rw [hi]; simp)
  · intro z; cases z
  · intro a k ha; rw [hi, if_neg (by omega), if_neg (by omega)]
theorem rd_place {v : Int64} (h : RD M d) (hg : GdD d) (hl : (d.2.1 1).length < 7) (hv : v.toInt = nv L L.length) {O : sMem} (hO : O = wrI (wrJ M 132 (8 + (d.2.1 1).length) v) 131 1 (nI ((d.2.1 1).length + 1))) : Fr rdX rdJ M O ∧ (∀ k, O.2.1 94 k = M.2.1 94 k) ∧ RD O (addD d 1 (L, [0, 0, 0, 0])) := by
  have hi : ∀ a k, O.2.1 a k = if a = 131 ∧ k = 1 then nI ((d.2.1 1).length + 1) else M.2.1 a k := fun a k => by rw [hO, wrI_get]; rfl
  have hj : ∀ a k, O.2.2.1 a k = if a = 132 ∧ k = 8 + (d.2.1 1).length then v else M.2.2.1 a k := fun a k => by rw [hO]; exact wrJ_get
  refine ⟨by rw [hO]; exact (Fr.rf.wj (rj132 (by omega))).wi (rx0 (by decide)), fun k => by rw [hi]; simp, rd_add h (by decide) hl ?_ ?_ ?_ ?_ ?_ ?_ ?_ ?_ ?_ ?_ ?_ ?_ (mx7 hg)⟩
  · intro k hk; rw [hi]; simp
  · intro k
    by_cases q : k = 8 + (d.2.1 1).length
    · exact Or.inl ⟨by decide, by omega⟩
    · exact Or.inr (by rw [hj]; simp [q])
  · intro _; rw [hj]; simp [hv]
  · intro i; exact Or.inr (by rw [hi]; simp)
  · intro z; cases z
  · intro i; exact Or.inr (by rw [hi]; simp)
  · intro z; cases z
  · intro i; exact Or.inr (by rw [hi]; simp)
  · intro z; cases z
  · intro i; exact Or.inr (by rw [hi]; simp)
  · intro z; cases z
  · intro a k ha; rw [hi, if_neg (by omega)]
theorem rd_way {x y z g : Int32} (h : RD M d) (hg : GdD d) (hl : (d.2.1 4).length < 12) {O : sMem} (hO : O = wrI (wrI (wrI (wrI (wrI M 134 (4 * (d.2.1 4).length) x) 134 (4 * (d.2.1 4).length + 1) y) 134 (4 * (d.2.1 4).length + 2) z) 134 (4 * (d.2.1 4).length + 3) g) 131 4 (nI ((d.2.1 4).length + 1))) : Fr rdX rdJ M O ∧ (∀ k, O.2.1 94 k = M.2.1 94 k) ∧ RD O (addD d 4 ([], [x, y, z, g])) := by
  have hi : ∀ a k, O.2.1 a k = if a = 131 ∧ k = 4 then nI ((d.2.1 4).length + 1) else if a = 134 ∧ k = 4 * (d.2.1 4).length + 3 then g else if a = 134 ∧ k = 4 * (d.2.1 4).length + 2 then z else if a = 134 ∧ k = 4 * (d.2.1 4).length + 1 then y else if a = 134 ∧ k = 4 * (d.2.1 4).length then x else M.2.1 a k := fun a k => by rw [hO, wrI_get, wrI_get, wrI_get, wrI_get, wrI_get]
  have hj : ∀ a k, O.2.2.1 a k = M.2.2.1 a k := fun a k => by rw [hO]; rfl
  refine ⟨by rw [hO]; exact ((((Fr.rf.wi (rx134 (by omega))).wi (rx134 (by omega))).wi (rx134 (by omega))).wi (rx134 (by omega))).wi (rx0 (by decide)), fun k => by rw [hi]; simp, rd_add h (by decide) hl ?_ ?_ ?_ ?_ ?_ ?_ ?_ ?_ ?_ ?_ ?_ ?_ (mx7 hg)⟩
  · intro k hk; rw [hi]; simp
  · intro k; exact Or.inr (hj _ _)
  · intro z; exact absurd z (by decide)
  · intro i; exact Or.inr (by rw [hi]; simp)
  · intro z; cases z
  · intro i
    by_cases q : 4 * (d.2.1 4).length ≤ i
    · exact Or.inl ⟨rfl, q⟩
    · exact Or.inr (by rw [hi, if_neg (by omega), if_neg (by omega), if_neg (by omega), if_neg (by omega), if_neg (by omega)])
  · intro _ j hj
    match j, hj with
    | 0, _ => rw [hi, if_neg (by omega), if_neg (by omega), if_neg (by omega), if_neg (by omega), if_pos (by omega)]; rfl
    | 1, _ => rw [hi, if_neg (by omega), if_neg (by omega), if_neg (by omega), if_pos (by omega)]; rfl
    | 2, _ => rw [hi, if_neg (by omega), if_neg (by omega), if_pos (by omega)]; rfl
    | 3, _ => rw [hi, if_neg (by omega), if_pos (by omega)]; rfl
  · intro i; exact Or.inr (by rw [hi]; simp)
  · intro z; cases z
  · intro i; exact Or.inr (by rw [hi]; simp)
  · intro z; cases z
  · intro a k ha; rw [hi, if_neg (by omega), if_neg (by omega), if_neg (by omega), if_neg (by omega), if_neg (by omega)]
theorem rd_era {v : Int64} {x y z : Int32} (h : RD M d) (hg : GdD d) (hl : (d.2.1 2).length < 5) (hv : v.toInt = nv L L.length) {O : sMem} (hO : O = wrI (wrI (wrI (wrI (wrJ M 132 (16 + (d.2.1 2).length) v) 135 (3 * (d.2.1 2).length) x) 135 (3 * (d.2.1 2).length + 1) y) 135 (3 * (d.2.1 2).length + 2) z) 131 2 (nI ((d.2.1 2).length + 1))) : Fr rdX rdJ M O ∧ (∀ k, O.2.1 94 k = M.2.1 94 k) ∧ RD O (addD d 2 (L, [x, y, z, 0])) := by
  have hi : ∀ a k, O.2.1 a k = if a = 131 ∧ k = 2 then nI ((d.2.1 2).length + 1) else if a = 135 ∧ k = 3 * (d.2.1 2).length + 2 then z else if a = 135 ∧ k = 3 * (d.2.1 2).length + 1 then y else if a = 135 ∧ k = 3 * (d.2.1 2).length then x else M.2.1 a k := fun a k => by rw [hO, wrI_get, wrI_get, wrI_get, wrI_get]; rfl
  have hj : ∀ a k, O.2.2.1 a k = if a = 132 ∧ k = 16 + (d.2.1 2).length then v else M.2.2.1 a k := fun a k => by rw [hO]; exact wrJ_get
  refine ⟨by rw [hO]; exact ((((Fr.rf.wj (rj132 (by omega))).wi (rx135 (by omega))).wi (rx135 (by omega))).wi (rx135 (by omega))).wi (rx0 (by decide)), fun k => by rw [hi]; simp, rd_add h (by decide) hl ?_ ?_ ?_ ?_ ?_ ?_ ?_ ?_ ?_ ?_ ?_ ?_ (mx7 hg)⟩
  · intro k hk; rw [hi]; simp
  · intro k
    by_cases q : k = 16 + (d.2.1 2).length
    · exact Or.inl ⟨by decide, by omega⟩
    · exact Or.inr (by rw [hj]; simp [q])
  · intro _; rw [hj]; simp [hv]
  · intro i; exact Or.inr (by rw [hi]; simp)
  · intro z; cases z
  · intro i; exact Or.inr (by rw [hi]; simp)
  · intro z; cases z
  · intro i
    by_cases q : 3 * (d.2.1 2).length ≤ i
    · exact Or.inl ⟨rfl, q⟩
    · exact Or.inr (by rw [hi, if_neg (by omega), if_neg (by omega), if_neg (by omega), if_neg (by omega)])
  · intro _ j hj
    match j, hj with
    | 0, _ => rw [hi, if_neg (by omega), if_neg (by omega), if_neg (by omega), if_pos (by omega)]; rfl
    | 1, _ => rw [hi, if_neg (by omega), if_neg (by omega), if_pos (by omega)]; rfl
    | 2, _ => rw [hi, if_neg (by omega), if_pos (by omega)]; rfl
  · intro i; exact Or.inr (by rw [hi]; simp)
  · intro z; cases z
  · intro a k ha; rw [hi, if_neg (by omega), if_neg (by omega), if_neg (by omega), if_neg (by omega)]
theorem rd_car {v : Int64} {x y z : Int32} (h : RD M d) (hg : GdD d) (hl : (d.2.1 3).length < 5) (hv : v.toInt = nv L L.length) {O : sMem} (hO : O = wrI (wrI (wrI (wrI (wrJ M 132 (24 + (d.2.1 3).length) v) 136 (3 * (d.2.1 3).length) x) 136 (3 * (d.2.1 3).length + 1) y) 136 (3 * (d.2.1 3).length + 2) z) 131 3 (nI ((d.2.1 3).length + 1))) : Fr rdX rdJ M O ∧ (∀ k, O.2.1 94 k = M.2.1 94 k) ∧ RD O (addD d 3 (L, [x, y, z, 0])) := by
  have hi : ∀ a k, O.2.1 a k = if a = 131 ∧ k = 3 then nI ((d.2.1 3).length + 1) else if a = 136 ∧ k = 3 * (d.2.1 3).length + 2 then z else if a = 136 ∧ k = 3 * (d.2.1 3).length + 1 then y else if a = 136 ∧ k = 3 * (d.2.1 3).length then x else M.2.1 a k := fun a k => by rw [hO, wrI_get, wrI_get, wrI_get, wrI_get]; rfl
  have hj : ∀ a k, O.2.2.1 a k = if a = 132 ∧ k = 24 + (d.2.1 3).length then v else M.2.2.1 a k := fun a k => by rw [hO]; exact wrJ_get
  refine ⟨by rw [hO]; exact ((((Fr.rf.wj (rj132 (by omega))).wi (rx136 (by omega))).wi (rx136 (by omega))).wi (rx136 (by omega))).wi (rx0 (by decide)), fun k => by rw [hi]; simp, rd_add h (by decide) hl ?_ ?_ ?_ ?_ ?_ ?_ ?_ ?_ ?_ ?_ ?_ ?_ (mx7 hg)⟩
  · intro k hk; rw [hi]; simp
  · intro k
    by_cases q : k = 24 + (d.2.1 3).length
    · exact Or.inl ⟨by decide, by omega⟩
    · exact Or.inr (by rw [hj]; simp [q])
  · intro _; rw [hj]; simp [hv]
  · intro i; exact Or.inr (by rw [hi]; simp)
  · intro z; cases z
  · intro i; exact Or.inr (by rw [hi]; simp)
  · intro z; cases z
  · intro i; exact Or.inr (by rw [hi]; simp)
  · intro z; cases z
  · intro i
    by_cases q : 3 * (d.2.1 3).length ≤ i
    · exact Or.inl ⟨rfl, q⟩
    · exact Or.inr (by rw [hi, if_neg (by omega), if_neg (by omega), if_neg (by omega), if_neg (by omega)])
  · intro _ j hj
    match j, hj with
    | 0, _ => rw [hi, if_neg (by omega), if_neg (by omega), if_neg (by omega), if_pos (by omega)]; rfl
    | 1, _ => rw [hi, if_neg (by omega), if_neg (by omega), if_pos (by omega)]; rfl
    | 2, _ => rw [hi, if_neg (by omega), if_pos (by omega)]; rfl
  · intro a k ha; rw [hi, if_neg (by omega), if_neg (by omega), if_neg (by omega), if_neg (by omega)]
end RS3
