/-! THE REFERENCE's statements: its tables, names -/
def RN (M : sMem) (d : Ds) : Prop := (∀ kd, kd < 5 → M.2.1 131 kd = nI (d.2.1 kd).length) ∧ ∀ kd, kd < 4 → ∀ (i : Nat) (h : i < (d.2.1 kd).length), (M.2.2.1 132 (8 * kd + i)).toInt = nv (d.2.1 kd)[i].1 (d.2.1 kd)[i].1.length
def RD (M : sMem) (d : Ds) : Prop := RN M d ∧
  (∀ (i : Nat) (h : i < (d.2.1 0).length), M.2.1 133 i = (d.2.1 0)[i].2.getD 0 0) ∧ (∀ (i : Nat) (h : i < (d.2.1 4).length) (j : Nat), j < 4 → M.2.1 134 (4 * i + j) = (d.2.1 4)[i].2.getD j 0) ∧ (∀ (i : Nat) (h : i < (d.2.1 2).length) (j : Nat), j < 3 → M.2.1 135 (3 * i + j) = (d.2.1 2)[i].2.getD j 0) ∧ (∀ (i : Nat) (h : i < (d.2.1 3).length) (j : Nat), j < 3 → M.2.1 136 (3 * i + j) = (d.2.1 3)[i].2.getD j 0) ∧
  (M.2.1 130 0 = d.1.1 ∧ M.2.1 130 1 = d.1.2) ∧ M.2.1 94 55 = nI (cdL d) ∧ ∀ wh, wh < 3 → match d.2.2 wh with | none => M.2.1 137 wh = mI | some c => ∃ fr, M.2.1 137 wh = nI fr ∧ M.2.1 138 wh = nI (fr + c.length) ∧ fr + c.length ≤ cdL d ∧ ∀ (i : Nat) (h : i < c.length), M.2.1 139 (fr + i) = nI c[i]
def RH {α : Type} (T : Tk) (e : Nat) (sa sz : Nat → Nat) (N : sMem) (r : Flt ⊕ (α × Nat)) (P : α → Prop) : Prop := match r with | .inl q => RS T e sa sz N (.inl q) | .inr q => P q.1 ∧ RS T e sa sz N (.inr q.2)
def RG (b : Nat → Int32) (n : Nat) (d : Ds) (M : sMem) : Prop := RB b n M ∧ RD M d ∧ GdD d
section RST
variable {b : Nat → Int32} {n e t c kd wh : Nat} {T : Tk} {sa sz : Nat → Nat} {M N : sMem} {s : Cs} {d : Ds} {rows : List Row} {L : List Nat} {α : Type} {r : Flt ⊕ (α × Nat)} {P : α → Prop}
theorem rl_out {a k : Nat} (h : a ≠ 94) : rlX a k = false := by unfold rlX; rw [beq_eq_false_iff_ne.mpr h]; rfl
theorem RD.of (h : RD M d) (hi : ∀ a k, 130 ≤ a → a ≤ 139 → N.2.1 a k = M.2.1 a k) (hj : ∀ k, N.2.2.1 132 k = M.2.2.1 132 k) (h5 : N.2.1 94 55 = M.2.1 94 55) : RD N d := by
  obtain ⟨⟨a1, a2⟩, a3, a4, a5, a6, a7, a8, a9⟩ := h
  refine ⟨⟨fun kd hk => by rw [hi _ _ (by decide) (by decide)]; exact a1 kd hk, fun kd hk i h => by rw [hj]; exact a2 kd hk i h⟩, fun i h => by rw [hi _ _ (by decide) (by decide)]; exact a3 i h, fun i h j hj => by rw [hi _ _ (by decide) (by decide)]; exact a4 i h j hj, fun i h j hj => by rw [hi _ _ (by decide) (by decide)]; exact a5 i h j hj, fun i h j hj => by rw [hi _ _ (by decide) (by decide)]; exact a6 i h j hj, ⟨by rw [hi _ _ (by decide) (by decide)]; exact a7.1, by rw [hi _ _ (by decide) (by decide)]; exact a7.2⟩, by rw [h5]; exact a8, fun wh hw => ?_⟩
  have := a9 wh hw
  cases z : d.2.2 wh with
  | none => rw [z] at this; dsimp only at this ⊢; rw [hi _ _ (by decide) (by decide)]; exact this
  | some c =>
    rw [z] at this
    dsimp only at this ⊢
    obtain ⟨fr, f1, f2, f3, f4⟩ := this
    exact ⟨fr, by rw [hi _ _ (by decide) (by decide)]; exact f1, by rw [hi _ _ (by decide) (by decide)]; exact f2, f3, fun i h => by rw [hi _ _ (by decide) (by decide)]; exact f4 i h⟩
theorem RG.rl (h : RG b n d M) (hF : Fr rlX q0 M N) : RG b n d N := ⟨h.1.rl hF, h.2.1.of (fun a k h1 h2 => hF.i (rl_out (by omega))) (fun k => hF.j rfl) (hF.i rfl), h.2.2⟩
theorem RH.rs (h : RH T e sa sz M r P) : RS T e sa sz M (csR r) := by
  match r, h with
  | .inl q, h => exact h
  | .inr q, h => exact h.2
theorem RH.go {β : Type} {g : Nat → Flt ⊕ (β × Nat)} {g' : α → Nat → Flt ⊕ (β × Nat)} {v : β} (h : RH T e sa sz M r P) (k : RV2 T e sa sz N (csR r) g v) (hg : ∀ a, P a → g' a = g) : RH T e sa sz N (sb r fun a t => sb (g' a t) fun x t' => .inr ((a, x), t')) fun q => P q.1 ∧ v = q.2 := by
  match r, h, k with
  | .inl q, h, k => exact k
  | .inr (a, t), h, k =>
    have : RV2 T e sa sz N (.inr t) (g' a) v := by rw [hg a h.1]; exact k
    rw [sb_r]
    unfold RV2 at this
    dsimp only at this
    match z : g' a t with
    | .inl q => rw [z] at this; exact this
    | .inr (x, t') => rw [z] at this; exact ⟨⟨h.1, this.1⟩, this.2⟩
theorem RH.wd {w : Nat} (h : RH T e sa sz M r P) (k : RS T e sa sz N (ndW T (nI w) (csR r))) : RH T e sa sz N (sb r fun a t => sb (aW T w t) fun _ t' => .inr (a, t')) P := by
  match r, h, k with
  | .inl q, h, k => exact k
  | .inr (a, t), h, k =>
    rw [sb_r]
    have e0 : ndW T (nI w) (csR (.inr (a, t))) = if T 3 t = 1 ∧ T 6 t = nI w then .inr (t + 1) else .inl (1, T 4 t) := rfl
    rw [e0] at k
    unfold aW
    by_cases q : T 3 t = 1 ∧ T 6 t = nI w
    · rw [if_pos q] at k ⊢; exact ⟨h.1, k⟩
    · rw [if_neg q] at k ⊢; exact k
theorem h_w (hL : Lex b n T e sa sz) (hB : RG b n d M) (h : RH T e sa sz M r P) (c : Nat) (hc : isWc c) : ∃ N, f_X12_asks 94 c M = some N ∧ Fr rlX q0 M N ∧ RG b n d N ∧ RH T e sa sz N (sb r fun a t => sb (aW T (wdc c) t) fun _ t' => .inr (a, t')) P := by
  obtain ⟨N, a1, a2, a3⟩ := r_asks hL hB.1 hc h.rs
  exact ⟨N, a1, a2, hB.rl a2, h.wd a3⟩
theorem h_n (hL : Lex b n T e sa sz) (hB : RG b n d M) (h : RH T e sa sz M r P) (lo hi : Int32) : ∃ v N, f_X12_number 94 lo hi M = some (v, N) ∧ Fr rlX q0 M N ∧ RG b n d N ∧ RH T e sa sz N (sb r fun a t => sb (numR T lo hi t) fun x t' => .inr ((a, x), t')) fun q => P q.1 ∧ v = q.2 := by
  obtain ⟨v, N, a1, a2, a3⟩ := r_number hL hB.1 h.rs lo hi
  exact ⟨v, N, a1, a2, hB.rl a2, h.go a3 (fun _ _ => rfl)⟩
/-- is a table full -/
theorem h_full (hB : RG b n d M) (hk : kd < 5) (h : RS T e sa sz M (.inr t)) (at' : Int32) : ∃ x N, f_X12_isFull 94 (nI kd) (nI (mxK kd)) at' M = some (x, N) ∧ ((fullR d kd at' t = .inl (5, at') ∧ x = 1 ∧ Fr rlX q0 M N ∧ RS T e sa sz N (.inl (5, at'))) ∨ (fullR d kd at' t = .inr ((), t) ∧ (d.2.1 kd).length < mxK kd ∧ x = 0 ∧ N = M)) := by
  have hs := hB.1.1
  have hl := hB.2.2.2.2 kd hk
  have hm := mx_le hk
  unfold f_X12_isFull f_X12_isFull_B23 fullR
  rw [sr94 hs, gi94 hs, Option.bind_some, h.1, if_pos rfl, gr94_46 hs, Option.bind_some, ldI_n (rs131 hs) (show kd < 10 by omega) (by decide), Option.bind_some, hB.2.1.1.1 kd hk]
  by_cases q : (d.2.1 kd).length = mxK kd
  · obtain ⟨N, f1, f2, f3⟩ := r_fail hB.1 h 5 at' (by decide)
    rw [if_pos (by rw [q]), f1, Option.bind_some, gi94 (f2.hs hs), Option.bind_some]
    replace f3 : RS T e sa sz N (.inl (5, at')) := f3
    rw [f3.1, if_neg (show ¬ (5 : Int32) = 0 by decide), if_pos q]
    exact ⟨1, N, rfl, Or.inl ⟨rfl, rfl, f2, f3⟩⟩
  · rw [if_neg (by rw [nI_eq (by omega) (by omega)]; exact q), Option.bind_some, if_pos rfl, if_neg q]
    exact ⟨0, M, rfl, Or.inr ⟨rfl, by omega, rfl, rfl⟩⟩
theorem fnd_none : fnd rows L = none ↔ ∀ (i : Nat) (h : i < rows.length), rows[i].1 ≠ L := by
  unfold fnd
  rw [List.findIdx?_eq_none_iff]
  constructor
  · intro h i hi
    exact beq_eq_false_iff_ne.mp (h _ (List.getElem_mem hi))
  · intro h r hr
    obtain ⟨i, i1, i2⟩ := List.mem_iff_getElem.mp hr
    rw [← i2]; exact beq_eq_false_iff_ne.mpr (h i i1)
theorem j_eq {x v : Int64} (hx : x.toInt = nv L L.length) {L' : List Nat} (hv : v.toInt = nv L' L'.length) (h : GdN L) (h' : GdN L') : x = v ↔ L = L' := by
  rw [← nm_eqL h h', ← Int64.toInt_inj, hx, hv]
  omega
/-- the loop over a table's names -/
theorem r_nnI (hB : RG b n d M) (hk : kd < 4) (v : Int64) : (M.2.1 94 5 ≠ 0 → f_X12_newName_L15 94 v (nI kd) 0 M = some (.inl (nI (kd + 1), M))) ∧ ∀ t1 p, RS T e sa sz M (.inr t1) → GdN L → v.toInt = nv L L.length → M.2.1 94 44 = p → ∃ N, f_X12_newName_L15 94 v (nI kd) 0 M = some (.inl (nI (kd + 1), N)) ∧ Fr rlX q0 M N ∧ ((fnd (d.2.1 kd) L = none ∧ N = M) ∨ (fnd (d.2.1 kd) L ≠ none ∧ RS T e sa sz N (.inl (3, p)))) := by
  have hs := hB.1.1
  have hl := hB.2.2.2.2 kd (by omega)
  have hm := mx_le (kd := kd) (by omega)
  have hc := hB.2.1.1.1 kd (by omega)
  have hmk : mxK kd ≤ 7 := by
    have : ∀ kd, kd < 4 → mxK kd ≤ 7 := by decide
    exact this kd hk
  have bad : ∀ (N : sMem) (j : Nat), RefS N.1 N.2.2.2 → N.2.1 131 kd = nI (d.2.1 kd).length → N.2.1 94 5 ≠ 0 → j < (d.2.1 kd).length → f_X12_newName_K15 94 v (nI kd) (nI j) N = some (.inl (nI (j + 1), N)) := by
    intro N j hsN hcN h5 hj
    unfold f_X12_newName_K15 f_X12_newName_B59
    rw [gr94_46 hsN, Option.bind_some, ldI_n (rs131 hsN) (show kd < 10 by omega) (by decide), Option.bind_some, hcN, if_neg (by rw [cle (by omega) (by omega)]; omega), gi94 hsN, Option.bind_some, if_neg h5, nI_1]
  have stop : ∀ (N : sMem) (j : Nat), RefS N.1 N.2.2.2 → N.2.1 131 kd = nI (d.2.1 kd).length → (d.2.1 kd).length ≤ j → j < 100 → f_X12_newName_K15 94 v (nI kd) (nI j) N = some (.inr N) := by
    intro N j hsN hcN hj hj2
    unfold f_X12_newName_K15
    rw [gr94_46 hsN, Option.bind_some, ldI_n (rs131 hsN) (show kd < 10 by omega) (by decide), Option.bind_some, hcN, if_pos (by rw [cle (by omega) (by omega)]; omega)]
  refine ⟨fun h5 => ?_, fun t1 p hS hg hv h44 => ?_⟩
  · unfold f_X12_newName_L15 f_X12_newName_B65
    obtain ⟨r, r1, r2⟩ := itr_g (f := fun a : Int32 × sMem => f_X12_newName_K15 94 v (nI kd) a.1 a.2) (fun k s => (nI k, s)) (fun k s => s = M) (fun r => r = M) (d.2.1 kd).length (by omega) (fun k s hk' hI => by
      subst hI
      by_cases q : k < (d.2.1 kd).length
      · exact Or.inl ⟨q, s, bad s k hs hc h5 q, rfl⟩
      · exact Or.inr ⟨s, stop s k hs hc (by omega) (by omega), rfl⟩) (i := 0) (s := M) (Nat.zero_le _) rfl
    replace r1 : sItr (fun a : Int32 × sMem => f_X12_newName_K15 94 v (nI kd) a.1 a.2) sFuel (0, M) = some r := r1
    rw [r1, Option.bind_some, r2, nI_1]
  · unfold f_X12_newName_L15 f_X12_newName_B65
    obtain ⟨r, r1, r2⟩ := itr_g (f := fun a : Int32 × sMem => f_X12_newName_K15 94 v (nI kd) a.1 a.2) (fun k s => (nI k, s)) (fun k s => (s = M ∧ ∀ (i : Nat) (h : i < (d.2.1 kd).length), i < k → (d.2.1 kd)[i].1 ≠ L) ∨ (Fr rlX q0 M s ∧ RS T e sa sz s (.inl (3, p)) ∧ fnd (d.2.1 kd) L ≠ none)) (fun s => (s = M ∧ fnd (d.2.1 kd) L = none) ∨ (Fr rlX q0 M s ∧ RS T e sa sz s (.inl (3, p)) ∧ fnd (d.2.1 kd) L ≠ none)) (d.2.1 kd).length (by omega) (fun k s hk' hI => by
      rcases hI with ⟨rfl, hI⟩ | ⟨i1, i2, i3⟩
      · by_cases q : k < (d.2.1 kd).length
        · left
          refine ⟨q, ?_⟩
          have hgk := hB.2.2.1 kd hk _ (List.getElem_mem q)
          have hnm := hB.2.1.1.2 kd hk k q
          dsimp only
          unfold f_X12_newName_K15 f_X12_newName_B59
          rw [gr94_46 hs, Option.bind_some, ldI_n (rs131 hs) (show kd < 10 by omega) (by decide), Option.bind_some, hc, if_neg (by rw [cle (by omega) (by omega)]; omega), gi94 hs, Option.bind_some, hS.1, if_pos rfl, gr94_47 hs, Option.bind_some, show (8 : Int32) * nI kd + nI k = nI (8 * kd + k) by rw [show (8 : Int32) = nI 8 from rfl, pk_mul, nI_add], ldJ_n (rs132 hs) (by omega) (by decide), Option.bind_some]
          by_cases w : s.2.2.1 132 (8 * kd + k) = v
          · obtain ⟨N, f1, f2, f3⟩ := r_fail hB.1 hS 3 p (by decide)
            rw [if_pos w, gi94 hs, Option.bind_some, h44, f1, Option.bind_some, nI_1]
            refine ⟨N, rfl, Or.inr ⟨f2, f3, fun z => ?_⟩⟩
            exact (fnd_none.mp z k q) ((j_eq hnm hv hgk hg).mp w)
          · rw [if_neg w, nI_1]
            refine ⟨s, rfl, Or.inl ⟨rfl, fun i hi hik => ?_⟩⟩
            by_cases w2 : i = k
            · subst w2; exact fun z => w ((j_eq hnm hv hgk hg).mpr z)
            · exact hI i hi (by omega)
        · right
          exact ⟨s, stop s k hs hc (by omega) (by omega), Or.inl ⟨rfl, fnd_none.mpr (fun i hi => hI i hi (by omega))⟩⟩
      · have hsN := i1.hs hs
        have hcN : s.2.1 131 kd = nI (d.2.1 kd).length := by rw [i1.i (rl_out (by decide))]; exact hc
        by_cases q : k < (d.2.1 kd).length
        · exact Or.inl ⟨q, s, bad s k hsN hcN (by rw [i2.1]; exact i2.2.2) q, Or.inr ⟨i1, i2, i3⟩⟩
        · exact Or.inr ⟨s, stop s k hsN hcN (by omega) (by omega), Or.inr ⟨i1, i2, i3⟩⟩) (i := 0) (s := M) (Nat.zero_le _) (Or.inl ⟨rfl, fun i hi h => by omega⟩)
    replace r1 : sItr (fun a : Int32 × sMem => f_X12_newName_K15 94 v (nI kd) a.1 a.2) sFuel (0, M) = some r := r1
    rw [r1, Option.bind_some, nI_1]
    rcases r2 with ⟨rfl, r2⟩ | ⟨i1, i2, i3⟩
    · exact ⟨r, rfl, Fr.rf, Or.inl ⟨r2, rfl⟩⟩
    · exact ⟨r, rfl, i1, Or.inr ⟨i3, i2⟩⟩
end RST
