/-! THE REFERENCE's pile in memory -/
def qX : Nat → Nat → Bool := fun a k => (a == 94 && (k == 116 || k == 118 || k == 119 || k == 120)) || a == 183 || a == 184
def rqX : Nat → Nat → Bool := fun a k => rlX a k || qX a k
def StI (g : Nat → Int32) : List Nat → Prop
  | [] => True
  | v :: s => g s.length = nI v ∧ StI g s
theorem StI.cg {g g' : Nat → Int32} : ∀ {s : List Nat}, StI g s → (∀ i, i < s.length → g' i = g i) → StI g' s
  | [], _, _ => trivial
  | v :: s, h, hg => ⟨(hg s.length (by show s.length < s.length + 1; omega)).trans h.1, StI.cg h.2 (fun i hi => hg i (by show i < s.length + 1; omega))⟩
def RQ (M : sMem) (S0 S R : List Nat) (o : Nat) : Prop := M.2.1 94 118 = nI (S.length + S0.length) ∧ StI (M.2.1 184) (S ++ S0) ∧ M.2.1 94 116 = nI R.length ∧ (∀ (i : Nat) (h : i < R.length), M.2.1 183 i = nI R[i]) ∧ M.2.1 94 119 = nI o ∧ M.2.1 94 120 = nI S0.length
/-- how many are open in it -/
def opn : List Nat → Nat
  | [] => 0
  | s :: S => (if 20 ≤ s then 1 else 0) + opn S
/-- what is small enough -/
def Sm (S0 S R : List Nat) (t : Nat) : Prop := S0.length + S.length + R.length ≤ t ∧ t ≤ 1600
theorem itr_s {α β : Type} {f : α → Option (α ⊕ β)} {n : Nat} {a : α} : sItr f (n + 1) a = (f a).bind (fun x => match x with | .inl a' => sItr f n a' | .inr b => some b) := rfl
theorem itr_e {α β : Type} {f : α → Option (α ⊕ β)} {n : Nat} {a : α} {c : β} (h : f a = some (.inr c)) : sItr f (n + 1) a = some c := by rw [itr_s, h]; rfl
theorem itr_c {α β : Type} {f : α → Option (α ⊕ β)} {n : Nat} {a a' : α} (h : f a = some (.inl a')) : sItr f (n + 1) a = sItr f n a' := by rw [itr_s, h]; rfl
theorem itr_mono {α β : Type} {f : α → Option (α ⊕ β)} : ∀ {n m : Nat} {a : α} {c : β}, sItr f n a = some c → n ≤ m → sItr f m a = some c
  | 0, m, a, c, h, _ => by cases h
  | n + 1, 0, a, c, h, hm => by omega
  | n + 1, m + 1, a, c, h, hm => by
    rw [itr_s] at h ⊢
    cases q : f a with
    | none => rw [q] at h; cases h
    | some x =>
      rw [q] at h
      match x, h with
      | .inl a', h => exact itr_mono (f := f) (a := a') h (by omega)
      | .inr b, h => exact h
section RP2
variable {b : Nat → Int32} {n e t c : Nat} {T : Tk} {sa sz : Nat → Nat} {M N : sMem} {s : Cs} {S0 S R : List Nat} {o v : Nat}
theorem q_rl {a k : Nat} (h : qX a k = true) : rlX a k = false := by
  unfold qX at h; unfold rlX
  simp only [Bool.or_eq_true, Bool.and_eq_true, beq_iff_eq] at h
  cases q : (a == 94 && (k == 2 || k == 4 || k == 5 || k == 6 || k == 10 || k == 44)) with
  | false => rfl
  | true =>
    simp only [Bool.or_eq_true, Bool.and_eq_true, beq_iff_eq] at q
    omega
theorem up_l (h : Fr rlX q0 M N) : Fr rqX q0 M N := h.mono (fun a k z => by unfold rqX at z; revert z; cases rlX a k <;> simp) (fun _ _ z => z)
theorem up_q (h : Fr qX q0 M N) : Fr rqX q0 M N := h.mono (fun a k z => by unfold rqX at z; revert z; cases qX a k <;> simp) (fun _ _ z => z)
theorem RB.q (h : RB b n M) (hF : Fr qX q0 M N) : RB b n N := h.fr hF rfl (fun c hc k => by
  unfold qX
  rw [beq_eq_false_iff_ne.mpr (show c ≠ 94 by omega), beq_eq_false_iff_ne.mpr (show c ≠ 183 by omega), beq_eq_false_iff_ne.mpr (show c ≠ 184 by omega)]; rfl)
theorem RB.rq (h : RB b n M) (hF : Fr rqX q0 M N) : RB b n N := h.fr hF rfl (fun c hc k => by
  unfold rqX qX
  rw [rlX_c hc, beq_eq_false_iff_ne.mpr (show c ≠ 94 by omega), beq_eq_false_iff_ne.mpr (show c ≠ 183 by omega), beq_eq_false_iff_ne.mpr (show c ≠ 184 by omega)]; rfl)
theorem RS.q (h : RS T e sa sz M s) (hF : Fr qX q0 M N) : RS T e sa sz N s := by
  match s, h with
  | .inl q, h => exact ⟨by rw [hF.i rfl]; exact h.1, by rw [hF.i rfl]; exact h.2.1, h.2.2⟩
  | .inr t, h => exact ⟨by rw [hF.i rfl]; exact h.1, h.2.1, by rw [hF.i rfl]; exact h.2.2.1, by rw [hF.i rfl]; exact h.2.2.2.1, by rw [hF.i rfl]; exact h.2.2.2.2⟩
theorem RSl.q (h : RSl T e sa sz M t) (hF : Fr qX q0 M N) : RSl T e sa sz N t := ⟨h.1.q hF, by rw [hF.i rfl]; exact h.2⟩
theorem RQ.l (h : RQ M S0 S R o) (hF : Fr rlX q0 M N) : RQ N S0 S R o := by
  obtain ⟨h1, h2, h3, h4, h5, h6⟩ := h
  exact ⟨by rw [hF.i rfl]; exact h1, h2.cg (fun i _ => hF.i rfl), by rw [hF.i rfl]; exact h3, fun i hi => by rw [hF.i rfl]; exact h4 i hi, by rw [hF.i rfl]; exact h5, by rw [hF.i rfl]; exact h6⟩
theorem q_code (hB : RB b n M) (hQ : RQ M S0 S R o) (hr : R.length < 1700) {z : Int32} (hz : z = nI v) : ∃ N, f_X12_qCode 94 z M = some N ∧ Fr qX q0 M N ∧ RQ N S0 S (R ++ [v]) o := by
  obtain ⟨h1, h2, h3, h4, h5, h6⟩ := hQ
  unfold f_X12_qCode
  rw [sr94 hB.1, gr94_115 hB.1, Option.bind_some, gi94 hB.1, Option.bind_some, h3, st183 hB.1 hr, Option.bind_some, gi94 (M := wrI M 183 R.length z) hB.1, Option.bind_some, wrI_ne (by omega), h3, nI_1, pi94 (M := wrI M 183 R.length z) hB.1, Option.bind_some]
  refine ⟨_, rfl, (Fr.rf.wi rfl).wi rfl, by rw [wrI_ne (by omega), wrI_ne (by omega)]; exact h1, h2.cg (fun i _ => by rw [wrI_ne (by omega), wrI_ne (by omega)]), by rw [wrI_eq, List.length_append, List.length_singleton], fun i hi => ?_, by rw [wrI_ne (by omega), wrI_ne (by omega)]; exact h5, by rw [wrI_ne (by omega), wrI_ne (by omega)]; exact h6⟩
  rw [List.length_append, List.length_singleton] at hi
  rw [wrI_ne (by omega), wrI_get]
  by_cases q : i = R.length
  · rw [if_pos ⟨rfl, q⟩, hz, List.getElem_append_right (by omega)]; simp
  · rw [if_neg (fun w => q w.2), List.getElem_append_left (by omega)]; exact h4 i (by omega)
theorem q_drops (hB : RB b n M) (hQ : RQ M S0 (v :: S) R o) (hr : R.length < 1700) (hs : S.length + S0.length < 1700) : ∃ N, f_X12_qDrops 94 M = some N ∧ Fr qX q0 M N ∧ RQ N S0 S (R ++ [v]) o := by
  obtain ⟨h1, h2, h3, h4, h5, h6⟩ := hQ
  have e1 : nI ((v :: S).length + S0.length) - (1 : Int32) = nI (S.length + S0.length) := by
    rw [show (1 : Int32) = nI 1 from rfl, nsub (by show 1 ≤ S.length + 1 + S0.length; omega), show (v :: S).length + S0.length - 1 = S.length + S0.length by show S.length + 1 + S0.length - 1 = _; omega]
  have e2 : M.2.1 184 (S.length + S0.length) = nI v := by have w : M.2.1 184 (S ++ S0).length = nI v := h2.1; rw [List.length_append] at w; exact w
  have hF : Fr qX q0 M (wrI M 94 118 (nI (S.length + S0.length))) := Fr.rf.wi rfl
  have hQ1 : RQ (wrI M 94 118 (nI (S.length + S0.length))) S0 S R o := ⟨wrI_eq, h2.2.cg (fun i _ => by rw [wrI_ne (by omega)]), by rw [wrI_ne (by omega)]; exact h3, fun i hi => by rw [wrI_ne (by omega)]; exact h4 i hi, by rw [wrI_ne (by omega)]; exact h5, by rw [wrI_ne (by omega)]; exact h6⟩
  obtain ⟨N, k1, k2, k3⟩ := q_code (hB.q hF) hQ1 hr (z := nI v) rfl
  unfold f_X12_qDrops
  rw [sr94 hB.1, gi94 hB.1, Option.bind_some, h1, e1, pi94 hB.1, Option.bind_some, gr94_117 (M := wrI M 94 118 (nI (S.length + S0.length))) hB.1, Option.bind_some, gi94 (M := wrI M 94 118 (nI (S.length + S0.length))) hB.1, Option.bind_some, wrI_eq, ld184 (M := wrI M 94 118 (nI (S.length + S0.length))) hB.1 hs, Option.bind_some, wrI_ne (by omega), e2, k1]
  exact ⟨N, rfl, hF.tr k2, k3⟩
/-- something is put upon the pile -/
theorem q_push (hB : RB b n M) (hQ : RQ M S0 S R o) (hs : S.length + S0.length < 1700) {z : Int32} (hz : z = nI v) : RQ (wrI (wrI M 184 (S.length + S0.length) z) 94 118 (nI (S.length + S0.length + 1))) S0 (v :: S) R o ∧ Fr qX q0 M (wrI (wrI M 184 (S.length + S0.length) z) 94 118 (nI (S.length + S0.length + 1))) := by
  obtain ⟨h1, h2, h3, h4, h5, h6⟩ := hQ
  refine ⟨⟨by rw [wrI_eq]; congr 1; show _ = S.length + 1 + S0.length; omega, ⟨?_, h2.cg (fun i hi => ?_)⟩, by rw [wrI_ne (by omega), wrI_ne (by omega)]; exact h3, fun i hi => by rw [wrI_ne (by omega), wrI_ne (by omega)]; exact h4 i hi, by rw [wrI_ne (by omega), wrI_ne (by omega)]; exact h5, by rw [wrI_ne (by omega), wrI_ne (by omega)]; exact h6⟩, (Fr.rf.wi rfl).wi rfl⟩
  · show (wrI (wrI M 184 (S.length + S0.length) z) 94 118 _).2.1 184 (S ++ S0).length = _
    rw [wrI_ne (by omega), List.length_append, wrI_eq, hz]
  · rw [List.length_append] at hi
    rw [wrI_ne (by omega), wrI_ne (by omega)]
theorem q_opens (hB : RB b n M) (hS : RS T e sa sz M (.inr t)) (hQ : RQ M S0 S R o) (hs : S.length + S0.length < 1700) (ho : o ≤ 6) {z p : Int32} (hz : z = nI v) : ∃ N, f_X12_qOpens 94 z p M = some N ∧ Fr rqX q0 M N ∧ ((o = 6 ∧ RS T e sa sz N (.inl (4, p)) ∧ N.2.1 94 116 = M.2.1 94 116) ∨ (o ≠ 6 ∧ Fr qX q0 M N ∧ RQ N S0 (v :: S) R (o + 1))) := by
  unfold f_X12_qOpens
  rw [sr94 hB.1, gi94 hB.1, Option.bind_some, hS.1, if_pos rfl, gi94 hB.1, Option.bind_some, hQ.2.2.2.2.1]
  by_cases h6 : o = 6
  · obtain ⟨N, f1, f2, f3⟩ := r_fail hB hS 4 p (by decide)
    rw [if_pos (by rw [h6]; rfl), f1]
    exact ⟨N, rfl, up_l f2, Or.inl ⟨h6, f3, f2.i rfl⟩⟩
  · rw [if_neg (by rw [show (6 : Int32) = nI 6 from rfl, nI_eq (by omega) (by omega)]; exact h6), Option.bind_some, nI_1, pi94 hB.1, Option.bind_some]
    have hF : Fr qX q0 M (wrI M 94 119 (nI (o + 1))) := Fr.rf.wi rfl
    have hB1 := hB.q hF
    have hQ1 : RQ (wrI M 94 119 (nI (o + 1))) S0 S R (o + 1) := by
      obtain ⟨h1, h2, h3, h4, h5, h6⟩ := hQ
      exact ⟨by rw [wrI_ne (by omega)]; exact h1, h2.cg (fun i _ => by rw [wrI_ne (by omega)]), by rw [wrI_ne (by omega)]; exact h3, fun i hi => by rw [wrI_ne (by omega)]; exact h4 i hi, wrI_eq, by rw [wrI_ne (by omega)]; exact h6⟩
    obtain ⟨k1, k2⟩ := q_push hB1 hQ1 hs hz
    rw [gr94_117 hB1.1, Option.bind_some, gi94 hB1.1, Option.bind_some, hQ1.1, st184 hB1.1 hs, Option.bind_some, gi94 (M := wrI (wrI M 94 119 (nI (o + 1))) 184 (S.length + S0.length) z) hB1.1, Option.bind_some, wrI_ne (by omega), hQ1.1, nI_1, pi94 (M := wrI (wrI M 94 119 (nI (o + 1))) 184 (S.length + S0.length) z) hB1.1, Option.bind_some]
    exact ⟨_, rfl, up_q (hF.tr k2), Or.inr ⟨h6, hF.tr k2, k1⟩⟩
theorem q_top (hB : RB b n M) (hQ : RQ M S0 (v :: S) R o) (hs : S.length + S0.length < 1700) : ldI 14 M 184 (nI ((v :: S).length + S0.length) - (1 : Int32)) = some (nI v) := by
  have e1 : nI ((v :: S).length + S0.length) - (1 : Int32) = nI (S.length + S0.length) := by
    rw [show (1 : Int32) = nI 1 from rfl, nsub (by show 1 ≤ S.length + 1 + S0.length; omega), show (v :: S).length + S0.length - 1 = S.length + S0.length by show S.length + 1 + S0.length - 1 = _; omega]
  have e2 : M.2.1 184 (S.length + S0.length) = nI v := by have w : M.2.1 184 (S ++ S0).length = nI v := hQ.2.1.1; rw [List.length_append] at w; exact w
  rw [e1, ld184 hB.1 hs, e2]
theorem q_ends : ∀ {S R : List Nat} {o : Nat} {M : sMem}, RB b n M → M.2.1 94 5 = 0 → RQ M S0 S R o → (∀ s ∈ S, s < 1000) → S0.length + S.length + R.length ≤ 1600 → opn S ≤ o → ∀ fu, S.length < fu → ∃ N, sItr (fun a : sMem => f_X12_qEndsPart_K0 94 a) fu M = some N ∧ Fr qX q0 M N ∧ RQ N S0 (endsP S R o).1 (endsP S R o).2.1 (endsP S R o).2.2 := by
  intro S
  induction S with
  | nil =>
    intro R o M hB h5 hQ _ hl ho fu hfu
    obtain ⟨m, rfl⟩ : ∃ m, fu = m + 1 := ⟨fu - 1, by omega⟩
    refine ⟨M, itr_e ?_, Fr.rf, hQ⟩
    unfold f_X12_qEndsPart_K0
    rw [gi94 hB.1, Option.bind_some, h5, if_pos rfl, gi94 hB.1, Option.bind_some, gi94 hB.1, Option.bind_some, hQ.1, hQ.2.2.2.2.2, if_pos (by rw [cle (by simp at hl ⊢; omega) (by omega)]; simp)]
  | cons v S ih =>
    intro R o M hB h5 hQ hv hl ho fu hfu
    obtain ⟨m, rfl⟩ : ∃ m, fu = m + 1 := ⟨fu - 1, by omega⟩
    rw [List.length_cons] at hl hfu
    have hvv := hv v List.mem_cons_self
    have hop : opn (v :: S) = (if 20 ≤ v then 1 else 0) + opn S := rfl
    have head : f_X12_qEndsPart_K0 94 M = (if nI v < (60 : Int32) then some (.inr M) else (gI 12 127 119 M 94).bind fun x7 => (pI 12 127 119 M 94 ((x7 - (1 : Int32)))).bind fun M8 => (f_X12_qDrops 94 M8).bind fun M9 => some (.inl M9)) := by
      unfold f_X12_qEndsPart_K0
      rw [gi94 hB.1, Option.bind_some, h5, if_pos rfl, gi94 hB.1, Option.bind_some, gi94 hB.1, Option.bind_some, hQ.1, hQ.2.2.2.2.2, if_neg (by rw [List.length_cons, cle (by omega) (by omega)]; omega), gr94_117 hB.1, Option.bind_some, Option.bind_some, q_top hB hQ (by omega), Option.bind_some]
    by_cases h60 : 60 ≤ v
    · have e1 : endsP (v :: S) R o = endsP S (R ++ [v]) (o - 1) := by
        show (if 60 ≤ v then _ else _) = _
        rw [if_pos h60]
      rw [if_pos (by omega)] at hop
      have hF : Fr qX q0 M (wrI M 94 119 (nI (o - 1))) := Fr.rf.wi rfl
      have hQ1 : RQ (wrI M 94 119 (nI (o - 1))) S0 (v :: S) R (o - 1) := by
        obtain ⟨h1, h2, h3, h4, h5, h6⟩ := hQ
        exact ⟨by rw [wrI_ne (by omega)]; exact h1, h2.cg (fun i _ => by rw [wrI_ne (by omega)]), by rw [wrI_ne (by omega)]; exact h3, fun i hi => by rw [wrI_ne (by omega)]; exact h4 i hi, wrI_eq, by rw [wrI_ne (by omega)]; exact h6⟩
      obtain ⟨N1, k1, k2, k3⟩ := q_drops (hB.q hF) hQ1 (by omega) (by omega)
      have hFF := hF.tr k2
      obtain ⟨N, j1, j2, j3⟩ := ih (R := R ++ [v]) (o := o - 1) (hB.q hFF) (by rw [hFF.i rfl]; exact h5) k3 (fun s hs => hv s (List.mem_cons_of_mem _ hs)) (by rw [List.length_append, List.length_singleton]; omega) (by omega) m (by omega)
      refine ⟨N, ?_, hFF.tr j2, by rw [e1]; exact j3⟩
      rw [itr_c (a' := N1)]
      · exact j1
      · rw [head, if_neg (by rw [show (60 : Int32) = nI 60 from rfl, clt (by omega) (by omega)]; omega), gi94 hB.1, Option.bind_some, hQ.2.2.2.2.1, show (1 : Int32) = nI 1 from rfl, nsub (by omega), pi94 hB.1, Option.bind_some, k1]; rfl
    · have e1 : endsP (v :: S) R o = (v :: S, R, o) := by
        show (if 60 ≤ v then _ else _) = _
        rw [if_neg h60]
      refine ⟨M, itr_e ?_, Fr.rf, by rw [e1]; exact hQ⟩
      rw [head, if_pos (by rw [show (60 : Int32) = nI 60 from rfl, clt (by omega) (by omega)]; omega)]
theorem r_isB {v : Nat} (hv : v < 1000) : f_X12_qIsBracket (nI v) M = some (bI (isB v = true)) := by
  unfold f_X12_qIsBracket isB
  by_cases h1 : v < 20
  · rw [if_pos (by rw [show (20 : Int32) = nI 20 from rfl, clt (by omega) (by omega)]; exact h1), bI_f (fun z => by have := of_decide_eq_true z; omega)]
  · rw [if_neg (by rw [show (20 : Int32) = nI 20 from rfl, clt (by omega) (by omega)]; exact h1)]
    by_cases h2 : 24 < v
    · rw [if_pos (by rw [show (24 : Int32) = nI 24 from rfl, clt (by omega) (by omega)]; exact h2), bI_f (fun z => by have := of_decide_eq_true z; omega)]
    · rw [if_neg (by rw [show (24 : Int32) = nI 24 from rfl, clt (by omega) (by omega)]; exact h2), bI_t (decide_eq_true (by omega))]
/-- what is open last in the sum at hand -/
theorem q_brk (hB : RB b n M) (h120 : M.2.1 94 120 = nI S0.length) : ∀ {S : List Nat}, StI (M.2.1 184) (S ++ S0) → (∀ s ∈ S, 1 ≤ s ∧ s < 1000) → S0.length + S.length ≤ 1600 → ∀ fu, S.length < fu → ∃ r, sItr (fun a : Int32 => f_X12_qBracket_K7 94 a M) fu (nI (S.length + S0.length) - 1) = some r ∧ f_X12_qBracket_B33 94 r M = some (if brk S = 0 then -1 else nI (brk S)) := by
  intro S
  induction S with
  | nil =>
    intro _ _ hl fu hfu
    obtain ⟨m, rfl⟩ : ∃ m, fu = m + 1 := ⟨fu - 1, by omega⟩
    have hlt : nI (0 + S0.length) - (1 : Int32) < nI S0.length := by
      refine lt_i.mpr ?_
      rw [Nat.zero_add, sub_i (by rw [nI_i (by simp at hl; omega)]; show -2147483648 ≤ (S0.length : Int) - 1; omega) (by rw [nI_i (by simp at hl; omega)]; show (S0.length : Int) - 1 < 2147483648; simp at hl; omega), nI_i (by simp at hl; omega)]
      show (S0.length : Int) - 1 < _
      omega
    have hlt' : nI (([] : List Nat).length + S0.length) - (1 : Int32) < nI S0.length := hlt
    refine ⟨nI (([] : List Nat).length + S0.length) - 1, itr_e ?_, ?_⟩
    · unfold f_X12_qBracket_K7
      rw [gi94 hB.1, Option.bind_some, h120, if_pos hlt']
    · unfold f_X12_qBracket_B33
      rw [gi94 hB.1, Option.bind_some, h120, if_pos hlt']; rfl
  | cons v S ih =>
    intro hst hv hl fu hfu
    obtain ⟨m, rfl⟩ : ∃ m, fu = m + 1 := ⟨fu - 1, by omega⟩
    rw [List.length_cons] at hl hfu
    have hvv := hv v List.mem_cons_self
    have e1 : nI ((v :: S).length + S0.length) - (1 : Int32) = nI (S.length + S0.length) := by
      rw [show (1 : Int32) = nI 1 from rfl, nsub (by show 1 ≤ S.length + 1 + S0.length; omega), show (v :: S).length + S0.length - 1 = S.length + S0.length by show S.length + 1 + S0.length - 1 = _; omega]
    have e2 : M.2.1 184 (S.length + S0.length) = nI v := by have w : M.2.1 184 (S ++ S0).length = nI v := hst.1; rw [List.length_append] at w; exact w
    have hnl : ¬ nI (S.length + S0.length) < nI S0.length := by rw [clt (by omega) (by omega)]; omega
    rw [e1]
    have head : f_X12_qBracket_K7 94 (nI (S.length + S0.length)) M = if bI (isB v = true) = 0 then some (.inl (nI (S.length + S0.length) + (-1))) else some (.inr (nI (S.length + S0.length))) := by
      unfold f_X12_qBracket_K7
      rw [gi94 hB.1, Option.bind_some, h120, if_neg hnl, gr94_117 hB.1, Option.bind_some, ld184 hB.1 (by omega), Option.bind_some, e2, r_isB (by omega), Option.bind_some]
    by_cases hb : isB v = true
    · have e3 : brk (v :: S) = v := by
        show (if isB v = true then v else _) = v
        rw [if_pos hb]
      refine ⟨nI (S.length + S0.length), itr_e ?_, ?_⟩
      · rw [head, bI_t hb, if_neg (by decide)]
      · unfold f_X12_qBracket_B33
        rw [gi94 hB.1, Option.bind_some, h120, if_neg hnl, gr94_117 hB.1, Option.bind_some, ld184 hB.1 (by omega), Option.bind_some, e2, e3, if_neg (by omega)]
    · have e3 : brk (v :: S) = brk S := by
        show (if isB v = true then v else brk S) = _
        rw [if_neg hb]
      obtain ⟨r, j1, j2⟩ := ih hst.2 (fun s hs => hv s (List.mem_cons_of_mem _ hs)) (by omega) m (by omega)
      refine ⟨r, ?_, by rw [e3]; exact j2⟩
      rw [itr_c (a' := nI (S.length + S0.length) - 1)]
      · exact j1
      · rw [head, bI_f hb, if_pos rfl]
        have : nI (S.length + S0.length) + (-1 : Int32) = nI (S.length + S0.length) - 1 := by
          rw [Int32.sub_eq_add_neg]
        rw [this]
theorem r_bracket (hB : RB b n M) (hQ : RQ M S0 S R o) (hv : ∀ s ∈ S, 1 ≤ s ∧ s < 1000) (hl : S0.length + S.length ≤ 1600) : f_X12_qBracket 94 M = some (if brk S = 0 then -1 else nI (brk S)) := by
  obtain ⟨r, j1, j2⟩ := q_brk hB hQ.2.2.2.2.2 hQ.2.1 hv hl sFuel (by rw [sFuel_v]; omega)
  unfold f_X12_qBracket f_X12_qBracket_L7
  rw [sr94 hB.1, gi94 hB.1, Option.bind_some, hQ.1, j1, Option.bind_some, j2]
theorem q_isOn (hB : RB b n M) (hQ : RQ M S0 S R o) (hv : ∀ s ∈ S ++ S0, s < 1000) (hl : S0.length + S.length ≤ 1600) (hw : v < 1000) {z : Int32} (hz : z = nI v) : f_X12_qIsOn 94 z M = some (bI ((S ++ S0).head? = some v)) := by
  unfold f_X12_qIsOn
  rw [sr94 hB.1, gi94 hB.1, Option.bind_some, hQ.1]
  have hst := hQ.2.1
  rw [← List.length_append]
  have hl2 : (S ++ S0).length ≤ 1600 := by rw [List.length_append]; omega
  generalize S ++ S0 = A at hst hv hl2 ⊢
  match A, hst, hv, hl2 with
  | [], _, _, _ => rw [if_pos (by decide), bI_f (by simp)]
  | a :: A, hst, hv, hl2 =>
    rw [List.length_cons] at hl2
    have ha := hv a List.mem_cons_self
    have e1 : nI (a :: A).length - (1 : Int32) = nI A.length := by
      rw [show (1 : Int32) = nI 1 from rfl, nsub (by show 1 ≤ A.length + 1; omega)]; rfl
    have h118 : M.2.1 94 118 = nI (a :: A).length ∨ True := Or.inr trivial
    rw [if_neg (by rw [show (0 : Int32) = nI 0 from rfl, cle (by rw [List.length_cons]; omega) (by omega), List.length_cons]; omega), gr94_117 hB.1, Option.bind_some, Option.bind_some, e1, ld184 hB.1 (by omega), Option.bind_some, hst.1, hz]
    by_cases q : a = v
    · rw [if_pos (by rw [q]), bI_t (by rw [q]; rfl)]
    · rw [if_neg (by rw [nI_eq (by omega) (by omega)]; exact q), bI_f (show ¬ (a :: A).head? = some v from fun w => q (Option.some.inj w))]
/-- what is dropped: while the topmost is such -/
theorem q_dropW {p : Nat → Bool} {K : sMem → Option (sMem ⊕ sMem)} (hK1 : ∀ {S R : List Nat} {o v : Nat} {M : sMem}, RB b n M → M.2.1 94 5 = 0 → RQ M S0 (v :: S) R o → (∀ s ∈ v :: S ++ S0, s < 1000) → S0.length + S.length + 1 ≤ 1600 → p v = true → K M = (f_X12_qDrops 94 M).bind fun M6 => some (.inl M6)) (hK2 : ∀ {S R : List Nat} {o : Nat} {M : sMem}, RB b n M → M.2.1 94 5 = 0 → RQ M S0 S R o → (∀ s ∈ S ++ S0, s < 1000) → S0.length + S.length ≤ 1600 → (∀ s S', S = s :: S' → p s = false) → K M = some (.inr M)) :
    ∀ {S R : List Nat} {M : sMem}, RB b n M → M.2.1 94 5 = 0 → RQ M S0 S R o → (∀ s ∈ S ++ S0, s < 1000) → S0.length + S.length + R.length ≤ 1600 → ∀ fu, S.length < fu → ∃ N, sItr K fu M = some N ∧ Fr qX q0 M N ∧ RQ N S0 (dropW p S R).1 (dropW p S R).2 o := by
  intro S
  induction S with
  | nil =>
    intro R M hB h5 hQ hv hl fu hfu
    obtain ⟨m, rfl⟩ : ∃ m, fu = m + 1 := ⟨fu - 1, by omega⟩
    exact ⟨M, itr_e (hK2 hB h5 hQ hv (by omega) (fun _ _ q => by cases q)), Fr.rf, hQ⟩
  | cons v S ih =>
    intro R M hB h5 hQ hv hl fu hfu
    obtain ⟨m, rfl⟩ : ∃ m, fu = m + 1 := ⟨fu - 1, by omega⟩
    rw [List.length_cons] at hl hfu
    by_cases hp : p v = true
    · have e1 : dropW p (v :: S) R = dropW p S (R ++ [v]) := by
        show (if p v = true then _ else _) = _
        rw [if_pos hp]
      obtain ⟨N1, k1, k2, k3⟩ := q_drops hB hQ (by omega) (by omega)
      obtain ⟨N, j1, j2, j3⟩ := ih (hB.q k2) (by rw [k2.i rfl]; exact h5) k3 (fun s hs => hv s (List.mem_cons_of_mem _ hs)) (by rw [List.length_append, List.length_singleton]; omega) m (by omega)
      refine ⟨N, ?_, k2.tr j2, by rw [e1]; exact j3⟩
      rw [itr_c (a' := N1)]
      · exact j1
      · rw [hK1 hB h5 hQ hv (by omega) hp, k1]; rfl
    · have e1 : dropW p (v :: S) R = (v :: S, R) := by
        show (if p v = true then _ else _) = _
        rw [if_neg hp]
      refine ⟨M, itr_e (hK2 hB h5 hQ hv (by rw [List.length_cons]; omega) (fun s S' q => ?_)), Fr.rf, by rw [e1]; exact hQ⟩
      obtain ⟨rfl, _⟩ := List.cons.inj q
      cases z : p v with
      | false => rfl
      | true => exact absurd z hp
end RP2
