/-! THE REFERENCE goes on behind a part -/
def tlt : List Nat → Prop
  | [] => True
  | s :: _ => s < 60
def wfS : List Nat → Prop
  | [] => True
  | s :: S => (1 ≤ s ∧ (s ≤ 4 ∨ (20 ≤ s ∧ s ≤ 24) ∨ (60 ≤ s ∧ s < 62))) ∧ (s ≤ 4 → tlt S) ∧ wfS S
def WF (σ : Sg) : Prop := wfS σ.2.2.1 ∧ (σ.1 = 1 → tlt σ.2.2.1)
theorem wf_ends : ∀ (S R : List Nat) (o : Nat), wfS S → wfS (endsP S R o).1 ∧ tlt (endsP S R o).1
  | [], R, o, _ => ⟨trivial, trivial⟩
  | v :: S, R, o, h => by
    by_cases h60 : 60 ≤ v
    · have e1 : endsP (v :: S) R o = endsP S (R ++ [v]) (o - 1) := by
        show (if 60 ≤ v then _ else _) = _
        rw [if_pos h60]
      rw [e1]; exact wf_ends S _ _ h.2.2
    · have e1 : endsP (v :: S) R o = (v :: S, R, o) := by
        show (if 60 ≤ v then _ else _) = _
        rw [if_neg h60]
      rw [e1]; exact ⟨h, by show v < 60; omega⟩
theorem wf_drop {p : Nat → Bool} (hp : ∀ v, p v = true → 1 ≤ v → v < 60 → (v ≤ 4 ∨ (20 ≤ v ∧ v ≤ 24) ∨ (60 ≤ v ∧ v < 62)) → v ≤ 4) : ∀ (S R : List Nat), wfS S → tlt S → wfS (dropW p S R).1 ∧ tlt (dropW p S R).1 ∧ opn (dropW p S R).1 = opn S ∧ (dropW p S R).1.length + (dropW p S R).2.length = S.length + R.length ∧ ∀ s ∈ (dropW p S R).1, s ∈ S
  | [], R, h, ht => ⟨trivial, trivial, rfl, rfl, fun s hs => hs⟩
  | v :: S, R, h, ht => by
    by_cases hv : p v = true
    · have e1 : dropW p (v :: S) R = dropW p S (R ++ [v]) := by
        show (if p v = true then _ else _) = _
        rw [if_pos hv]
      have h4 := hp v hv h.1.1 ht h.1.2
      obtain ⟨a1, a2, a3, a4, a5⟩ := wf_drop hp S (R ++ [v]) h.2.2 (h.2.1 h4)
      rw [e1]
      refine ⟨a1, a2, ?_, by rw [a4, List.length_append, List.length_singleton, List.length_cons]; omega, fun s hs => List.mem_cons_of_mem _ (a5 s hs)⟩
      show _ = (if 20 ≤ v then 1 else 0) + opn S
      rw [if_neg (by omega), a3]; omega
    · have e1 : dropW p (v :: S) R = (v :: S, R) := by
        show (if p v = true then _ else _) = _
        rw [if_neg hv]
      rw [e1]
      exact ⟨h, ht, rfl, rfl, fun s hs => hs⟩
theorem brk_drop : ∀ (S R : List Nat), brk S ≠ 0 → ∃ S', (dropW nB S R).1 = brk S :: S'
  | [], R, h => absurd rfl h
  | v :: S, R, h => by
    by_cases hb : isB v = true
    · have e1 : brk (v :: S) = v := by
        show (if isB v = true then v else _) = v
        rw [if_pos hb]
      have e2 : dropW nB (v :: S) R = (v :: S, R) := by
        show (if nB v = true then _ else _) = _
        rw [if_neg (by unfold nB; rw [hb]; decide)]
      rw [e1, e2]; exact ⟨S, rfl⟩
    · have e1 : brk (v :: S) = brk S := by
        show (if isB v = true then v else _) = _
        rw [if_neg hb]
      have hn : nB v = true := by
        unfold nB
        cases z : isB v with
        | false => rfl
        | true => exact absurd z hb
      have e2 : dropW nB (v :: S) R = dropW nB S (R ++ [v]) := by
        show (if nB v = true then _ else _) = _
        rw [if_pos hn]
      rw [e1] at h ⊢
      rw [e2]; exact brk_drop S _ h
theorem nB4 : ∀ v, nB v = true → 1 ≤ v → v < 60 → (v ≤ 4 ∨ (20 ≤ v ∧ v ≤ 24) ∨ (60 ≤ v ∧ v < 62)) → v ≤ 4 := by
  intro v h h1 h2 h3
  unfold nB isB at h
  have : ¬ (20 ≤ v ∧ v ≤ 24) := by
    intro q
    rw [decide_eq_true q] at h; cases h
  omega
theorem mul4 : ∀ v, isMul v = true → 1 ≤ v → v < 60 → (v ≤ 4 ∨ (20 ≤ v ∧ v ≤ 24) ∨ (60 ≤ v ∧ v < 62)) → v ≤ 4 := fun v h _ _ _ => by have := of_decide_eq_true h; omega
theorem op4 : ∀ v, isOp v = true → 1 ≤ v → v < 60 → (v ≤ 4 ∨ (20 ≤ v ∧ v ≤ 24) ∨ (60 ≤ v ∧ v < 62)) → v ≤ 4 := fun v h _ _ _ => by have := of_decide_eq_true h; omega
theorem wf_stp {wh : Nat} {T : Tk} {σ σ' : Sg} (h : stp wh T σ = .inl σ') (hmd : σ.1 = 0 ∨ σ.1 = 1) (hW : WF σ) : WF σ' := by
  obtain ⟨md, t, S, R, o⟩ := σ
  obtain ⟨h1, h2⟩ := hW
  dsimp only at h1 h2
  unfold stp at h
  dsimp only at h
  by_cases m0 : md = 0
  · rw [if_pos m0] at h
    by_cases c1 : isS T t 40 = true
    · rw [if_pos c1] at h
      by_cases c2 : o = 6
      · rw [if_pos c2] at h; cases h
      · rw [if_neg c2] at h
        obtain rfl := Sum.inl.inj h
        exact ⟨⟨by omega, fun z => absurd z (by decide), h1⟩, fun z => by cases z⟩
    · rw [if_neg c1] at h
      by_cases c2 : mmC T t ≠ 0
      · rw [if_pos c2] at h
        by_cases c3 : isS T (t + 1) 40 = true
        · rw [if_pos c3] at h
          by_cases c4 : o = 6
          · rw [if_pos c4] at h; cases h
          · rw [if_neg c4] at h
            obtain rfl := Sum.inl.inj h
            have : mmC T t = 5 ∨ mmC T t = 6 := by rcases mmC_v c2 with ⟨_, q⟩ | ⟨_, q⟩ <;> omega
            exact ⟨⟨by omega, fun z => by omega, h1⟩, fun z => by cases z⟩
        · rw [if_neg c3] at h; cases h
      · rw [if_neg c2] at h
        by_cases c3 : kof wh T t = 13 ∨ kof wh T t = 14
        · rw [if_pos c3] at h
          by_cases c4 : o = 6
          · rw [if_pos c4] at h; cases h
          · rw [if_neg c4] at h
            obtain rfl := Sum.inl.inj h
            exact ⟨⟨by omega, fun z => by omega, h1⟩, fun z => by cases z⟩
        · rw [if_neg c3] at h
          match leaf wh T t, h with
          | .inr q, h =>
            obtain rfl := Sum.inl.inj h
            exact ⟨(wf_ends S _ o h1).1, fun _ => (wf_ends S _ o h1).2⟩
  · rw [if_neg m0] at h
    have ht := h2 (by rcases hmd with z | z; exact absurd z m0; exact z)
    obtain ⟨d1, d2, d3, d4, d5⟩ := wf_drop nB4 S R h1 ht
    have tailwf : brk S ≠ 0 → wfS (dropW nB S R).1.tail := fun hb => by
      obtain ⟨S', hS'⟩ := brk_drop S R hb
      rw [hS'] at d1 ⊢
      exact d1.2.2
    by_cases c1 : isS T t 41 = true ∧ (brk S = 20 ∨ brk S = 23 ∨ brk S = 24)
    · rw [if_pos c1] at h
      obtain rfl := Sum.inl.inj h
      have := wf_ends (dropW nB S R).1.tail ((dropW nB S R).2 ++ clC (brk S)) (o - 1) (tailwf (by omega))
      exact ⟨this.1, fun _ => this.2⟩
    · rw [if_neg c1] at h
      by_cases c2 : sepM T t ≠ 0
      · rw [if_pos c2] at h
        obtain rfl := Sum.inl.inj h
        obtain ⟨e1, e2, e3, e4, e5⟩ := wf_drop mul4 S R h1 ht
        have : sepM T t = 3 ∨ sepM T t = 4 := by rcases sepM_v c2 with ⟨_, q⟩ | ⟨_, q⟩ <;> omega
        exact ⟨⟨by omega, fun _ => e2, e1⟩, fun z => by cases z⟩
      · rw [if_neg c2] at h
        by_cases c3 : sepA T t ≠ 0
        · rw [if_pos c3] at h
          obtain rfl := Sum.inl.inj h
          obtain ⟨e1, e2, e3, e4, e5⟩ := wf_drop op4 S R h1 ht
          have : sepA T t = 1 ∨ sepA T t = 2 := by rcases sepA_v c3 with ⟨_, q⟩ | ⟨_, q⟩ <;> omega
          exact ⟨⟨by omega, fun _ => e2, e1⟩, fun z => by cases z⟩
        · rw [if_neg c3] at h
          by_cases c4 : brk S = 21 ∨ brk S = 22
          · rw [if_pos c4] at h
            by_cases c5 : isS T t 44 = true
            · rw [if_pos c5] at h
              obtain rfl := Sum.inl.inj h
              exact ⟨⟨by omega, fun z => by omega, tailwf (by omega)⟩, fun z => by cases z⟩
            · rw [if_neg c5] at h; cases h
          · rw [if_neg c4] at h
            by_cases c5 : brk S ≠ 0
            · rw [if_pos c5] at h; cases h
            · rw [if_neg c5] at h; cases h
section RGO
variable {b : Nat → Int32} {n e t c wh : Nat} {T : Tk} {sa sz : Nat → Nat} {M N : sMem} {s : Cs} {S0 S R : List Nat} {o o0 v : Nat}
theorem head_ne {x : Nat} (h1 : ∀ s S', S = s :: S' → s ≠ x) (h2 : ∀ s ∈ S0, s ≠ x) : ¬ (S ++ S0).head? = some x := by
  match S, h1 with
  | [], _ =>
    match S0, h2 with
    | [], _ => intro z; cases z
    | a :: A, h2 => intro z; exact h2 a List.mem_cons_self (Option.some.inj z)
  | a :: A, h1 => intro z; exact h1 a A rfl (Option.some.inj z)
/-- the drops of a sum -/
theorem dr_brk (hB : RB b n M) (h5 : M.2.1 94 5 = 0) (hQ : RQ M S0 S R o) (hv : ∀ s ∈ S ++ S0, s < 1000) (hl : S0.length + S.length + R.length ≤ 1600) : ∃ N, f_X12_qDropsToBracket 94 M = some N ∧ Fr qX q0 M N ∧ RQ N S0 (dropW nB S R).1 (dropW nB S R).2 o := by
  obtain ⟨N, a1, a2, a3⟩ := q_dropW (b := b) (n := n) (o := o) (p := nB) (K := fun a => f_X12_qDropsToBracket_K0 94 a) (S0 := S0) (fun {S R o v M} hB h5 hQ hv hl hp => by
      show f_X12_qDropsToBracket_K0 94 M = _
      have hvv := hv v List.mem_cons_self
      have hnb : ¬ isB v = true := by
        unfold nB at hp
        intro z; rw [z] at hp; cases hp
      unfold f_X12_qDropsToBracket_K0
      rw [gi94 hB.1, Option.bind_some, gi94 hB.1, Option.bind_some, hQ.1, hQ.2.2.2.2.2, if_neg (by rw [List.length_cons, cle (by omega) (by omega)]; omega), gr94_117 hB.1, Option.bind_some, Option.bind_some, q_top hB hQ (by omega), Option.bind_some, r_isB hvv, Option.bind_some, bI_f hnb, if_pos rfl])
    (fun {S R o M} hB h5 hQ hv hl hno => by
      show f_X12_qDropsToBracket_K0 94 M = _
      unfold f_X12_qDropsToBracket_K0
      rw [gi94 hB.1, Option.bind_some, gi94 hB.1, Option.bind_some, hQ.1, hQ.2.2.2.2.2]
      match S, hQ, hv, hl, hno with
      | [], hQ, hv, hl, hno => rw [if_pos (by rw [cle (by simp at hl ⊢; omega) (by omega)]; simp)]
      | v :: S, hQ, hv, hl, hno =>
        rw [List.length_cons] at hl
        have hvv := hv v List.mem_cons_self
        have hb : isB v = true := by
          have := hno v S rfl
          unfold nB at this
          cases z : isB v with
          | true => rfl
          | false => rw [z] at this; cases this
        rw [if_neg (by rw [List.length_cons, cle (by omega) (by omega)]; omega), gr94_117 hB.1, Option.bind_some, Option.bind_some, q_top hB hQ (by omega), Option.bind_some, r_isB hvv, Option.bind_some, bI_t hb, if_neg (by decide)]) hB h5 hQ hv hl sFuel (by rw [sFuel_v]; omega)
  unfold f_X12_qDropsToBracket f_X12_qDropsToBracket_L0
  rw [sr94 hB.1, a1]
  exact ⟨N, rfl, a2, a3⟩
theorem dr_mul (v1 : Int32) (hS0 : ∀ s ∈ S0, 5 ≤ s) (hB : RB b n M) (h5 : M.2.1 94 5 = 0) (hQ : RQ M S0 S R o) (hv : ∀ s ∈ S ++ S0, s < 1000) (hl : S0.length + S.length + R.length ≤ 1600) : ∃ N, sItr (fun a : sMem => f_X12_qGoesOn_K162 94 v1 a) sFuel M = some N ∧ Fr qX q0 M N ∧ RQ N S0 (dropW isMul S R).1 (dropW isMul S R).2 o :=
  q_dropW (b := b) (n := n) (o := o) (p := isMul) (K := fun a => f_X12_qGoesOn_K162 94 v1 a) (S0 := S0) (fun {S R o v M} hB h5 hQ hv hl hp => by
      show f_X12_qGoesOn_K162 94 v1 M = _
      have h34 := of_decide_eq_true hp
      unfold f_X12_qGoesOn_K162 f_X12_qGoesOn_B178
      rw [q_isOn (v := 3) (z := 3) hB hQ hv (by rw [List.length_cons]; omega) (by decide) rfl, q_isOn (v := 4) (z := 4) hB hQ hv (by rw [List.length_cons]; omega) (by decide) rfl, Option.bind_some]
      by_cases z : v = 3
      · rw [bI_t (show (v :: S ++ S0).head? = some 3 by rw [z]; rfl), if_neg (by decide)]
      · have z4 : v = 4 := by omega
        rw [bI_f (show ¬ (v :: S ++ S0).head? = some 3 from fun w => z (Option.some.inj w)), if_pos rfl, Option.bind_some, bI_t (show (v :: S ++ S0).head? = some 4 by rw [z4]; rfl), if_neg (by decide)])
    (fun {S R o M} hB h5 hQ hv hl hno => by
      show f_X12_qGoesOn_K162 94 v1 M = _
      have n3 : ∀ x, isMul x = true → x < 5 → ¬ (S ++ S0).head? = some x := fun x hx hx5 => head_ne (fun s S' q z => by have := hno s S' q; rw [z, hx] at this; cases this) (fun s hs z => by have := hS0 s hs; omega)
      unfold f_X12_qGoesOn_K162
      rw [q_isOn (v := 3) (z := 3) hB hQ hv hl (by decide) rfl, q_isOn (v := 4) (z := 4) hB hQ hv hl (by decide) rfl, Option.bind_some, bI_f (n3 3 rfl (by decide)), if_pos rfl, Option.bind_some, bI_f (n3 4 rfl (by decide)), if_pos rfl]) hB h5 hQ hv hl sFuel (by rw [sFuel_v]; omega)
theorem dr_op (v1 : Int32) (hS0 : ∀ s ∈ S0, 5 ≤ s) (hB : RB b n M) (h5 : M.2.1 94 5 = 0) (hQ : RQ M S0 S R o) (hv : ∀ s ∈ S ++ S0, s < 1000) (hl : S0.length + S.length + R.length ≤ 1600) : ∃ N, sItr (fun a : sMem => f_X12_qGoesOn_K247 94 v1 a) sFuel M = some N ∧ Fr qX q0 M N ∧ RQ N S0 (dropW isOp S R).1 (dropW isOp S R).2 o :=
  q_dropW (b := b) (n := n) (o := o) (p := isOp) (K := fun a => f_X12_qGoesOn_K247 94 v1 a) (S0 := S0) (fun {S R o v M} hB h5 hQ hv hl hp => by
      show f_X12_qGoesOn_K247 94 v1 M = _
      have h34 := of_decide_eq_true hp
      have ne : ∀ x, v ≠ x → ¬ (v :: S ++ S0).head? = some x := fun x hx w => hx (Option.some.inj w)
      have ey : ∀ x, v = x → (v :: S ++ S0).head? = some x := fun x hx => by rw [hx]; rfl
      unfold f_X12_qGoesOn_K247 f_X12_qGoesOn_B279
      rw [q_isOn (v := 3) (z := 3) hB hQ hv (by rw [List.length_cons]; omega) (by decide) rfl, q_isOn (v := 4) (z := 4) hB hQ hv (by rw [List.length_cons]; omega) (by decide) rfl, q_isOn (v := 1) (z := 1) hB hQ hv (by rw [List.length_cons]; omega) (by decide) rfl, q_isOn (v := 2) (z := 2) hB hQ hv (by rw [List.length_cons]; omega) (by decide) rfl, Option.bind_some]
      by_cases z : v = 3
      · rw [bI_t (ey 3 z), if_neg (by decide)]
      · rw [bI_f (ne 3 z), if_pos rfl, Option.bind_some]
        by_cases z4 : v = 4
        · rw [bI_t (ey 4 z4), if_neg (by decide)]
        · rw [bI_f (ne 4 z4), if_pos rfl, Option.bind_some]
          by_cases z1 : v = 1
          · rw [bI_t (ey 1 z1), if_neg (by decide)]
          · rw [bI_f (ne 1 z1), if_pos rfl, Option.bind_some, bI_t (ey 2 (by omega)), if_neg (by decide)])
    (fun {S R o M} hB h5 hQ hv hl hno => by
      show f_X12_qGoesOn_K247 94 v1 M = _
      have n3 : ∀ x, isOp x = true → x < 5 → ¬ (S ++ S0).head? = some x := fun x hx hx5 => head_ne (fun s S' q z => by have := hno s S' q; rw [z, hx] at this; cases this) (fun s hs z => by have := hS0 s hs; omega)
      unfold f_X12_qGoesOn_K247
      rw [q_isOn (v := 3) (z := 3) hB hQ hv hl (by decide) rfl, q_isOn (v := 4) (z := 4) hB hQ hv hl (by decide) rfl, q_isOn (v := 1) (z := 1) hB hQ hv hl (by decide) rfl, q_isOn (v := 2) (z := 2) hB hQ hv hl (by decide) rfl, Option.bind_some, bI_f (n3 3 rfl (by decide)), if_pos rfl, Option.bind_some, bI_f (n3 4 rfl (by decide)), if_pos rfl, Option.bind_some, bI_f (n3 1 rfl (by decide)), if_pos rfl, Option.bind_some, bI_f (n3 2 rfl (by decide)), if_pos rfl]) hB h5 hQ hv hl sFuel (by rw [sFuel_v]; omega)
/-- all of a sum -/
theorem dr_all (v1 : Int32) (hB : RB b n M) (h5 : M.2.1 94 5 = 0) (hQ : RQ M S0 S R o) (hv : ∀ s ∈ S ++ S0, s < 1000) (hl : S0.length + S.length + R.length ≤ 1600) : ∃ N, sItr (fun a : sMem => f_X12_qSums_K53 94 v1 a) sFuel M = some N ∧ Fr qX q0 M N ∧ RQ N S0 [] (R ++ S) o := by
  obtain ⟨N, a1, a2, a3⟩ := q_dropW (b := b) (n := n) (o := o) (p := fun _ => true) (K := fun a => f_X12_qSums_K53 94 v1 a) (S0 := S0) (fun {S R o v M} hB h5 hQ hv hl hp => by
      show f_X12_qSums_K53 94 v1 M = _
      unfold f_X12_qSums_K53
      rw [gi94 hB.1, Option.bind_some, h5, if_pos rfl, gi94 hB.1, Option.bind_some, gi94 hB.1, Option.bind_some, hQ.1, hQ.2.2.2.2.2, if_neg (by rw [List.length_cons, cle (by omega) (by omega)]; omega)])
    (fun {S R o M} hB h5 hQ hv hl hno => by
      show f_X12_qSums_K53 94 v1 M = _
      match S, hQ, hl, hno with
      | [], hQ, hl, hno =>
        unfold f_X12_qSums_K53
        rw [gi94 hB.1, Option.bind_some, h5, if_pos rfl, gi94 hB.1, Option.bind_some, gi94 hB.1, Option.bind_some, hQ.1, hQ.2.2.2.2.2, if_pos (by rw [cle (by simp at hl ⊢; omega) (by omega)]; simp)]
      | v :: S, hQ, hl, hno => have := hno v S rfl; cases this) hB h5 hQ hv hl sFuel (by rw [sFuel_v]; omega)
  have e1 : dropW (fun _ => true) S R = ([], R ++ S) := by
    have := dropW_all (p := fun _ => true) S [] R (fun _ _ => rfl)
    rw [List.append_nil] at this; rw [this]; rfl
  rw [e1] at a3
  exact ⟨N, a1, a2, a3⟩
end RGO
