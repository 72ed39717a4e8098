/-! THE TEXT: tokens (T 3 kinds, T 4 starts, T 5 stops, T 6 values), what a sum and a test are, and the pile of the reference -/
abbrev Tk : Type := Nat → Nat → Int32
abbrev Rs : Type := (Int32 × Int32) ⊕ (List Nat × Nat)
def isS (T : Tk) (t c : Nat) : Bool := decide (T 3 t = 3 ∧ T 6 t = nI c)
def isW (T : Tk) (t w : Nat) : Bool := decide (T 3 t = 1 ∧ T 6 t = nI w)
def wdx (k : Nat) : Nat := [18, 19, 10, 11, 20, 15, 21, 22, 23, 24, 2, 5, 12, 25, 26].getD k 0
/-- which part a word is: 15 none -/
def kof (wh : Nat) (T : Tk) (t : Nat) : Nat := if T 3 t = 1 then ((List.range 15).find? (fun k => okPart wh k && decide (T 6 t = nI (wdx k)))).getD 15 else 15
def rbd (r : Rs) (f : List Nat → Nat → Rs) : Rs := match r with | .inl e => .inl e | .inr q => f q.1 q.2
theorem rbd_l {e : Int32 × Int32} {f : List Nat → Nat → Rs} : rbd (.inl e) f = .inl e := rfl
theorem rbd_r {c : List Nat} {t : Nat} {f : List Nat → Nat → Rs} : rbd (.inr (c, t)) f = f c t := rfl
/-- more of them, as long as a sign (its code; 0 none) stands between -/
def lp (f : Nat → Rs) (sep : Nat → Nat) : Nat → List Nat → Nat → Rs
  | 0, cs, t => .inr (cs, t)
  | n + 1, cs, t => if sep t = 0 then .inr (cs, t) else rbd (f (t + 1)) fun c2 t2 => lp f sep n (cs ++ c2 ++ [sep t]) t2
def sepM (T : Tk) (t : Nat) : Nat := if isS T t 42 = true then 3 else if isS T t 47 = true then 4 else 0
def sepA (T : Tk) (t : Nat) : Nat := if isS T t 43 = true then 1 else if isS T t 45 = true then 2 else 0
def sepN (T : Tk) (t : Nat) : Nat := if isW T t 28 = true then 10 else 0
def sepO (T : Tk) (t : Nat) : Nat := if isW T t 27 = true then 11 else 0
def sepC (T : Tk) (t : Nat) : Nat := if isS T t 60 = true then 7 else if isS T t 62 = true then 8 else if isS T t 61 = true then 9 else 0
def prodOf (T : Tk) (f : Nat → Rs) (t : Nat) : Rs := rbd (f t) fun cs t1 => lp f (sepM T) 2000 cs t1
def sumOf (T : Tk) (f : Nat → Rs) (t : Nat) : Rs := rbd (prodOf T f t) fun cs t1 => lp (prodOf T f) (sepA T) 2000 cs t1
def bothOf (T : Tk) (f : Nat → Rs) (t : Nat) : Rs := rbd (f t) fun cs t1 => lp f (sepN T) 2000 cs t1
def testOf (T : Tk) (f : Nat → Rs) (t : Nat) : Rs := rbd (bothOf T f t) fun cs t1 => lp (bothOf T f) (sepO T) 2000 cs t1
def askS (T : Tk) (c t : Nat) (k : Rs) : Rs := if isS T t c = true then k else .inl (1, T 4 t)
/-- a part without one in it -/
def leaf (wh : Nat) (T : Tk) (t : Nat) : Rs :=
  if T 3 t = 2 then (if T 5 t - T 4 t ≤ 4 then .inr ([1000 + (T 6 t).toInt.toNat], t + 1) else .inl (1, T 4 t + 4))
  else if kof wh T t < 13 then .inr ([40 + kof wh T t], t + 1) else .inl (1, T 4 t)
def mmC (T : Tk) (t : Nat) : Nat := if isW T t 31 = true then 5 else if isW T t 32 = true then 6 else 0
/-- a part, d more may be opened -/
def pPart (wh : Nat) (T : Tk) : Nat → Nat → Rs
  | 0, t => if isS T t 40 = true then .inl (4, T 4 t)
    else if mmC T t ≠ 0 then askS T 40 (t + 1) (.inl (4, T 4 (t + 1)))
    else if kof wh T t = 13 ∨ kof wh T t = 14 then .inl (4, T 4 t)
    else leaf wh T t
  | d + 1, t => if isS T t 40 = true then rbd (sumOf T (pPart wh T d) (t + 1)) fun cs t1 => askS T 41 t1 (.inr (cs, t1 + 1))
    else if mmC T t ≠ 0 then askS T 40 (t + 1) (rbd (sumOf T (pPart wh T d) (t + 2)) fun cs t1 => askS T 44 t1 (rbd (sumOf T (pPart wh T d) (t1 + 1)) fun c2 t2 => askS T 41 t2 (.inr (cs ++ c2 ++ [mmC T t], t2 + 1))))
    else if kof wh T t = 13 ∨ kof wh T t = 14 then rbd (pPart wh T d (t + 1)) fun cs t1 => .inr (cs ++ [47 + kof wh T t], t1)
    else leaf wh T t
def pSum (wh : Nat) (T : Tk) (d : Nat) : Nat → Rs := sumOf T (pPart wh T d)
def cmpOf (T : Tk) (g : Nat → Rs) (t : Nat) : Rs := rbd (g t) fun cs t1 => if sepC T t1 = 0 then .inl (1, T 4 t1) else rbd (g (t1 + 1)) fun c2 t2 => .inr (cs ++ c2 ++ [sepC T t1], t2)
def pFact (wh : Nat) (T : Tk) : Nat → Nat → Rs
  | 0, t => if isW T t 29 = true then .inl (4, T 4 t) else if isS T t 91 = true then .inl (4, T 4 t)
    else if isW T t 30 = true then .inr ([13], t + 1) else cmpOf T (pSum wh T 0) t
  | d + 1, t => if isW T t 29 = true then rbd (pFact wh T d (t + 1)) fun cs t1 => .inr (cs ++ [12], t1)
    else if isS T t 91 = true then rbd (testOf T (pFact wh T d) (t + 1)) fun cs t1 => askS T 93 t1 (.inr (cs, t1 + 1))
    else if isW T t 30 = true then .inr ([13], t + 1) else cmpOf T (pSum wh T (d + 1)) t
def pTest (wh : Nat) (T : Tk) (d : Nat) : Nat → Rs := testOf T (pFact wh T d)
/-- the tokens end at e -/
def Ends (T : Tk) (e : Nat) : Prop := T 3 e = 0 ∧ e ≤ 1600
theorem Ends.s {T : Tk} {e t c : Nat} (h : Ends T e) (hs : isS T t c = true) : t ≠ e := by
  intro z; subst z
  have := (of_decide_eq_true hs).1
  rw [h.1] at this; exact absurd this (by decide)
theorem Ends.w {T : Tk} {e t c : Nat} (h : Ends T e) (hs : isW T t c = true) : t ≠ e := by
  intro z; subst z
  have := (of_decide_eq_true hs).1
  rw [h.1] at this; exact absurd this (by decide)
/-- each goes on, not beyond the end -/
def Adv (e : Nat) (f : Nat → Rs) : Prop := ∀ t cs t', t ≤ e → f t = .inr (cs, t') → t < t' ∧ t' ≤ e ∧ cs.length + t ≤ t'
section AD
variable {T : Tk} {e : Nat} {f : Nat → Rs} {sep : Nat → Nat}
theorem rbd_i {r : Rs} {g : List Nat → Nat → Rs} {q : List Nat × Nat} (h : rbd r g = .inr q) : ∃ c t, r = .inr (c, t) ∧ g c t = .inr q := by
  match r, h with
  | .inl e, h => cases h
  | .inr (c, t), h => exact ⟨c, t, rfl, h⟩
theorem rbd_e {r : Rs} {g : List Nat → Nat → Rs} {q : Int32 × Int32} (h : rbd r g = .inl q) : r = .inl q ∨ ∃ c t, r = .inr (c, t) ∧ g c t = .inl q := by
  match r, h with
  | .inl e, h => exact Or.inl h
  | .inr (c, t), h => exact Or.inr ⟨c, t, rfl, h⟩
theorem askS_i {c t : Nat} {k : Rs} {q : List Nat × Nat} (h : askS T c t k = .inr q) : isS T t c = true ∧ k = .inr q := by
  unfold askS at h
  by_cases z : isS T t c = true
  · rw [if_pos z] at h; exact ⟨z, h⟩
  · rw [if_neg z] at h; cases h
theorem sep_s : ∀ t, (sepM T t ≠ 0 → Ends T e → t ≠ e) ∧ (sepA T t ≠ 0 → Ends T e → t ≠ e) ∧ (sepN T t ≠ 0 → Ends T e → t ≠ e) ∧ (sepO T t ≠ 0 → Ends T e → t ≠ e) ∧ (sepC T t ≠ 0 → Ends T e → t ≠ e) := by
  intro t
  unfold sepM sepA sepN sepO sepC
  refine ⟨fun h hE => ?_, fun h hE => ?_, fun h hE => ?_, fun h hE => ?_, fun h hE => ?_⟩
  · by_cases a : isS T t 42 = true
    · exact hE.s a
    · rw [if_neg a] at h
      by_cases b : isS T t 47 = true
      · exact hE.s b
      · rw [if_neg b] at h; exact absurd rfl h
  · by_cases a : isS T t 43 = true
    · exact hE.s a
    · rw [if_neg a] at h
      by_cases b : isS T t 45 = true
      · exact hE.s b
      · rw [if_neg b] at h; exact absurd rfl h
  · by_cases a : isW T t 28 = true
    · exact hE.w a
    · rw [if_neg a] at h; exact absurd rfl h
  · by_cases a : isW T t 27 = true
    · exact hE.w a
    · rw [if_neg a] at h; exact absurd rfl h
  · by_cases a : isS T t 60 = true
    · exact hE.s a
    · rw [if_neg a] at h
      by_cases b : isS T t 62 = true
      · exact hE.s b
      · rw [if_neg b] at h
        by_cases c : isS T t 61 = true
        · exact hE.s c
        · rw [if_neg c] at h; exact absurd rfl h
theorem lp_adv (hf : Adv e f) (hs : ∀ t, sep t ≠ 0 → t ≠ e) : ∀ (n : Nat) (cs : List Nat) (t : Nat) (c2 : List Nat) (t2 : Nat), t ≤ e → e < n + t → lp f sep n cs t = .inr (c2, t2) → t ≤ t2 ∧ t2 ≤ e ∧ c2.length + t ≤ cs.length + t2 ∧ sep t2 = 0
  | 0, cs, t, c2, t2, h, hn, hl => by omega
  | n + 1, cs, t, c2, t2, h, hn, hl => by
    unfold lp at hl
    by_cases z : sep t = 0
    · rw [if_pos z] at hl
      obtain ⟨rfl, rfl⟩ := Prod.mk.inj (Sum.inr.inj hl)
      exact ⟨Nat.le_refl _, h, Nat.le_refl _, z⟩
    · rw [if_neg z] at hl
      obtain ⟨c3, t3, a1, a2⟩ := rbd_i hl
      have hne := hs t z
      obtain ⟨b1, b2, b3⟩ := hf (t + 1) c3 t3 (by omega) a1
      obtain ⟨d1, d2, d3, d4⟩ := lp_adv hf hs n _ t3 c2 t2 b2 (by omega) a2
      simp only [List.length_append, List.length_singleton] at d3
      exact ⟨by omega, d2, by omega, d4⟩
theorem of_adv (hE : Ends T e) (hf : Adv e f) (hs : ∀ t, sep t ≠ 0 → t ≠ e) : Adv e (fun t => rbd (f t) fun cs t1 => lp f sep 2000 cs t1) := by
  intro t cs t' ht h
  obtain ⟨c, t1, a1, a2⟩ := rbd_i h
  obtain ⟨b1, b2, b3⟩ := hf t c t1 ht a1
  have := hE.2
  obtain ⟨d1, d2, d3, d4⟩ := lp_adv hf hs 2000 c t1 cs t' b2 (by omega) a2
  exact ⟨by omega, d2, by omega⟩
theorem prod_adv (hE : Ends T e) (hf : Adv e f) : Adv e (prodOf T f) := of_adv hE hf (fun t z => (sep_s t).1 z hE)
theorem sum_adv (hE : Ends T e) (hf : Adv e f) : Adv e (sumOf T f) := of_adv (f := prodOf T f) hE (prod_adv hE hf) (fun t z => (sep_s t).2.1 z hE)
theorem both_adv (hE : Ends T e) (hf : Adv e f) : Adv e (bothOf T f) := of_adv hE hf (fun t z => (sep_s t).2.2.1 z hE)
theorem test_adv (hE : Ends T e) (hf : Adv e f) : Adv e (testOf T f) := of_adv (f := bothOf T f) hE (both_adv hE hf) (fun t z => (sep_s t).2.2.2.1 z hE)
theorem kof_w {wh t : Nat} (h : kof wh T t < 15) : T 3 t = 1 := by
  unfold kof at h
  by_cases z : T 3 t = 1
  · exact z
  · rw [if_neg z] at h; omega
theorem leaf_adv {wh : Nat} (hE : Ends T e) : Adv e (leaf wh T) := by
  intro t cs t' ht h
  unfold leaf at h
  have n2 : T 3 t = 2 ∨ T 3 t = 1 → t ≠ e := by
    intro z q; subst q; rw [hE.1] at z; rcases z with z | z <;> exact absurd z (by decide)
  by_cases h2 : T 3 t = 2
  · rw [if_pos h2] at h
    have := n2 (Or.inl h2)
    by_cases h4 : T 5 t - T 4 t ≤ 4
    · rw [if_pos h4] at h
      obtain ⟨rfl, rfl⟩ := Prod.mk.inj (Sum.inr.inj h)
      exact ⟨by omega, by omega, by show 1 + t ≤ t + 1; omega⟩
    · rw [if_neg h4] at h; cases h
  · rw [if_neg h2] at h
    by_cases hk : kof wh T t < 13
    · rw [if_pos hk] at h
      have := n2 (Or.inr (kof_w (wh := wh) (by omega)))
      obtain ⟨rfl, rfl⟩ := Prod.mk.inj (Sum.inr.inj h)
      exact ⟨by omega, by omega, by show 1 + t ≤ t + 1; omega⟩
    · rw [if_neg hk] at h; cases h
theorem mm_e {t : Nat} (hE : Ends T e) (h : mmC T t ≠ 0) : t ≠ e := by
  unfold mmC at h
  by_cases a : isW T t 31 = true
  · exact hE.w a
  · rw [if_neg a] at h
    by_cases b : isW T t 32 = true
    · exact hE.w b
    · rw [if_neg b] at h; exact absurd rfl h
theorem part_adv {wh : Nat} (hE : Ends T e) : ∀ d, Adv e (pPart wh T d)
  | 0 => by
    intro t cs t' ht h
    unfold pPart at h
    by_cases h1 : isS T t 40 = true
    · rw [if_pos h1] at h; cases h
    · rw [if_neg h1] at h
      by_cases h2 : mmC T t ≠ 0
      · rw [if_pos h2] at h; have := (askS_i h).2; cases this
      · rw [if_neg h2] at h
        by_cases h3 : kof wh T t = 13 ∨ kof wh T t = 14
        · rw [if_pos h3] at h; cases h
        · rw [if_neg h3] at h; exact leaf_adv hE t cs t' ht h
  | d + 1 => by
    have ih := part_adv (wh := wh) hE d
    have ihs := sum_adv hE ih
    intro t cs t' ht h
    unfold pPart at h
    by_cases h1 : isS T t 40 = true
    · rw [if_pos h1] at h
      have n1 := hE.s h1
      obtain ⟨c, t1, a1, a2⟩ := rbd_i h
      obtain ⟨b1, b2⟩ := askS_i a2
      obtain ⟨rfl, rfl⟩ := Prod.mk.inj (Sum.inr.inj b2)
      obtain ⟨d1, d2, d3⟩ := ihs (t + 1) _ t1 (by omega) a1
      have := hE.s b1
      exact ⟨by omega, by omega, by omega⟩
    · rw [if_neg h1] at h
      by_cases h2 : mmC T t ≠ 0
      · rw [if_pos h2] at h
        have n1 := mm_e hE h2
        obtain ⟨b1, b2⟩ := askS_i h
        have n2 := hE.s b1
        obtain ⟨c, t1, a1, a2⟩ := rbd_i b2
        obtain ⟨b3, b4⟩ := askS_i a2
        have n3 := hE.s b3
        obtain ⟨d1, d2, d3⟩ := ihs (t + 2) _ t1 (by omega) a1
        obtain ⟨c2, t2, a3, a4⟩ := rbd_i b4
        obtain ⟨b5, b6⟩ := askS_i a4
        have n4 := hE.s b5
        obtain ⟨d4, d5, d6⟩ := ihs (t1 + 1) _ t2 (by omega) a3
        obtain ⟨rfl, rfl⟩ := Prod.mk.inj (Sum.inr.inj b6)
        simp only [List.length_append, List.length_singleton]
        exact ⟨by omega, by omega, by omega⟩
      · rw [if_neg h2] at h
        by_cases h3 : kof wh T t = 13 ∨ kof wh T t = 14
        · rw [if_pos h3] at h
          have n1 : t ≠ e := by
            intro q
            have := kof_w (T := T) (wh := wh) (t := t) (by omega)
            rw [q, hE.1] at this; exact absurd this (by decide)
          obtain ⟨c, t1, a1, a2⟩ := rbd_i h
          obtain ⟨d1, d2, d3⟩ := ih (t + 1) _ t1 (by omega) a1
          obtain ⟨rfl, rfl⟩ := Prod.mk.inj (Sum.inr.inj a2)
          simp only [List.length_append, List.length_singleton]
          exact ⟨by omega, by omega, by omega⟩
        · rw [if_neg h3] at h; exact leaf_adv hE t cs t' ht h
theorem psum_adv {wh d : Nat} (hE : Ends T e) : Adv e (pSum wh T d) := sum_adv hE (part_adv hE d)
theorem cmp_adv {g : Nat → Rs} (hE : Ends T e) (hg : Adv e g) : Adv e (cmpOf T g) := by
  intro t cs t' ht h
  unfold cmpOf at h
  obtain ⟨c, t1, a1, a2⟩ := rbd_i h
  obtain ⟨d1, d2, d3⟩ := hg t c t1 ht a1
  by_cases z : sepC T t1 = 0
  · rw [if_pos z] at a2; cases a2
  · rw [if_neg z] at a2
    have n1 := (sep_s (T := T) (e := e) t1).2.2.2.2 z hE
    obtain ⟨c2, t2, a3, a4⟩ := rbd_i a2
    obtain ⟨d4, d5, d6⟩ := hg (t1 + 1) c2 t2 (by omega) a3
    obtain ⟨rfl, rfl⟩ := Prod.mk.inj (Sum.inr.inj a4)
    simp only [List.length_append, List.length_singleton]
    exact ⟨by omega, by omega, by omega⟩
theorem all_adv {t : Nat} {cs : List Nat} {t' : Nat} (hE : Ends T e) (ht : t ≤ e) (h3 : isW T t 30 = true) (h : (.inr ([13], t + 1) : Rs) = .inr (cs, t')) : t < t' ∧ t' ≤ e ∧ cs.length + t ≤ t' := by
  have n1 := hE.w h3
  obtain ⟨rfl, rfl⟩ := Prod.mk.inj (Sum.inr.inj h)
  exact ⟨by omega, by omega, by show 1 + t ≤ t + 1; omega⟩
theorem fact_adv {wh : Nat} (hE : Ends T e) : ∀ d, Adv e (pFact wh T d)
  | 0 => by
    intro t cs t' ht h
    unfold pFact at h
    by_cases h1 : isW T t 29 = true
    · rw [if_pos h1] at h; cases h
    · rw [if_neg h1] at h
      by_cases h2 : isS T t 91 = true
      · rw [if_pos h2] at h; cases h
      · rw [if_neg h2] at h
        by_cases h3 : isW T t 30 = true
        · rw [if_pos h3] at h; exact all_adv hE ht h3 h
        · rw [if_neg h3] at h; exact cmp_adv hE (psum_adv hE) t cs t' ht h
  | d + 1 => by
    have ih := fact_adv (wh := wh) hE d
    have iht := test_adv hE ih
    intro t cs t' ht h
    unfold pFact at h
    by_cases h1 : isW T t 29 = true
    · rw [if_pos h1] at h
      have n1 := hE.w h1
      obtain ⟨c, t1, a1, a2⟩ := rbd_i h
      obtain ⟨d1, d2, d3⟩ := ih (t + 1) _ t1 (by omega) a1
      obtain ⟨rfl, rfl⟩ := Prod.mk.inj (Sum.inr.inj a2)
      simp only [List.length_append, List.length_singleton]
      exact ⟨by omega, by omega, by omega⟩
    · rw [if_neg h1] at h
      by_cases h2 : isS T t 91 = true
      · rw [if_pos h2] at h
        have n1 := hE.s h2
        obtain ⟨c, t1, a1, a2⟩ := rbd_i h
        obtain ⟨b1, b2⟩ := askS_i a2
        obtain ⟨rfl, rfl⟩ := Prod.mk.inj (Sum.inr.inj b2)
        obtain ⟨d1, d2, d3⟩ := iht (t + 1) _ t1 (by omega) a1
        have := hE.s b1
        exact ⟨by omega, by omega, by omega⟩
      · rw [if_neg h2] at h
        by_cases h3 : isW T t 30 = true
        · rw [if_pos h3] at h; exact all_adv hE ht h3 h
        · rw [if_neg h3] at h; exact cmp_adv hE (psum_adv hE) t cs t' ht h
theorem ptest_adv {wh d : Nat} (hE : Ends T e) : Adv e (pTest wh T d) := test_adv hE (fact_adv hE d)
end AD
