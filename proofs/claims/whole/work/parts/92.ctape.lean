/-! THE CLASS's tape: where it is, what it takes -/
abbrev Cs : Type := (Int32 × Int32) ⊕ Nat
def tpX : Nat → Nat → Bool := fun a k => a == 1 && (k == 7 || k == 8 || k == 9)
def TG (T : Tk) (e : Nat) (M : sMem) : Prop := ClsS M.1 M.2.2.2 ∧ (∀ a k, 3 ≤ a → a ≤ 6 → M.2.1 a k = T a k) ∧ M.2.1 1 6 = nI (e + 1) ∧ Ends T e
def CS (e : Nat) (M : sMem) : Cs → Prop
  | .inl q => M.2.1 1 7 = nI e ∧ M.2.1 1 8 = q.1 ∧ M.2.1 1 9 = q.2 ∧ q.1 ≠ 0
  | .inr t => M.2.1 1 7 = nI t ∧ t ≤ e ∧ M.2.1 1 8 = 0 ∧ M.2.1 1 9 = mI
def ps (e : Nat) : Cs → Nat
  | .inl _ => e
  | .inr t => t
def cbd (s : Cs) (f : Nat → Cs) : Cs := match s with | .inl q => .inl q | .inr t => f t
theorem rset {α : Type} {x : Option α} {a b : α} (h : x = some a) (hb : a = b) : x = some b := by rw [h, hb]
section CT
variable {T : Tk} {e t c : Nat} {M N : sMem} {s : Cs}
theorem TG.fr {Q : Nat → Nat → Bool} (h : TG T e M) (hF : Fr tpX Q M N) : TG T e N :=
  ⟨hF.hc h.1, fun a k h1 h2 => by
    rw [hF.i (by unfold tpX; have : (a == 1) = false := beq_eq_false_iff_ne.mpr (by omega); rw [this]; rfl)]
    exact h.2.1 a k h1 h2, by rw [hF.i rfl]; exact h.2.2.1, h.2.2.2⟩
theorem CS.pos (h : CS e M s) : M.2.1 1 7 = nI (ps e s) ∧ ps e s ≤ e := by
  match s, h with
  | .inl q, h => exact ⟨h.1, Nat.le_refl _⟩
  | .inr t, h => exact ⟨h.1, h.2.1⟩
theorem CS.ld (h : CS e M s) (hT : TG T e M) : gI 10 10 7 M 1 = some (nI (ps e s)) ∧ ldI 14 M 3 (nI (ps e s)) = some (T 3 (ps e s)) ∧ ldI 14 M 4 (nI (ps e s)) = some (T 4 (ps e s)) ∧ ldI 14 M 5 (nI (ps e s)) = some (T 5 (ps e s)) ∧ ldI 14 M 6 (nI (ps e s)) = some (T 6 (ps e s)) := by
  obtain ⟨h1, h2⟩ := h.pos
  have h3 := hT.2.2.2.2
  refine ⟨by rw [gi1 hT.1, h1], ?_, ?_, ?_, ?_⟩
  · rw [ld3 hT.1 (by omega), hT.2.1 3 _ (by decide) (by decide)]
  · rw [ld4 hT.1 (by omega), hT.2.1 4 _ (by decide) (by decide)]
  · rw [ld5 hT.1 (by omega), hT.2.1 5 _ (by decide) (by decide)]
  · rw [ld6 hT.1 (by omega), hT.2.1 6 _ (by decide) (by decide)]
theorem c_place (hT : TG T e M) (h : CS e M s) : f_X10_place 1 M = some (T 4 (ps e s)) := by
  obtain ⟨h1, h2, h3, h4, h5⟩ := h.ld hT
  unfold f_X10_place
  rw [sr1 hT.1, gr1_3 hT.1, Option.bind_some, h1, Option.bind_some, h3, Option.bind_some]
theorem c_word (hT : TG T e M) (h : CS e M s) : f_X10_word 1 M = some (if T 3 (ps e s) = 1 then T 6 (ps e s) else -1) := by
  obtain ⟨h1, h2, h3, h4, h5⟩ := h.ld hT
  unfold f_X10_word
  rw [sr1 hT.1, gr1_2 hT.1, Option.bind_some, h1, Option.bind_some, h2, Option.bind_some]
  by_cases q : T 3 (ps e s) = 1
  · rw [if_pos q, if_pos q, gr1_5 hT.1, Option.bind_some, Option.bind_some, h5, Option.bind_some]
  · rw [if_neg q, if_neg q]
theorem c_isOver (hT : TG T e M) (h : CS e M s) : f_X10_isOver 1 M = some (bI (T 3 (ps e s) = 0)) := by
  obtain ⟨h1, h2, h3, h4, h5⟩ := h.ld hT
  unfold f_X10_isOver
  rw [sr1 hT.1, gr1_2 hT.1, Option.bind_some, h1, Option.bind_some, h2, Option.bind_some]
  by_cases q : T 3 (ps e s) = 0
  · rw [if_pos q, bI_t q]
  · rw [if_neg q, bI_f q]
theorem c_isAtN (hT : TG T e M) (h : CS e M s) : f_X10_isAtNumber 1 M = some (bI (T 3 (ps e s) = 2)) := by
  obtain ⟨h1, h2, h3, h4, h5⟩ := h.ld hT
  unfold f_X10_isAtNumber
  rw [sr1 hT.1, gr1_2 hT.1, Option.bind_some, h1, Option.bind_some, h2, Option.bind_some]
  by_cases q : T 3 (ps e s) = 2
  · rw [if_pos q, bI_t q]
  · rw [if_neg q, bI_f q]
theorem c_isGood (hT : TG T e M) (h : CS e M s) : f_X10_isGood 1 M = some (match s with | .inl _ => 0 | .inr _ => 1) := by
  unfold f_X10_isGood
  rw [sr1 hT.1, gi1 hT.1, Option.bind_some]
  match s, h with
  | .inl q, h => rw [h.2.1, if_neg h.2.2.2]
  | .inr t, h => rw [h.2.2.1, if_pos rfl]
theorem c_goOn (hT : TG T e M) (h : CS e M (.inr t)) (ht : t < e) : f_X10_goOn 1 M = some (wrI M 1 7 (nI (t + 1))) ∧ Fr tpX q0 M (wrI M 1 7 (nI (t + 1))) ∧ CS e (wrI M 1 7 (nI (t + 1))) (.inr (t + 1)) := by
  have h3 := hT.2.2.2.2
  refine ⟨?_, Fr.rf.wi rfl, wrI_eq, by omega, by rw [wrI_ne (by omega)]; exact h.2.2.1, by rw [wrI_ne (by omega)]; exact h.2.2.2⟩
  unfold f_X10_goOn
  rw [sr1 hT.1, gi1 hT.1, Option.bind_some, gi1 hT.1, Option.bind_some, h.1, hT.2.2.1, nI_1, if_neg (by rw [cle (by omega) (by omega)]; omega), Option.bind_some, pi1 hT.1, Option.bind_some, nI_1]
theorem c_fail (hT : TG T e M) (h : CS e M s) (k p : Int32) (hk : k ≠ 0) : ∃ N, f_X10_fail 1 k p M = some N ∧ Fr tpX q0 M N ∧ CS e N (cbd s fun _ => .inl (k, p)) := by
  have h3 := hT.2.2.2.2
  have B : ∀ M1 : sMem, ClsS M1.1 M1.2.2.2 → M1.2.1 1 6 = nI (e + 1) → f_X10_fail_B17 1 M1 = some (wrI M1 1 7 (nI e)) := by
    intro M1 hc h6
    unfold f_X10_fail_B17
    have e1 : nI (e + 1) - (1 : Int32) = nI e := by rw [show (1 : Int32) = nI 1 from rfl, nsub (by omega)]; rfl
    rw [gi1 hc, Option.bind_some, h6, e1]
    have e2 : f_J9_max_7cf53 0 (nI e) M1 = some (nI e) := by
      unfold f_J9_max_7cf53
      by_cases q : e = 0
      · subst q; rfl
      · rw [if_pos (by rw [show (0 : Int32) = nI 0 from rfl, clt (by omega) (by omega)]; omega)]
    rw [e2, Option.bind_some, pi1 hc, Option.bind_some]
  unfold f_X10_fail
  rw [sr1 hT.1, gi1 hT.1, Option.bind_some]
  match s, h with
  | .inl q, h =>
    rw [h.2.1, if_neg h.2.2.2, B M hT.1 hT.2.2.1]
    exact ⟨_, rfl, Fr.rf.wi rfl, wrI_eq, by rw [wrI_ne (by omega)]; exact h.2.1, by rw [wrI_ne (by omega)]; exact h.2.2.1, h.2.2.2⟩
  | .inr t, h =>
    rw [h.2.2.1, if_pos rfl, pi1 hT.1, Option.bind_some, pi1 (M := wrI M 1 8 k) hT.1, Option.bind_some, B (wrI (wrI M 1 8 k) 1 9 p) hT.1 (by rw [wrI_ne (by omega), wrI_ne (by omega)]; exact hT.2.2.1)]
    exact ⟨_, rfl, ((Fr.rf.wi rfl).wi rfl).wi rfl, wrI_eq, by rw [wrI_ne (by omega), wrI_ne (by omega), wrI_eq], by rw [wrI_ne (by omega), wrI_eq], hk⟩
theorem c_sgn_y (hT : TG T e M) (h : CS e M (.inr t)) (hs : isS T t c = true) {z : Int32} (hz : z = nI c) : ∃ N, f_X10_takesSign 1 z M = some (1, N) ∧ Fr tpX q0 M N ∧ CS e N (.inr (t + 1)) := by
  obtain ⟨h1, h2, h3, h4, h5⟩ := h.ld hT
  have hne := hT.2.2.2.s hs
  have hte := h.2.1
  obtain ⟨a1, a2⟩ := isS_v hs
  obtain ⟨g1, g2, g3⟩ := c_goOn hT h (by omega)
  refine ⟨_, ?_, g2, g3⟩
  unfold f_X10_takesSign
  dsimp only [ps] at h1 h2 h5
  rw [sr1 hT.1, gr1_2 hT.1, Option.bind_some, h1, Option.bind_some, h2, Option.bind_some, if_pos a1, gr1_5 hT.1, Option.bind_some, Option.bind_some, h5, Option.bind_some, if_pos (by rw [a2, hz]), g1]
  rfl
theorem c_sgn_n (hT : TG T e M) (h : CS e M s) (hs : ¬ isS T (ps e s) c = true) {z : Int32} (hz : z = nI c) : f_X10_takesSign 1 z M = some (0, M) := by
  obtain ⟨h1, h2, h3, h4, h5⟩ := h.ld hT
  unfold f_X10_takesSign
  rw [sr1 hT.1, gr1_2 hT.1, Option.bind_some, h1, Option.bind_some, h2, Option.bind_some]
  by_cases a1 : T 3 (ps e s) = 3
  · rw [if_pos a1, gr1_5 hT.1, Option.bind_some, Option.bind_some, h5, Option.bind_some, if_neg (fun a2 => hs (decide_eq_true ⟨a1, by rw [a2, hz]⟩))]
  · rw [if_neg a1]
theorem c_wrd_y (hT : TG T e M) (h : CS e M (.inr t)) {z : Int32} (hs : T 3 t = 1) (hz : T 6 t = z) : ∃ N, f_X10_takesWord 1 z M = some (1, N) ∧ Fr tpX q0 M N ∧ CS e N (.inr (t + 1)) := by
  obtain ⟨h1, h2, h3, h4, h5⟩ := h.ld hT
  have hne : t ≠ e := by
    intro q; subst q
    rw [hT.2.2.2.1] at hs; exact absurd hs (by decide)
  have hte := h.2.1
  obtain ⟨g1, g2, g3⟩ := c_goOn hT h (by omega)
  refine ⟨_, ?_, g2, g3⟩
  unfold f_X10_takesWord
  dsimp only [ps] at h1 h2 h5
  rw [sr1 hT.1, gr1_2 hT.1, Option.bind_some, h1, Option.bind_some, h2, Option.bind_some, if_pos hs, gr1_5 hT.1, Option.bind_some, Option.bind_some, h5, Option.bind_some, if_pos hz, g1]
  rfl
theorem c_wrd_n (hT : TG T e M) (h : CS e M s) {z : Int32} (hs : ¬ (T 3 (ps e s) = 1 ∧ T 6 (ps e s) = z)) : f_X10_takesWord 1 z M = some (0, M) := by
  obtain ⟨h1, h2, h3, h4, h5⟩ := h.ld hT
  unfold f_X10_takesWord
  rw [sr1 hT.1, gr1_2 hT.1, Option.bind_some, h1, Option.bind_some, h2, Option.bind_some]
  by_cases a1 : T 3 (ps e s) = 1
  · rw [if_pos a1, gr1_5 hT.1, Option.bind_some, Option.bind_some, h5, Option.bind_some, if_neg (fun a2 => hs ⟨a1, a2⟩)]
  · rw [if_neg a1]
theorem no_e (hT : TG T e M) : ¬ isS T e c = true := fun z => hT.2.2.2.s z rfl
theorem no_w (hT : TG T e M) : ¬ isW T e c = true := fun z => hT.2.2.2.w z rfl
def ndS (T : Tk) (c : Nat) (s : Cs) : Cs := cbd s fun t => if isS T t c = true then .inr (t + 1) else .inl (1, T 4 t)
def ndW (T : Tk) (w : Int32) (s : Cs) : Cs := cbd s fun t => if T 3 t = 1 ∧ T 6 t = w then .inr (t + 1) else .inl (1, T 4 t)
theorem c_needS (hT : TG T e M) (h : CS e M s) {z : Int32} (hz : z = nI c) : ∃ N, f_X10_needSign 1 z M = some N ∧ Fr tpX q0 M N ∧ CS e N (ndS T c s) := by
  unfold f_X10_needSign
  rw [sr1 hT.1]
  have F : ∀ s : Cs, CS e M s → ¬ isS T (ps e s) c = true → ∃ N, (f_X10_takesSign 1 z M).bind (fun (x1, M2) => if x1 = 0 then (gR 10 10 3 M2 1).bind fun x3 => (gI 10 10 7 M2 1).bind fun x4 => (ldI 14 M2 x3 x4).bind fun x5 => (f_X10_fail 1 ((1 : Int32)) x5 M2).bind fun M6 => some M6 else some M2) = some N ∧ Fr tpX q0 M N ∧ CS e N (cbd s fun t => .inl (1, T 4 (ps e s))) := by
    intro s h hs
    obtain ⟨h1, h2, h3, h4, h5⟩ := h.ld hT
    obtain ⟨N, f1, f2, f3⟩ := c_fail hT h 1 (T 4 (ps e s)) (by decide)
    rw [c_sgn_n hT h hs hz]
    dsimp only [Option.bind_some]
    rw [if_pos rfl, gr1_3 hT.1, Option.bind_some, h1, Option.bind_some, h3, Option.bind_some, f1]
    exact ⟨N, rfl, f2, f3⟩
  match s, h with
  | .inl q, h => exact F (.inl q) h (no_e hT)
  | .inr t, h =>
    by_cases hs : isS T t c = true
    · obtain ⟨N, g1, g2, g3⟩ := c_sgn_y hT h hs hz
      rw [g1]
      dsimp only [Option.bind_some]
      rw [if_neg (by decide)]
      refine ⟨N, rfl, g2, ?_⟩
      show CS e N (if isS T t c = true then .inr (t + 1) else _)
      rw [if_pos hs]; exact g3
    · obtain ⟨N, g1, g2, g3⟩ := F (.inr t) h hs
      refine ⟨N, g1, g2, ?_⟩
      show CS e N (if isS T t c = true then .inr (t + 1) else _)
      rw [if_neg hs]; exact g3
theorem c_needW (hT : TG T e M) (h : CS e M s) (z : Int32) : ∃ N, f_X10_needWord 1 z M = some N ∧ Fr tpX q0 M N ∧ CS e N (ndW T z s) := by
  unfold f_X10_needWord
  rw [sr1 hT.1]
  have F : ∀ s : Cs, CS e M s → ¬ (T 3 (ps e s) = 1 ∧ T 6 (ps e s) = z) → ∃ N, (f_X10_takesWord 1 z M).bind (fun (x1, M2) => if x1 = 0 then (gR 10 10 3 M2 1).bind fun x3 => (gI 10 10 7 M2 1).bind fun x4 => (ldI 14 M2 x3 x4).bind fun x5 => (f_X10_fail 1 ((1 : Int32)) x5 M2).bind fun M6 => some M6 else some M2) = some N ∧ Fr tpX q0 M N ∧ CS e N (cbd s fun t => .inl (1, T 4 (ps e s))) := by
    intro s h hs
    obtain ⟨h1, h2, h3, h4, h5⟩ := h.ld hT
    obtain ⟨N, f1, f2, f3⟩ := c_fail hT h 1 (T 4 (ps e s)) (by decide)
    rw [c_wrd_n hT h hs]
    dsimp only [Option.bind_some]
    rw [if_pos rfl, gr1_3 hT.1, Option.bind_some, h1, Option.bind_some, h3, Option.bind_some, f1]
    exact ⟨N, rfl, f2, f3⟩
  match s, h with
  | .inl q, h => exact F (.inl q) h (fun q => absurd (hT.2.2.2.1.symm.trans q.1) (by decide))
  | .inr t, h =>
    by_cases hs : T 3 t = 1 ∧ T 6 t = z
    · obtain ⟨N, g1, g2, g3⟩ := c_wrd_y hT h hs.1 hs.2
      rw [g1]
      dsimp only [Option.bind_some]
      rw [if_neg (by decide)]
      refine ⟨N, rfl, g2, ?_⟩
      show CS e N (if T 3 t = 1 ∧ T 6 t = z then .inr (t + 1) else _)
      rw [if_pos hs]; exact g3
    · obtain ⟨N, g1, g2, g3⟩ := F (.inr t) h hs
      refine ⟨N, g1, g2, ?_⟩
      show CS e N (if T 3 t = 1 ∧ T 6 t = z then .inr (t + 1) else _)
      rw [if_neg hs]; exact g3
/-- a number: a fault, or its value -/
def numR (T : Tk) (lo hi : Int32) (t : Nat) : (Int32 × Int32) ⊕ (Int32 × Nat) :=
  if T 3 t = 2 then (if T 5 t - T 4 t ≤ 4 then (if lo ≤ T 6 t ∧ T 6 t ≤ hi then .inr (T 6 t, t + 1) else .inl (2, T 4 t)) else .inl (1, T 4 t + 4)) else .inl (1, T 4 t)
/-- what comes of it -/
def CV2 {α : Type} (e : Nat) (N : sMem) (s : Cs) (g : Nat → (Int32 × Int32) ⊕ (α × Nat)) (v : α) : Prop := match s with | .inl q => CS e N (.inl q) | .inr t => match g t with | .inl q => CS e N (.inl q) | .inr q => v = q.1 ∧ CS e N (.inr q.2)
theorem CV2_l {α : Type} {g : Nat → (Int32 × Int32) ⊕ (α × Nat)} {v : α} {q : Int32 × Int32} (h : g t = .inl q) (k : CS e N (.inl q)) : CV2 e N (.inr t) g v := by
  unfold CV2; dsimp only; rw [h]; exact k
theorem CV2_r {α : Type} {g : Nat → (Int32 × Int32) ⊕ (α × Nat)} {v : α} {t' : Nat} (h : g t = .inr (v, t')) (k : CS e N (.inr t')) : CV2 e N (.inr t) g v := by
  unfold CV2; dsimp only; rw [h]; exact ⟨rfl, k⟩
theorem c_number (hT : TG T e M) (h : CS e M s) (lo hi : Int32) : ∃ v N, f_X10_number 1 lo hi M = some (v, N) ∧ Fr tpX q0 M N ∧ CV2 e N s (numR T lo hi) v := by
  match s, h with
  | .inl q, h =>
    obtain ⟨h1, h2, h3, h4, h5⟩ := h.ld hT
    replace h1 : gI 10 10 7 M 1 = some (nI e) := h1
    replace h2 : ldI 14 M 3 (nI e) = some (T 3 e) := h2
    replace h3 : ldI 14 M 4 (nI e) = some (T 4 e) := h3
    replace h5 : ldI 14 M 6 (nI e) = some (T 6 e) := h5
    obtain ⟨N, f1, f2, f3⟩ := c_fail hT h 1 (T 4 e) (by decide)
    unfold f_X10_number
    rw [sr1 hT.1, gr1_3 hT.1, Option.bind_some, h1, Option.bind_some, h3, Option.bind_some, gr1_5 hT.1, Option.bind_some, Option.bind_some, h5, Option.bind_some, gr1_2 hT.1, Option.bind_some, Option.bind_some, h2, Option.bind_some, if_neg (fun z => absurd (hT.2.2.2.1.symm.trans z) (by decide)), f1]
    exact ⟨lo, N, rfl, f2, f3⟩
  | .inr t, h =>
    obtain ⟨h1, h2, h3, h4, h5⟩ := h.ld hT
    replace h1 : gI 10 10 7 M 1 = some (nI t) := h1
    replace h2 : ldI 14 M 3 (nI t) = some (T 3 t) := h2
    replace h3 : ldI 14 M 4 (nI t) = some (T 4 t) := h3
    replace h4 : ldI 14 M 5 (nI t) = some (T 5 t) := h4
    replace h5 : ldI 14 M 6 (nI t) = some (T 6 t) := h5
    unfold f_X10_number
    rw [sr1 hT.1, gr1_3 hT.1, Option.bind_some, h1, Option.bind_some, h3, Option.bind_some, gr1_5 hT.1, Option.bind_some, Option.bind_some, h5, Option.bind_some, gr1_2 hT.1, Option.bind_some, Option.bind_some, h2, Option.bind_some]
    by_cases k2 : T 3 t = 2
    · have hne : t ≠ e := by
        intro q; subst q
        rw [hT.2.2.2.1] at k2; exact absurd k2 (by decide)
      have hte := h.2.1
      rw [if_pos k2, gr1_4 hT.1, Option.bind_some, Option.bind_some, h4, Option.bind_some]
      by_cases k4 : T 5 t - T 4 t ≤ 4
      · obtain ⟨g1, g2, g3⟩ := c_goOn hT h (by omega)
        rw [if_pos k4, g1, Option.bind_some]
        by_cases k5 : lo ≤ T 6 t ∧ T 6 t ≤ hi
        · rw [if_neg (Int32.not_lt.mpr k5.1)]
          unfold f_X10_number_B77
          rw [if_pos k5.2]
          exact ⟨_, _, rfl, g2, CV2_r (by unfold numR; rw [if_pos k2, if_pos k4, if_pos k5]) g3⟩
        · obtain ⟨N, f1, f2, f3⟩ := c_fail (hT.fr g2) g3 2 (T 4 t) (by decide)
          have e83 : f_X10_number_B83 1 lo (T 4 t) (wrI M 1 7 (nI (t + 1))) = some (lo, N) := by
            unfold f_X10_number_B83; rw [f1]; rfl
          refine ⟨lo, N, ?_, g2.tr f2, CV2_l (by unfold numR; rw [if_pos k2, if_pos k4, if_neg k5]) f3⟩
          by_cases k6 : T 6 t < lo
          · rw [if_pos k6, e83]
          · rw [if_neg k6]
            unfold f_X10_number_B77
            rw [if_neg (fun z => k5 ⟨Int32.not_lt.mp k6, z⟩), e83]
      · obtain ⟨N, f1, f2, f3⟩ := c_fail hT h 1 (T 4 t + 4) (by decide)
        rw [if_neg k4, f1]
        exact ⟨lo, N, rfl, f2, CV2_l (by unfold numR; rw [if_pos k2, if_neg k4]) f3⟩
    · obtain ⟨N, f1, f2, f3⟩ := c_fail hT h 1 (T 4 t) (by decide)
      rw [if_neg k2, f1]
      exact ⟨lo, N, rfl, f2, CV2_l (by unfold numR; rw [if_neg k2]) f3⟩
end CT
