/-! THE CLASS reads sums and tests -/
def RP (e p : Nat) (M N : sMem) (cs : List Nat) (t : Nat) : Rs → Prop
  | .inl q => CS e N (.inl q)
  | .inr r => CS e N (.inr r.2) ∧ ∀ cs0, Pc M p (cs0 ++ cs) → (cs0 ++ cs).length ≤ t → Pc N p (cs0 ++ r.1)
def CPR (T : Tk) (e p : Nat) (f : sMem → Option sMem) (g : Nat → Rs) : Prop := ∀ M, TG T e M → PA M → (∀ q, CS e M (.inl q) → ∃ N, f M = some N ∧ FP p M N ∧ PA N ∧ CS e N (.inl q)) ∧ ∀ t, CS e M (.inr t) → ∃ N, f M = some N ∧ FP p M N ∧ PA N ∧ RP e p M N [] t (g t)
section CX
variable {T : Tk} {e p : Nat} {g : Nat → Rs} {sep : Nat → Nat} {M : sMem}
/-- what a loop keeps -/
def LI (T : Tk) (e p : Nat) (g : Nat → Rs) (sep : Nat → Nat) (M : sMem) (cs : List Nat) (t : Nat) (R : Rs) (k : Nat) (N : sMem) : Prop :=
  TG T e N ∧ PA N ∧ FP p M N ∧ ((∃ q, R = .inl q ∧ CS e N (.inl q)) ∨ ∃ c' t', lp g sep (2000 - k) c' t' = R ∧ CS e N (.inr t') ∧ k ≤ t' ∧ k ≤ 1600 ∧ ∀ cs0, Pc M p (cs0 ++ cs) → (cs0 ++ cs).length ≤ t → Pc N p (cs0 ++ c') ∧ (cs0 ++ c').length ≤ t')
theorem li_end (hE : Ends T e) (hse : ∀ t, sep t ≠ 0 → t ≠ e) {cs : List Nat} {t k : Nat} {R : Rs} {N : sMem} (h : LI T e p g sep M cs t R k N) (hz : 1600 ≤ k ∨ ∀ t', CS e N (.inr t') → sep t' = 0) : FP p M N ∧ PA N ∧ RP e p M N cs t R := by
  obtain ⟨h1, h2, h3, ⟨q, h4, h5⟩ | ⟨c', t', h4, h5, h6, h7, h8⟩⟩ := h
  · exact ⟨h3, h2, by rw [h4]; exact h5⟩
  · have hs0 : sep t' = 0 := by
      rcases hz with hz | hz
      · have := h5.2.1
        have := hE.2
        by_cases w : sep t' = 0
        · exact w
        · have := hse t' w; omega
      · exact hz t' h5
    obtain ⟨m, hm⟩ : ∃ m, 2000 - k = m + 1 := ⟨1999 - k, by omega⟩
    rw [hm] at h4
    unfold lp at h4
    rw [if_pos hs0] at h4
    refine ⟨h3, h2, ?_⟩
    rw [← h4]
    exact ⟨h5, fun cs0 a1 a2 => (h8 cs0 a1 a2).1⟩
theorem li_step (hp : p ∈ prgL) (hg : Adv e g) {cs : List Nat} {t k t' : Nat} {R : Rs} {N O : sMem} {c' : List Nat} (h1 : TG T e N) (h2 : PA N) (h3 : FP p M N) (h4 : lp g sep (2000 - k) c' t' = R) (h5 : CS e N (.inr t')) (h6 : k ≤ t') (h7 : k < 1600) (h8 : ∀ cs0, Pc M p (cs0 ++ cs) → (cs0 ++ cs).length ≤ t → Pc N p (cs0 ++ c') ∧ (cs0 ++ c').length ≤ t') (hs : sep t' ≠ 0) (hne : t' < e)
    (k1 : FP p N O) (k2 : PA O) (k3 : RP e p N O [] t' (rbd (g (t' + 1)) fun c t2 => .inr (c ++ [sep t'], t2))) : LI T e p g sep M cs t R (k + 1) O := by
  refine ⟨h1.fp h2 hp k1, k2, h3.tr k1, ?_⟩
  obtain ⟨m, hm⟩ : ∃ m, 2000 - k = m + 1 := ⟨1999 - k, by omega⟩
  rw [hm] at h4
  unfold lp at h4
  rw [if_neg hs] at h4
  match z : g (t' + 1) with
  | .inl q =>
    rw [z] at h4 k3
    exact Or.inl ⟨q, h4.symm, k3⟩
  | .inr (c, t2) =>
    rw [z] at h4 k3
    obtain ⟨b1, b2, b3⟩ := hg (t' + 1) c t2 (by omega) z
    refine Or.inr ⟨c' ++ c ++ [sep t'], t2, by rw [show 2000 - (k + 1) = m by omega]; exact h4, k3.1, by omega, by omega, fun cs0 a1 a2 => ?_⟩
    obtain ⟨d1, d2⟩ := h8 cs0 a1 a2
    have := k3.2 (cs0 ++ c') (by rw [List.append_nil]; exact d1) (by rw [List.append_nil]; exact d2)
    dsimp only at this
    refine ⟨?_, ?_⟩
    · rw [show cs0 ++ (c' ++ c ++ [sep t']) = cs0 ++ c' ++ (c ++ [sep t']) by simp only [List.append_assoc]]
      exact this
    · simp only [List.length_append, List.length_singleton] at d2 ⊢
      omega
theorem cl_1 (hE : Ends T e) (hp : p ∈ prgL) (hg : Adv e g) (hse : ∀ t, sep t ≠ 0 → t ≠ e) {B : Int32 × sMem → Option ((Int32 × sMem) ⊕ sMem)}
    (h16 : ∀ k N, 1600 ≤ k → k ≤ 1601 → B (nI k, N) = some (.inr N))
    (hno : ∀ k N s, k < 1600 → TG T e N → PA N → CS e N s → (∀ t, s = .inr t → sep t = 0) → B (nI k, N) = some (.inr N))
    (hye : ∀ k N t, k < 1600 → TG T e N → PA N → CS e N (.inr t) → sep t ≠ 0 → ∃ O, B (nI k, N) = some (.inl (nI (k + 1), O)) ∧ FP p N O ∧ PA O ∧ RP e p N O [] t (rbd (g (t + 1)) fun c t2 => .inr (c ++ [sep t], t2)))
    (hT : TG T e M) (hA : PA M) : (∀ q, CS e M (.inl q) → ∃ N, sItr B sFuel (nI 0, M) = some N ∧ FP p M N ∧ PA N ∧ CS e N (.inl q)) ∧ ∀ t cs, CS e M (.inr t) → ∃ N, sItr B sFuel (nI 0, M) = some N ∧ FP p M N ∧ PA N ∧ RP e p M N cs t (lp g sep 2000 cs t) := by
  have L : ∀ (t : Nat) (cs : List Nat) (R : Rs), LI T e p g sep M cs t R 0 M → Ok (sItr B sFuel (nI 0, M)) (fun N => FP p M N ∧ PA N ∧ RP e p M N cs t R) := by
    intro t cs R h0
    refine itr_g (f := B) (fun k (x : sMem) => (nI k, x)) (fun k N => k ≤ 1601 ∧ LI T e p g sep M cs t R k N) _ 1601 (by decide) ?_ (Nat.zero_le _) ⟨by decide, h0⟩
    rintro k N hk ⟨_, hI⟩
    try dsimp only
    by_cases k16 : 1600 ≤ k
    · exact Or.inr ⟨N, h16 k N k16 hk, li_end hE hse hI (Or.inl k16)⟩
    · have hI' := hI
      obtain ⟨h1, h2, h3, ⟨q, h4, h5⟩ | ⟨c', t', h4, h5, h6, h7, h8⟩⟩ := hI
      · refine Or.inr ⟨N, hno k N (.inl q) (by omega) h1 h2 h5 (fun _ z => by cases z), li_end hE hse hI' (Or.inr (fun t' z => ?_))⟩
        exact absurd z.2.2.1 (by rw [h5.2.1]; exact h5.2.2.2)
      · by_cases hs : sep t' = 0
        · refine Or.inr ⟨N, hno k N (.inr t') (by omega) h1 h2 h5 (fun _ z => by obtain rfl := Sum.inr.inj z; exact hs), li_end hE hse hI' (Or.inr (fun t2 z => ?_))⟩
          have e1 := h5.1.symm.trans z.1
          have := h5.2.1; have := z.2.1; have := hE.2
          rw [← (nI_eq (by omega) (by omega)).mp e1]; exact hs
        · have hte := h5.2.1
          have hne := hse t' hs
          obtain ⟨O, k0, k1, k2, k3⟩ := hye k N t' (by omega) h1 h2 h5 hs
          exact Or.inl ⟨by omega, O, k0, by omega, li_step hp hg h1 h2 h3 h4 h5 h6 (by omega) h8 hs (by omega) k1 k2 k3⟩
  refine ⟨fun q hq => ?_, fun t cs ht => ?_⟩
  · exact L 0 [] (.inl q) ⟨hT, hA, FP.rf, Or.inl ⟨q, rfl, hq⟩⟩
  · exact L t cs _ ⟨hT, hA, FP.rf, Or.inr ⟨cs, t, rfl, ht, Nat.zero_le _, by decide, fun cs0 a1 a2 => ⟨a1, a2⟩⟩⟩
theorem cl_2 (hE : Ends T e) (hp : p ∈ prgL) (hg : Adv e g) (hse : ∀ t, sep t ≠ 0 → t ≠ e) {B : Int32 × Int32 × sMem → Option ((Int32 × Int32 × sMem) ⊕ sMem)}
    (h16 : ∀ b k N, 1600 ≤ k → k ≤ 1601 → B (b, nI k, N) = some (.inr N))
    (h00 : ∀ k N, k < 1600 → B (0, nI k, N) = some (.inr N))
    (hno : ∀ k N s, k < 1600 → TG T e N → PA N → CS e N s → (∀ t, s = .inr t → sep t = 0) → B (1, nI k, N) = some (.inl (0, nI (k + 1), N)))
    (hye : ∀ k N t, k < 1600 → TG T e N → PA N → CS e N (.inr t) → sep t ≠ 0 → ∃ O, B (1, nI k, N) = some (.inl (1, nI (k + 1), O)) ∧ FP p N O ∧ PA O ∧ RP e p N O [] t (rbd (g (t + 1)) fun c t2 => .inr (c ++ [sep t], t2)))
    (hT : TG T e M) (hA : PA M) : (∀ q, CS e M (.inl q) → ∃ N, sItr B sFuel (1, nI 0, M) = some N ∧ FP p M N ∧ PA N ∧ CS e N (.inl q)) ∧ ∀ t cs, CS e M (.inr t) → ∃ N, sItr B sFuel (1, nI 0, M) = some N ∧ FP p M N ∧ PA N ∧ RP e p M N cs t (lp g sep 2000 cs t) := by
  have L : ∀ (t : Nat) (cs : List Nat) (R : Rs), LI T e p g sep M cs t R 0 M → Ok (sItr B sFuel (1, nI 0, M)) (fun N => FP p M N ∧ PA N ∧ RP e p M N cs t R) := by
    intro t cs R h0
    refine itr_g (f := B) (fun k (x : Int32 × sMem) => (x.1, nI k, x.2)) (fun k x => k ≤ 1601 ∧ ((x.1 = 0 ∧ FP p M x.2 ∧ PA x.2 ∧ RP e p M x.2 cs t R) ∨ (x.1 = 1 ∧ LI T e p g sep M cs t R k x.2))) _ 1601 (by decide) ?_ (s := (1, M)) (Nat.zero_le _) ⟨by decide, Or.inr ⟨rfl, h0⟩⟩
    rintro k ⟨b, N⟩ hk ⟨_, hI⟩
    dsimp only at hI ⊢
    by_cases k16 : 1600 ≤ k
    · rcases hI with ⟨_, hI⟩ | ⟨_, hI⟩
      · exact Or.inr ⟨N, h16 b k N k16 hk, hI⟩
      · exact Or.inr ⟨N, h16 b k N k16 hk, li_end hE hse hI (Or.inl k16)⟩
    · rcases hI with ⟨hb, hI⟩ | ⟨hb, hI⟩
      · subst hb
        exact Or.inr ⟨N, h00 k N (by omega), hI⟩
      · subst hb
        have hI' := hI
        obtain ⟨h1, h2, h3, ⟨q, h4, h5⟩ | ⟨c', t', h4, h5, h6, h7, h8⟩⟩ := hI
        · refine Or.inl ⟨by omega, (0, N), hno k N (.inl q) (by omega) h1 h2 h5 (fun _ z => by cases z), by omega, Or.inl ⟨rfl, li_end hE hse hI' (Or.inr (fun t' z => ?_))⟩⟩
          exact absurd z.2.2.1 (by rw [h5.2.1]; exact h5.2.2.2)
        · by_cases hs : sep t' = 0
          · refine Or.inl ⟨by omega, (0, N), hno k N (.inr t') (by omega) h1 h2 h5 (fun _ z => by obtain rfl := Sum.inr.inj z; exact hs), by omega, Or.inl ⟨rfl, li_end hE hse hI' (Or.inr (fun t2 z => ?_))⟩⟩
            have e1 := h5.1.symm.trans z.1
            have := h5.2.1; have := z.2.1; have := hE.2
            rw [← (nI_eq (by omega) (by omega)).mp e1]; exact hs
          · have hte := h5.2.1
            have hne := hse t' hs
            obtain ⟨O, k0, k1, k2, k3⟩ := hye k N t' (by omega) h1 h2 h5 hs
            exact Or.inl ⟨by omega, (1, O), k0, by omega, Or.inr ⟨rfl, li_step hp hg h1 h2 h3 h4 h5 h6 (by omega) h8 hs (by omega) k1 k2 k3⟩⟩
  refine ⟨fun q hq => ?_, fun t cs ht => ?_⟩
  · exact L 0 [] (.inl q) ⟨hT, hA, FP.rf, Or.inl ⟨q, rfl, hq⟩⟩
  · exact L t cs _ ⟨hT, hA, FP.rf, Or.inr ⟨cs, t, rfl, ht, Nat.zero_le _, by decide, fun cs0 a1 a2 => ⟨a1, a2⟩⟩⟩
/-- one, then a step; the sign stands ahead -/
theorem cx_add {f : sMem → Option sMem} (hp : p ∈ prgL) (hf : CPR T e p f g) (hg : Adv e g) (hT : TG T e M) (hA : PA M) {v : Int32} {c : Nat} (hv : v = trn c) :
    (∀ q, CS e M (.inl q) → ∃ N N1, f M = some N1 ∧ f_X6_add p v N1 = some N ∧ FP p M N ∧ PA N ∧ CS e N (.inl q)) ∧ ∀ t, CS e M (.inr (t + 1)) → ∃ N N1, f M = some N1 ∧ f_X6_add p v N1 = some N ∧ FP p M N ∧ PA N ∧ RP e p M N [] t (rbd (g (t + 1)) fun cs t2 => .inr (cs ++ [c], t2)) := by
  refine ⟨fun q hq => ?_, fun t ht => ?_⟩
  · obtain ⟨N, a1, a2, a3, a4⟩ := (hf M hT hA).1 q hq
    obtain ⟨O, b1, b2, b3, b4, b5⟩ := c_add a3 hp v
    exact ⟨O, N, a1, b1, a2.tr b2, b3, a4.eq b4⟩
  · obtain ⟨N, a1, a2, a3, a4⟩ := (hf M hT hA).2 (t + 1) ht
    obtain ⟨O, b1, b2, b3, b4, b5⟩ := c_add a3 hp v
    have hte := ht.2.1
    refine ⟨O, N, a1, b1, a2.tr b2, b3, ?_⟩
    match z : g (t + 1) with
    | .inl q => rw [z] at a4; exact CS.eq (s := .inl q) a4 b4
    | .inr (cs, t2) =>
      rw [z] at a4
      obtain ⟨d1, d2, d3⟩ := hg (t + 1) cs t2 hte z
      have := hT.2.2.2.2
      refine ⟨a4.1.eq b4, fun cs0 k1 k2 => ?_⟩
      rw [List.append_nil] at k1 k2
      have := b5 (cs0 ++ cs) c (a4.2 cs0 (by rw [List.append_nil]; exact k1) (by rw [List.append_nil]; omega)) (by rw [List.length_append]; omega) hv
      rw [List.append_assoc] at this
      exact this
end CX
