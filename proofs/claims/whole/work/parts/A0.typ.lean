/-! THE CODES of a text are good: their kinds, their height, their parts -/
def GdR (wh e : Nat) (f : Nat → Rs) (b : Bool) (D : Nat) : Prop := ∀ t cs t', t ≤ e → f t = .inr (cs, t') → (∀ c ∈ cs, okCode wh c = true) ∧ ∀ L : List Bool, L.length + D ≤ 60 → tyA cs L = some (b :: L)
section GD
variable {T : Tk} {wh e D : Nat} {b : Bool} {f : Nat → Rs} {sep : Nat → Nat}
theorem tyA_1 {c : Nat} {L L' : List Bool} (h : tyS c L = some L') (hl : L'.length ≤ 60) : tyA [c] L = some L' := by
  show (tyS c L).bind _ = _
  rw [h]
  show (if L'.length ≤ 60 then some L' else none) = _
  rw [if_pos hl]
theorem ok_lt {c : Nat} (h : c < 40) : okCode wh c = true := by
  unfold okCode
  rw [decide_eq_true h]; rfl
theorem mem3 {A B : List Nat} {x : Nat} {P : Nat → Prop} (hA : ∀ c ∈ A, P c) (hB : ∀ c ∈ B, P c) (hx : P x) : ∀ c ∈ A ++ B ++ [x], P c := by
  intro c hc
  rcases List.mem_append.mp hc with hc | hc
  · rcases List.mem_append.mp hc with hc | hc
    · exact hA c hc
    · exact hB c hc
  · rw [List.mem_singleton.mp hc]; exact hx
theorem mem2 {A : List Nat} {x : Nat} {P : Nat → Prop} (hA : ∀ c ∈ A, P c) (hx : P x) : ∀ c ∈ A ++ [x], P c := by
  intro c hc
  rcases List.mem_append.mp hc with hc | hc
  · exact hA c hc
  · rw [List.mem_singleton.mp hc]; exact hx
theorem gd_lp (hA : Adv e f) (hf : GdR wh e f b D) (hse : ∀ t, sep t ≠ 0 → t ≠ e) (hsp : ∀ t, sep t ≠ 0 → sep t < 40 ∧ ∀ L : List Bool, tyS (sep t) (b :: b :: L) = some (b :: L)) : ∀ (n : Nat) (cs : List Nat) (t : Nat) (c2 : List Nat) (t2 : Nat), t ≤ e → lp f sep n cs t = .inr (c2, t2) → (∀ c ∈ cs, okCode wh c = true) → (∀ L : List Bool, L.length + (D + 1) ≤ 60 → tyA cs L = some (b :: L)) → (∀ c ∈ c2, okCode wh c = true) ∧ ∀ L : List Bool, L.length + (D + 1) ≤ 60 → tyA c2 L = some (b :: L)
  | 0, cs, t, c2, t2, _, h, h1, h2 => by
    obtain ⟨rfl, rfl⟩ := Prod.mk.inj (Sum.inr.inj h)
    exact ⟨h1, h2⟩
  | n + 1, cs, t, c2, t2, ht, h, h1, h2 => by
    unfold lp at h
    by_cases z : sep t = 0
    · rw [if_pos z] at h
      obtain ⟨rfl, rfl⟩ := Prod.mk.inj (Sum.inr.inj h)
      exact ⟨h1, h2⟩
    · rw [if_neg z] at h
      have hne := hse t z
      obtain ⟨c3, t3, a1, a2⟩ := rbd_i h
      obtain ⟨b1, b2, b3⟩ := hA (t + 1) c3 t3 (by omega) a1
      obtain ⟨d1, d2⟩ := hf (t + 1) c3 t3 (by omega) a1
      refine gd_lp hA hf hse hsp n _ t3 c2 t2 b2 a2 (mem3 h1 d1 (ok_lt (hsp t z).1)) (fun L hL => ?_)
      rw [tyA_app, tyA_app, h2 L hL, Option.bind_some, d2 (b :: L) (by show L.length + 1 + D ≤ 60; omega), Option.bind_some]
      exact tyA_1 ((hsp t z).2 L) (by show L.length + 1 ≤ 60; omega)
theorem gd_of (hA : Adv e f) (hf : GdR wh e f b D) (hse : ∀ t, sep t ≠ 0 → t ≠ e) (hsp : ∀ t, sep t ≠ 0 → sep t < 40 ∧ ∀ L : List Bool, tyS (sep t) (b :: b :: L) = some (b :: L)) : GdR wh e (fun t => rbd (f t) fun cs t1 => lp f sep 2000 cs t1) b (D + 1) := by
  intro t cs t' ht h
  obtain ⟨c, t1, a1, a2⟩ := rbd_i h
  obtain ⟨b1, b2, b3⟩ := hA t c t1 ht a1
  obtain ⟨d1, d2⟩ := hf t c t1 ht a1
  exact gd_lp hA hf hse hsp 2000 c t1 cs t' b2 a2 d1 (fun L hL => d2 L (by omega))
theorem ty_f {c : Nat} (h : c = 1 ∨ c = 2 ∨ c = 3 ∨ c = 4 ∨ c = 5 ∨ c = 6) (L : List Bool) : tyS c (false :: false :: L) = some (false :: L) := by
  rcases h with rfl | rfl | rfl | rfl | rfl | rfl <;> rfl
theorem ty_c {c : Nat} (h : c = 7 ∨ c = 8 ∨ c = 9) (L : List Bool) : tyS c (false :: false :: L) = some (true :: L) := by
  rcases h with rfl | rfl | rfl <;> rfl
theorem ty_t {c : Nat} (h : c = 10 ∨ c = 11) (L : List Bool) : tyS c (true :: true :: L) = some (true :: L) := by
  rcases h with rfl | rfl <;> rfl
theorem gd_prod (hE : Ends T e) (hA : Adv e f) (hf : GdR wh e f false D) : GdR wh e (prodOf T f) false (D + 1) := gd_of hA hf (fun t z => (sep_s t).1 z hE) (fun t z => by
  rcases sepM_v z with ⟨_, q⟩ | ⟨_, q⟩ <;> rw [q] <;> exact ⟨by decide, fun L => ty_f (by decide) L⟩)
theorem gd_sum (hE : Ends T e) (hA : Adv e f) (hf : GdR wh e f false D) : GdR wh e (sumOf T f) false (D + 2) := gd_of (f := prodOf T f) (prod_adv hE hA) (gd_prod hE hA hf) (fun t z => (sep_s t).2.1 z hE) (fun t z => by
  rcases sepA_v z with ⟨_, q⟩ | ⟨_, q⟩ <;> rw [q] <;> exact ⟨by decide, fun L => ty_f (by decide) L⟩)
theorem sepN_v {t : Nat} (h : sepN T t ≠ 0) : isW T t 28 = true ∧ sepN T t = 10 := by
  unfold sepN at *
  by_cases a : isW T t 28 = true
  · rw [if_pos a]; exact ⟨a, rfl⟩
  · rw [if_neg a] at h; exact absurd rfl h
theorem sepO_v {t : Nat} (h : sepO T t ≠ 0) : isW T t 27 = true ∧ sepO T t = 11 := by
  unfold sepO at *
  by_cases a : isW T t 27 = true
  · rw [if_pos a]; exact ⟨a, rfl⟩
  · rw [if_neg a] at h; exact absurd rfl h
theorem sepC_v {t : Nat} (h : sepC T t ≠ 0) : (isS T t 60 = true ∧ sepC T t = 7) ∨ (isS T t 62 = true ∧ sepC T t = 8) ∨ (isS T t 61 = true ∧ sepC T t = 9) := by
  unfold sepC at *
  by_cases a : isS T t 60 = true
  · rw [if_pos a]; exact Or.inl ⟨a, rfl⟩
  · rw [if_neg a] at h ⊢
    by_cases b : isS T t 62 = true
    · rw [if_pos b]; exact Or.inr (Or.inl ⟨b, rfl⟩)
    · rw [if_neg b] at h ⊢
      by_cases c : isS T t 61 = true
      · rw [if_pos c]; exact Or.inr (Or.inr ⟨c, rfl⟩)
      · rw [if_neg c] at h; exact absurd rfl h
theorem gd_both (hE : Ends T e) (hA : Adv e f) (hf : GdR wh e f true D) : GdR wh e (bothOf T f) true (D + 1) := gd_of hA hf (fun t z => (sep_s t).2.2.1 z hE) (fun t z => by
  rw [(sepN_v z).2]; exact ⟨by decide, fun L => ty_t (by decide) L⟩)
theorem gd_test (hE : Ends T e) (hA : Adv e f) (hf : GdR wh e f true D) : GdR wh e (testOf T f) true (D + 2) := gd_of (f := bothOf T f) (both_adv hE hA) (gd_both hE hA hf) (fun t z => (sep_s t).2.2.2.1 z hE) (fun t z => by
  rw [(sepO_v z).2]; exact ⟨by decide, fun L => ty_t (by decide) L⟩)
theorem kof_ok {t : Nat} (h : kof wh T t < 15) : okPart wh (kof wh T t) = true := by
  have h1 := kof_w h
  unfold kof at h ⊢
  rw [if_pos h1] at h ⊢
  cases q : (List.range 15).find? (fun k => okPart wh k && decide (T 6 t = nI (wdx k))) with
  | none => rw [q] at h; exact absurd h (by decide)
  | some k =>
    have := List.find?_some q
    rw [Bool.and_eq_true] at this
    exact this.1
theorem gd_leaf (hR : LexR T e) : GdR wh e (leaf wh T) false 1 := by
  intro t cs t' ht h
  unfold leaf at h
  by_cases h2 : T 3 t = 2
  · rw [if_pos h2] at h
    obtain ⟨v, v1, v2⟩ := hR.2 t ht h2
    by_cases h4 : T 5 t - T 4 t ≤ 4
    · rw [if_pos h4] at h
      obtain ⟨rfl, rfl⟩ := Prod.mk.inj (Sum.inr.inj h)
      rw [v2, nI_i (by omega), Int.toNat_natCast]
      refine ⟨fun c hc => ?_, fun L hL => tyA_1 ?_ (by show L.length + 1 ≤ 60; omega)⟩
      · rw [List.mem_singleton.mp hc]
        unfold okCode
        rw [decide_eq_true (show 1000 ≤ 1000 + v by omega)]
        simp
      · unfold tyS
        rw [if_pos (by omega), if_pos (by omega)]
    · rw [if_neg h4] at h; cases h
  · rw [if_neg h2] at h
    by_cases hk : kof wh T t < 13
    · rw [if_pos hk] at h
      obtain ⟨rfl, rfl⟩ := Prod.mk.inj (Sum.inr.inj h)
      have hok := kof_ok (T := T) (wh := wh) (t := t) (by omega)
      refine ⟨fun c hc => ?_, fun L hL => tyA_1 ?_ (by show L.length + 1 ≤ 60; omega)⟩
      · rw [List.mem_singleton.mp hc]
        unfold okCode
        rw [show 40 + kof wh T t - 40 = kof wh T t by omega, hok, decide_eq_true (show 40 ≤ 40 + kof wh T t by omega), decide_eq_true (show 40 + kof wh T t < 53 by omega)]
        simp
      · unfold tyS
        rw [if_neg (by omega), if_neg (by omega), if_pos (by omega), if_pos (by omega)]
    · rw [if_neg hk] at h; cases h
theorem gd_part (hE : Ends T e) (hR : LexR T e) : ∀ d, GdR wh e (pPart wh T d) false (3 * d + 1)
  | 0 => by
    intro t cs t' ht h
    unfold pPart at h
    by_cases h1 : isS T t 40 = true
    · rw [if_pos h1] at h; cases h
    · rw [if_neg h1] at h
      by_cases h2 : mmC T t ≠ 0
      · rw [if_pos h2] at h; have := (askS_i h).2; cases this
      · rw [if_neg h2] at h
        by_cases h3 : kof wh T t = 13 ∨ kof wh T t = 14
        · rw [if_pos h3] at h; cases h
        · rw [if_neg h3] at h; exact gd_leaf hR t cs t' ht h
  | d + 1 => by
    have ih := gd_part hE hR d
    have iha := part_adv (wh := wh) hE d
    have ihs := gd_sum hE iha ih
    have ihsa := sum_adv hE iha
    intro t cs t' ht h
    unfold pPart at h
    by_cases h1 : isS T t 40 = true
    · rw [if_pos h1] at h
      have n1 := hE.s h1
      obtain ⟨c, t1, a1, a2⟩ := rbd_i h
      obtain ⟨b1, b2⟩ := askS_i a2
      obtain ⟨rfl, rfl⟩ := Prod.mk.inj (Sum.inr.inj b2)
      obtain ⟨d1, d2⟩ := ihs (t + 1) c t1 (by omega) a1
      exact ⟨d1, fun L hL => d2 L (by omega)⟩
    · rw [if_neg h1] at h
      by_cases h2 : mmC T t ≠ 0
      · rw [if_pos h2] at h
        have n1 := mm_e hE h2
        obtain ⟨b1, b2⟩ := askS_i h
        have n2 := hE.s b1
        obtain ⟨c, t1, a1, a2⟩ := rbd_i b2
        obtain ⟨b3, b4⟩ := askS_i a2
        have n3 := hE.s b3
        obtain ⟨d1, d2, d3⟩ := ihsa (t + 2) c t1 (by omega) a1
        obtain ⟨e1, e2⟩ := ihs (t + 2) c t1 (by omega) a1
        obtain ⟨c2, t2, a3, a4⟩ := rbd_i b4
        obtain ⟨b5, b6⟩ := askS_i a4
        obtain ⟨e3, e4⟩ := ihs (t1 + 1) c2 t2 (by omega) a3
        obtain ⟨rfl, rfl⟩ := Prod.mk.inj (Sum.inr.inj b6)
        have hc : mmC T t = 5 ∨ mmC T t = 6 := by
          rcases mmC_v h2 with ⟨_, q⟩ | ⟨_, q⟩
          · exact Or.inl q
          · exact Or.inr q
        refine ⟨mem3 e1 e3 (ok_lt (by omega)), fun L hL => ?_⟩
        rw [tyA_app, tyA_app, e2 L (by omega), Option.bind_some, e4 (false :: L) (by show L.length + 1 + _ ≤ 60; omega), Option.bind_some]
        exact tyA_1 (ty_f (by omega) L) (by show L.length + 1 ≤ 60; omega)
      · rw [if_neg h2] at h
        by_cases h3 : kof wh T t = 13 ∨ kof wh T t = 14
        · rw [if_pos h3] at h
          have n1 : t ≠ e := by
            intro q
            have := kof_w (T := T) (wh := wh) (t := t) (by omega)
            rw [q, hE.1] at this; exact absurd this (by decide)
          obtain ⟨c, t1, a1, a2⟩ := rbd_i h
          obtain ⟨d1, d2⟩ := ih (t + 1) c t1 (by omega) a1
          obtain ⟨rfl, rfl⟩ := Prod.mk.inj (Sum.inr.inj a2)
          have hok := kof_ok (T := T) (wh := wh) (t := t) (by omega)
          refine ⟨mem2 d1 ?_, fun L hL => ?_⟩
          · unfold okCode
            rw [show 47 + kof wh T t - 60 + 13 = kof wh T t by omega, hok, decide_eq_true (show 60 ≤ 47 + kof wh T t by omega), decide_eq_true (show 47 + kof wh T t < 62 by omega)]
            simp
          · rw [tyA_app, d2 L (by omega), Option.bind_some]
            refine tyA_1 ?_ (by show L.length + 1 ≤ 60; omega)
            unfold tyS
            rw [if_neg (by omega), if_pos (by omega)]
            dsimp only
            rw [if_pos (by omega)]
        · rw [if_neg h3] at h
          obtain ⟨d1, d2⟩ := gd_leaf (wh := wh) hR t cs t' ht h
          exact ⟨d1, fun L hL => d2 L (by omega)⟩
theorem gd_cmp {g : Nat → Rs} (hE : Ends T e) (hA : Adv e g) (hg : GdR wh e g false D) : GdR wh e (cmpOf T g) true (D + 1) := by
  intro t cs t' ht h
  unfold cmpOf at h
  obtain ⟨c, t1, a1, a2⟩ := rbd_i h
  obtain ⟨d1, d2, d3⟩ := hA t c t1 ht a1
  obtain ⟨e1, e2⟩ := hg t c t1 ht a1
  by_cases z : sepC T t1 = 0
  · rw [if_pos z] at a2; cases a2
  · rw [if_neg z] at a2
    have n1 := (sep_s (T := T) (e := e) t1).2.2.2.2 z hE
    obtain ⟨c2, t2, a3, a4⟩ := rbd_i a2
    obtain ⟨e3, e4⟩ := hg (t1 + 1) c2 t2 (by omega) a3
    obtain ⟨rfl, rfl⟩ := Prod.mk.inj (Sum.inr.inj a4)
    have hc : sepC T t1 = 7 ∨ sepC T t1 = 8 ∨ sepC T t1 = 9 := by
      rcases sepC_v z with ⟨_, q⟩ | ⟨_, q⟩ | ⟨_, q⟩ <;> omega
    refine ⟨mem3 e1 e3 (ok_lt (by omega)), fun L hL => ?_⟩
    rw [tyA_app, tyA_app, e2 L (by omega), Option.bind_some, e4 (false :: L) (by show L.length + 1 + _ ≤ 60; omega), Option.bind_some]
    exact tyA_1 (ty_c hc L) (by show L.length + 1 ≤ 60; omega)
theorem gd_fact (hE : Ends T e) (hR : LexR T e) : ∀ d, GdR wh e (pFact wh T d) true (3 * d + 4)
  | d => by
    have hC : GdR wh e (cmpOf T (pSum wh T d)) true (3 * d + 1 + 2 + 1) := gd_cmp hE (psum_adv hE) (gd_sum hE (part_adv hE d) (gd_part hE hR d))
    have ih : d ≠ 0 → GdR wh e (pFact wh T (d - 1)) true (3 * (d - 1) + 4) := fun z => gd_fact hE hR (d - 1)
    intro t cs t' ht h
    rw [pFact_eq] at h
    by_cases h1 : isW T t 29 = true
    · rw [if_pos h1] at h
      by_cases hd : d = 0
      · rw [if_pos hd] at h; cases h
      · rw [if_neg hd] at h
        have n1 := hE.w h1
        obtain ⟨c, t1, a1, a2⟩ := rbd_i h
        obtain ⟨d1, d2⟩ := ih hd (t + 1) c t1 (by omega) a1
        obtain ⟨rfl, rfl⟩ := Prod.mk.inj (Sum.inr.inj a2)
        refine ⟨mem2 d1 (ok_lt (by decide)), fun L hL => ?_⟩
        rw [tyA_app, d2 L (by omega), Option.bind_some]
        exact tyA_1 rfl (by show L.length + 1 ≤ 60; omega)
    · rw [if_neg h1] at h
      by_cases h2 : isS T t 91 = true
      · rw [if_pos h2] at h
        by_cases hd : d = 0
        · rw [if_pos hd] at h; cases h
        · rw [if_neg hd] at h
          have n1 := hE.s h2
          obtain ⟨c, t1, a1, a2⟩ := rbd_i h
          obtain ⟨b1, b2⟩ := askS_i a2
          obtain ⟨rfl, rfl⟩ := Prod.mk.inj (Sum.inr.inj b2)
          obtain ⟨d1, d2⟩ := gd_test hE (fact_adv hE (d - 1)) (ih hd) (t + 1) c t1 (by omega) a1
          exact ⟨d1, fun L hL => d2 L (by omega)⟩
      · rw [if_neg h2] at h
        by_cases h3 : isW T t 30 = true
        · rw [if_pos h3] at h
          obtain ⟨rfl, rfl⟩ := Prod.mk.inj (Sum.inr.inj h)
          exact ⟨fun c hc => by rw [List.mem_singleton.mp hc]; exact ok_lt (by decide), fun L hL => tyA_1 rfl (by show L.length + 1 ≤ 60; omega)⟩
        · rw [if_neg h3] at h
          obtain ⟨d1, d2⟩ := hC t cs t' ht h
          exact ⟨d1, fun L hL => d2 L (by omega)⟩
termination_by d => d
decreasing_by omega
/-- a sum's codes, a test's -/
theorem gd_sum0 (hE : Ends T e) (hR : LexR T e) {t t' : Nat} {cs : List Nat} (ht : t ≤ e) (h : pSum wh T 6 t = .inr (cs, t')) : tyA cs [] = some [false] ∧ ∀ c ∈ cs, okCode wh c = true := by
  obtain ⟨h1, h2⟩ := gd_sum hE (part_adv hE 6) (gd_part (wh := wh) hE hR 6) t cs t' ht h
  exact ⟨h2 [] (by decide), h1⟩
theorem gd_test0 (hE : Ends T e) (hR : LexR T e) {t t' : Nat} {cs : List Nat} (ht : t ≤ e) (h : pTest wh T 6 t = .inr (cs, t')) : tyA cs [] = some [true] ∧ ∀ c ∈ cs, okCode wh c = true := by
  obtain ⟨h1, h2⟩ := gd_test hE (fact_adv hE 6) (gd_fact (wh := wh) hE hR 6) t cs t' ht h
  exact ⟨h2 [] (by decide), h1⟩
end GD
