/-! THE REFERENCE goes along the text -/
def rlX : Nat → Nat → Bool := fun a k => a == 94 && (k == 2 || k == 4 || k == 5 || k == 6 || k == 10 || k == 44)
def RB (b : Nat → Int32) (n : Nat) (M : sMem) : Prop := RefS M.1 M.2.2.2 ∧ RWd M ∧ M.2.1 94 3 = nI n ∧ ∀ i, i < n → M.2.1 95 i = b i
def RS (T : Tk) (e : Nat) (sa sz : Nat → Nat) (M : sMem) : Cs → Prop
  | .inl q => M.2.1 94 5 = q.1 ∧ M.2.1 94 6 = q.2 ∧ q.1 ≠ 0
  | .inr t => M.2.1 94 5 = 0 ∧ t ≤ e ∧ (∃ a, M.2.1 94 2 = nI a ∧ pv sz t ≤ a ∧ a ≤ sa t) ∧ En T sa sz t (M.2.1 94 4) ∧ M.2.1 94 6 = mI
def RSl (T : Tk) (e : Nat) (sa sz : Nat → Nat) (M : sMem) (t : Nat) : Prop := RS T e sa sz M (.inr t) ∧ M.2.1 94 2 = nI (sa t)
def chr (b : Nat → Int32) (e : Nat) (sa : Nat → Nat) (t : Nat) : Int32 := if t = e then mI else b (sa t)
section RX
variable {b : Nat → Int32} {n e t c : Nat} {T : Tk} {sa sz : Nat → Nat} {M N : sMem} {s : Cs}
theorem RB.fr {P Q : Nat → Nat → Bool} (h : RB b n M) (hF : Fr P Q M N) (h3 : P 94 3 = false) (hc : ∀ c, (95 ≤ c ∧ c < 130) ∨ (156 ≤ c ∧ c < 183) → ∀ k, P c k = false) : RB b n N := by
  refine ⟨hF.hs h.1, fun c hw i hi => ?_, by rw [hF.i h3]; exact h.2.2.1, fun i hi => by rw [hF.i (hc 95 (by decide) i)]; exact h.2.2.2 i hi⟩
  rw [hF.i (hc c (by unfold isWc at hw; omega) i)]; exact h.2.1 c hw i hi
theorem rlX_c {c : Nat} (h : (95 ≤ c ∧ c < 130) ∨ (156 ≤ c ∧ c < 183)) (k : Nat) : rlX c k = false := by
  unfold rlX; rw [beq_eq_false_iff_ne.mpr (show c ≠ 94 by omega)]; rfl
theorem RB.rl (h : RB b n M) (hF : Fr rlX q0 M N) : RB b n N := h.fr hF rfl (fun c hc k => rlX_c hc k)
theorem r_fail (hB : RB b n M) (hS : RS T e sa sz M s) (k p : Int32) (hk : k ≠ 0) : ∃ N, f_X12_fail 94 k p M = some N ∧ Fr rlX q0 M N ∧ RS T e sa sz N (cbd s fun _ => .inl (k, p)) := by
  unfold f_X12_fail
  rw [sr94 hB.1, gi94 hB.1, Option.bind_some]
  match s, hS with
  | .inl q, hS =>
    rw [hS.1, if_neg hS.2.2]
    exact ⟨M, rfl, Fr.rf, hS⟩
  | .inr t, hS =>
    rw [hS.1, if_pos rfl, pi94 hB.1, Option.bind_some, pi94 (M := wrI M 94 5 k) hB.1, Option.bind_some]
    exact ⟨_, rfl, (Fr.rf.wi rfl).wi rfl, by rw [wrI_ne (by omega), wrI_eq], wrI_eq, hk⟩
theorem r_fail0 (hB : RB b n M) (h5 : M.2.1 94 5 = 0) (k p : Int32) (hk : k ≠ 0) : ∃ N, f_X12_fail 94 k p M = some N ∧ Fr rlX q0 M N ∧ RS T e sa sz N (.inl (k, p)) := by
  unfold f_X12_fail
  rw [sr94 hB.1, gi94 hB.1, Option.bind_some, h5, if_pos rfl, pi94 hB.1, Option.bind_some, pi94 (M := wrI M 94 5 k) hB.1, Option.bind_some]
  exact ⟨_, rfl, (Fr.rf.wi rfl).wi rfl, by rw [wrI_ne (by omega), wrI_eq], wrI_eq, hk⟩
theorem r_look (hL : Lex b n T e sa sz) (hB : RB b n M) (hS : RS T e sa sz M (.inr t)) : ∃ N, f_X12_look 94 M = some (chr b e sa t, N) ∧ Fr rlX q0 M N ∧ RSl T e sa sz N t := by
  obtain ⟨s1, s2, ⟨a, a1, a2, a3⟩, s4, s5⟩ := hS
  have hl := hL.2.2.2.1 t s2
  have hn := hL.2.1
  have hsn : sa t ≤ n := by omega
  unfold f_X12_look f_X12_look_L0
  rw [sr94 hB.1]
  obtain ⟨N, k1, k2, k3⟩ := itr_g (f := fun x : sMem => f_X12_look_K0 94 x) (fun _ (x : sMem) => x) (fun k N => a ≤ k ∧ k ≤ sa t ∧ Fr (fun x i => x == 94 && i == 2) q0 M N ∧ N.2.1 94 2 = nI k) (fun N => Fr (fun x i => x == 94 && i == 2) q0 M N ∧ N.2.1 94 2 = nI (sa t)) (sa t) (by omega) (i := a) (s := M) (by
    rintro k N hk ⟨j1, j2, j3, j4⟩
    have hsN := j3.hs hB.1
    have h3 : N.2.1 94 3 = nI n := by rw [j3.i rfl]; exact hB.2.2.1
    have h95 : ∀ i, i < n → N.2.1 95 i = b i := fun i hi => by rw [j3.i rfl]; exact hB.2.2.2 i hi
    try dsimp only
    unfold f_X12_look_K0
    rw [gi94 hsN, Option.bind_some, gi94 hsN, Option.bind_some, h3, j4]
    by_cases hkn : n ≤ k
    · right
      have : k = sa t := by omega
      rw [if_pos (by rw [cle (by omega) (by omega)]; exact hkn)]
      exact ⟨N, rfl, j3, by rw [j4, this]⟩
    · rw [if_neg (by rw [cle (by omega) (by omega)]; exact hkn), gr94_0 hsN, Option.bind_some, Option.bind_some, ld95 hsN (by omega), Option.bind_some, h95 k (by omega)]
      by_cases hks : k = sa t
      · right
        have hte : t < e := by
          rcases Nat.lt_or_ge t e with q | q
          · exact q
          · have : t = e := by omega
            have := hL.2.2.1; subst t; omega
        have hb := of_decide_eq_false (hL.2.2.2.2.1 t hte).2.1
        rw [hks, if_neg (fun z => hb (Or.inl z)), Option.bind_some, Option.bind_some, ld95 hsN (by omega), Option.bind_some, h95 _ (by omega), if_neg (fun z => hb (Or.inr z))]
        exact ⟨N, rfl, j3, by rw [j4, hks]⟩
      · left
        have hb := of_decide_eq_true (hl.2.2.2.2.2 k (by omega) (by omega))
        have eB : f_X12_look_B39 94 N = some (.inl (wrI N 94 2 (nI (k + 1)))) := by
          unfold f_X12_look_B39
          rw [gi94 hsN, Option.bind_some, j4, nI_1, pi94 hsN, Option.bind_some]
        refine ⟨by omega, wrI N 94 2 (nI (k + 1)), ?_, by omega, by omega, j3.wi rfl, wrI_eq⟩
        by_cases h10 : b k = 10
        · rw [if_pos h10, eB]
        · have h32 : b k = 32 := by
            rcases hb with z | z
            · exact absurd z h10
            · exact z
          rw [if_neg h10, Option.bind_some, Option.bind_some, ld95 hsN (by omega), Option.bind_some, h95 k (by omega), if_pos h32, eB]) (by omega) ⟨Nat.le_refl _, a3, Fr.rf, a1⟩
  have hF : Fr rlX q0 M N := k2.mono (fun x i z => by
    unfold rlX at z
    cases h9 : (x == 94) with
    | false => rfl
    | true =>
      rw [h9] at z
      cases h2 : (i == 2) with
      | false => rfl
      | true => rw [h2] at z; exact absurd z (by simp)) (fun _ _ z => z)
  rw [k1, Option.bind_some]
  have hsN := hF.hs hB.1
  have hBN := hB.rl hF
  refine ⟨N, ?_, hF, ⟨⟨by rw [k2.i rfl]; exact s1, s2, ⟨sa t, k3, by omega, Nat.le_refl _⟩, by rw [k2.i rfl]; exact s4, by rw [k2.i rfl]; exact s5⟩, k3⟩⟩
  unfold f_X12_look_B52 chr
  rw [gi94 hsN, Option.bind_some, gi94 hsN, Option.bind_some, hBN.2.2.1, k3]
  by_cases hte : t = e
  · have := hL.2.2.1
    rw [if_pos (by rw [cle (by omega) (by omega), hte]; omega), if_pos hte]; rfl
  · have := (hL.2.2.2.2.1 t (by omega)).1
    rw [if_neg (by rw [cle (by omega) (by omega)]; omega), gr94_0 hsN, Option.bind_some, Option.bind_some, ld95 hsN (by omega), Option.bind_some, hBN.2.2.2 _ this, if_neg hte]
theorem r_isLetter (x : Int32) : f_X12_isLetter x M = some (bI (isL x = true)) := by
  unfold f_X12_isLetter isL
  by_cases h1 : x < 97
  · rw [if_pos h1, bI_f (fun z => absurd (of_decide_eq_true z).1 (Int32.not_le.mpr h1))]
  · rw [if_neg h1]
    by_cases h2 : (122 : Int32) < x
    · rw [if_pos h2, bI_f (fun z => absurd (of_decide_eq_true z).2 (Int32.not_le.mpr h2))]
    · rw [if_neg h2, bI_t (decide_eq_true ⟨Int32.not_lt.mp h1, Int32.not_lt.mp h2⟩)]
theorem r_isDigit (x : Int32) : f_X12_isDigit x M = some (bI (isD x = true)) := by
  unfold f_X12_isDigit isD
  by_cases h1 : x < 48
  · rw [if_pos h1, bI_f (fun z => absurd (of_decide_eq_true z).1 (Int32.not_le.mpr h1))]
  · rw [if_neg h1]
    by_cases h2 : (57 : Int32) < x
    · rw [if_pos h2, bI_f (fun z => absurd (of_decide_eq_true z).2 (Int32.not_le.mpr h2))]
    · rw [if_neg h2, bI_t (decide_eq_true ⟨Int32.not_lt.mp h1, Int32.not_lt.mp h2⟩)]
/-- which token is here, by its first byte -/
theorem Lex.lt (hL : Lex b n T e sa sz) (hte : t ≤ e) (h : isL (chr b e sa t) = true) : t < e ∧ LexW b n T sa sz t := by
  unfold chr at h
  by_cases q : t = e
  · rw [if_pos q, isL_m] at h; cases h
  · rw [if_neg q] at h
    have hlt : t < e := by omega
    refine ⟨hlt, ?_⟩
    rcases (hL.2.2.2.2.1 t hlt).2.2 with w | w | w
    · exact w
    · have := w.1; rw [isL_D h] at this; cases this
    · have := w.1; rw [h] at this; cases this
theorem Lex.nl (hL : Lex b n T e sa sz) (hte : t ≤ e) (h : isL (chr b e sa t) = false) : T 3 t ≠ 1 := by
  intro z
  have hlt := hL.ne hte (by rw [z]; decide)
  have := (hL.k1 hlt z).1
  unfold chr at h
  rw [if_neg (by omega), this] at h; cases h
theorem Lex.dt (hL : Lex b n T e sa sz) (hte : t ≤ e) (h : isD (chr b e sa t) = true) : t < e ∧ LexN b n T sa sz t := by
  unfold chr at h
  by_cases q : t = e
  · rw [if_pos q, isD_m] at h; cases h
  · rw [if_neg q] at h
    have hlt : t < e := by omega
    refine ⟨hlt, ?_⟩
    rcases (hL.2.2.2.2.1 t hlt).2.2 with w | w | w
    · have := isL_D w.1; rw [h] at this; cases this
    · exact w
    · have := w.2.1; rw [h] at this; cases this
theorem Lex.nd (hL : Lex b n T e sa sz) (hte : t ≤ e) (h : isD (chr b e sa t) = false) : T 3 t ≠ 2 := by
  intro z
  have hlt := hL.ne hte (by rw [z]; decide)
  have := (hL.k2 hlt z).1
  unfold chr at h
  rw [if_neg (by omega), this] at h; cases h
/-- a word is here -/
theorem r_isHere (hL : Lex b n T e sa sz) (hB : RB b n M) (hc : isWc c) (hS : RS T e sa sz M (.inr t)) : ∃ N, f_X12_isHere 94 c M = some (bI (isW T t (wdc c) = true), N) ∧ Fr rlX q0 M N ∧ RSl T e sa sz N t := by
  obtain ⟨N, l1, l2, l3⟩ := r_look hL hB hS
  have hte := hS.2.1
  have hsN := l2.hs hB.1
  have hBN := hB.rl l2
  have hn := hL.2.1
  obtain ⟨w1, w2, w3, w4⟩ := wc_sh hc
  have hsh : N.1[c]? = some (13, (wdl (wdc c)).length) := hsN.1 _ w1
  refine ⟨N, ?_, l2, l3⟩
  unfold f_X12_isHere
  rw [sr94 hB.1, gi94 hB.1, Option.bind_some, hS.1, if_pos rfl, l1]
  dsimp only [Option.bind_some]
  rw [r_isLetter, Option.bind_some]
  cases hlt : isL (chr b e sa t) with
  | false =>
    have := hL.nl hte hlt
    rw [bI_f (by decide), if_pos rfl, bI_f (fun z => this (isW_v z).1)]
  | true =>
    obtain ⟨ht, hW⟩ := hL.lt hte hlt
    have hl := hL.2.2.2.1 t hte
    rw [bI_t rfl, if_neg (by decide), gi94 hsN, Option.bind_some, gi94 hsN, Option.bind_some, l3.2]
    have hglue := hL.2.2.2.2.2 t ht (by rcases hW.2.2.2.2.1 with z | z <;> rw [z] <;> decide)
    have hen := l3.1.2.2.2.1.2
    by_cases hg : nI (sa t) = N.2.1 94 4
    · have h4 : T 3 t = 4 := hglue.mpr (hen.mp hg)
      rw [if_pos hg, bI_f (fun z => by have := (isW_v z).1; rw [h4] at this; exact absurd this (by decide))]
    · have h1 : T 3 t = 1 := by
        rcases hW.2.2.2.2.1 with z | z
        · exact z
        · exact absurd (hen.mpr (hglue.mp z)) hg
      rw [if_neg hg, Option.bind_some]
      unfold f_X12_isHere_L35
      obtain ⟨r, k1, k2⟩ := itr_up0 (f := fun x : Int32 => f_X12_isHere_K35 94 c x N) (fun k => sa t ≤ k ∧ k ≤ sz t) (fun r => r = nI (sz t)) (sz t) (by omega) (i := sa t) (by
        rintro k hk ⟨j1, j2⟩
        try dsimp only
        unfold f_X12_isHere_K35
        rw [gi94 hsN, Option.bind_some, hBN.2.2.1]
        by_cases hkn : n ≤ k
        · right
          have : k = sz t := by omega
          rw [if_pos (by rw [cle (by omega) (by omega)]; exact hkn)]
          exact ⟨_, rfl, by rw [this]⟩
        · rw [if_neg (by rw [cle (by omega) (by omega)]; exact hkn), gr94_0 hsN, Option.bind_some, ld95 hsN (by omega), Option.bind_some, hBN.2.2.2 k (by omega), r_isLetter, Option.bind_some]
          by_cases hks : k = sz t
          · right
            have hb : isL (b k) = false := by
              rcases hW.2.2.2.1 with z | z
              · omega
              · rw [hks]; exact z
            rw [hb, bI_f (by decide), if_pos rfl]
            exact ⟨_, rfl, by rw [hks]⟩
          · left
            rw [hW.2.2.1 k j1 (by omega), bI_t rfl, if_neg (by decide), nI_1]
            exact ⟨by omega, rfl, by omega, by omega⟩) (by omega) ⟨Nat.le_refl _, by omega⟩
      try dsimp only at k1
      rw [k1, Option.bind_some, k2]
      unfold f_X12_isHere_B61
      rw [gi94 hsN, Option.bind_some, l3.2, aL_of hsh, Option.bind_some, nsub (by omega)]
      have hiff := hW.2.2.2.2.2.2 (wdc c) w2
      by_cases hlen : sz t - sa t = (wdl (wdc c)).length
      · rw [if_pos (by rw [hlen])]
        unfold f_X12_isHere_L76
        obtain ⟨r, k3, k4⟩ := itr_up0 (f := fun x : Int32 => f_X12_isHere_K76 94 c x N) (fun k => k ≤ (wdl (wdc c)).length ∧ ∀ (i : Nat) (h : i < (wdl (wdc c)).length), i < k → b (sa t + i) = nI (wdl (wdc c))[i]) (fun r => r = (bI (isW T t (wdc c) = true), N)) (wdl (wdc c)).length (by omega) (i := 0) (by
          rintro k hk ⟨j1, j2⟩
          try dsimp only
          unfold f_X12_isHere_K76
          rw [aL_of hsh, Option.bind_some]
          by_cases hkn : (wdl (wdc c)).length ≤ k
          · right
            rw [if_pos (by rw [cle (by omega) (by omega)]; exact hkn)]
            have hW1 : isW T t (wdc c) = true := decide_eq_true ⟨h1, hiff.mpr ⟨by omega, fun i hi => j2 i hi (by omega)⟩⟩
            exact ⟨_, rfl, by rw [bI_t hW1]⟩
          · rw [if_neg (by rw [cle (by omega) (by omega)]; exact hkn), gr94_0 hsN, Option.bind_some, gi94 hsN, Option.bind_some, l3.2, nI_add, ld95 hsN (by omega), Option.bind_some, hBN.2.2.2 _ (by omega), ldI_n hsh (by omega) (by omega), Option.bind_some, hBN.2.1 c hc k (by omega)]
            by_cases hbk : b (sa t + k) = nI (wdl (wdc c))[k]
            · left
              rw [if_pos hbk, nI_1]
              refine ⟨by omega, rfl, by omega, fun i hi hik => ?_⟩
              by_cases hik2 : i = k
              · subst hik2; exact hbk
              · exact j2 i hi (by omega)
            · right
              rw [if_neg hbk]
              refine ⟨_, rfl, ?_⟩
              rw [bI_f (fun z => hbk ((hiff.mp (isW_v z).2).2 k (by omega)))]) (Nat.zero_le _) ⟨Nat.zero_le _, fun i hi h => by omega⟩
        try dsimp only at k3
        rw [show (0 : Int32) = nI 0 from rfl, k3, Option.bind_some, k4]
      · rw [if_neg (by rw [nI_eq (by omega) (by omega)]; exact hlen), bI_f (fun z => hlen (by have := (hiff.mp (isW_v z).2).1; omega))]
theorem r_takes_y (hL : Lex b n T e sa sz) (hB : RB b n M) (hc : isWc c) (hS : RS T e sa sz M (.inr t)) (hw : isW T t (wdc c) = true) : ∃ N, f_X12_takes 94 c M = some (1, N) ∧ Fr rlX q0 M N ∧ RS T e sa sz N (.inr (t + 1)) := by
  obtain ⟨N, l1, l2, l3⟩ := r_isHere hL hB hc hS
  have hsN := l2.hs hB.1
  obtain ⟨w1, w2, w3, w4⟩ := wc_sh hc
  have hsh : N.1[c]? = some (13, (wdl (wdc c)).length) := hsN.1 _ w1
  have hte := hS.2.1
  have hlt := hL.ne hte (by rw [(isW_v hw).1]; decide)
  have hW := hL.k1 hlt (isW_v hw).1
  have hz := ((hW.2.2.2.2.2.2 (wdc c) w2).mp (isW_v hw).2).1
  have hl := hL.2.2.2.1 t hte
  unfold f_X12_takes
  rw [sr94 hB.1, l1]
  dsimp only [Option.bind_some]
  rw [bI_t hw, if_neg (by decide), gi94 hsN, Option.bind_some, aL_of hsh, Option.bind_some, l3.2, nI_add, ← hz, pi94 hsN, Option.bind_some, gi94 (M := wrI N 94 2 (nI (sz t))) hsN, Option.bind_some, wrI_eq, pi94 (M := wrI N 94 2 (nI (sz t))) hsN, Option.bind_some]
  refine ⟨_, rfl, (l2.wi rfl).wi rfl, ?_, by omega, ⟨sz t, by rw [wrI_ne (by omega), wrI_eq], by rw [pv_s]; omega, (hL.2.2.2.1 (t + 1) (by omega)).2.2.2.2.1⟩, ?_, ?_⟩
  · rw [wrI_ne (by omega), wrI_ne (by omega)]; exact l3.1.1
  · rw [wrI_eq]; exact En.w hL hlt (by rw [(isW_v hw).1]; decide)
  · rw [wrI_ne (by omega), wrI_ne (by omega)]; exact l3.1.2.2.2.2
theorem r_takes_n (hL : Lex b n T e sa sz) (hB : RB b n M) (hc : isWc c) (hS : RS T e sa sz M (.inr t)) (hw : ¬ isW T t (wdc c) = true) : ∃ N, f_X12_takes 94 c M = some (0, N) ∧ Fr rlX q0 M N ∧ RSl T e sa sz N t := by
  obtain ⟨N, l1, l2, l3⟩ := r_isHere hL hB hc hS
  unfold f_X12_takes
  rw [sr94 hB.1, l1]
  dsimp only [Option.bind_some]
  rw [bI_f hw, if_pos rfl]
  exact ⟨N, rfl, l2, l3⟩
theorem r_takes_b (hB : RB b n M) {q : Int32 × Int32} (hS : RS T e sa sz M (.inl q)) : f_X12_takes 94 c M = some (0, M) := by
  unfold f_X12_takes f_X12_isHere
  rw [sr94 hB.1, sr94 hB.1, gi94 hB.1, Option.bind_some, hS.1, if_neg hS.2.2]
  rfl
theorem Lex.t4 (hL : Lex b n T e sa sz) (hte : t ≤ e) : T 4 t = nI (sa t) := (hL.2.2.2.1 t hte).1
theorem r_asks (hL : Lex b n T e sa sz) (hB : RB b n M) (hc : isWc c) (hS : RS T e sa sz M s) : ∃ N, f_X12_asks 94 c M = some N ∧ Fr rlX q0 M N ∧ RS T e sa sz N (ndW T (nI (wdc c)) s) := by
  unfold f_X12_asks
  rw [sr94 hB.1, gi94 hB.1, Option.bind_some]
  match s, hS with
  | .inl q, hS =>
    rw [hS.1, if_neg hS.2.2]
    exact ⟨M, rfl, Fr.rf, hS⟩
  | .inr t, hS =>
    rw [hS.1, if_pos rfl]
    show ∃ N, _ ∧ _ ∧ RS T e sa sz N (if T 3 t = 1 ∧ T 6 t = nI (wdc c) then .inr (t + 1) else .inl (1, T 4 t))
    by_cases hw : isW T t (wdc c) = true
    · obtain ⟨N, a1, a2, a3⟩ := r_takes_y hL hB hc hS hw
      rw [a1]
      dsimp only [Option.bind_some]
      rw [if_neg (by decide), if_pos (isW_v hw)]
      exact ⟨N, rfl, a2, a3⟩
    · obtain ⟨N, a1, a2, a3⟩ := r_takes_n hL hB hc hS hw
      have hBN := hB.rl a2
      obtain ⟨O, b1, b2, b3⟩ := r_fail hBN a3.1 1 (nI (sa t)) (by decide)
      rw [a1]
      dsimp only [Option.bind_some]
      rw [if_pos rfl, gi94 hBN.1, Option.bind_some, a3.2, b1, if_neg (fun z => hw (decide_eq_true z)), hL.t4 hS.2.1]
      exact ⟨O, rfl, a2.tr b2, b3⟩
/-- a sign's byte -/
def sgB (c : Nat) : Prop := isL (nI c) = false ∧ isD (nI c) = false ∧ c < 256
theorem chr_S (hL : Lex b n T e sa sz) (hte : t ≤ e) (hc : sgB c) : chr b e sa t = nI c ↔ isS T t c = true := by
  unfold chr
  have hcc := hc.2.2
  by_cases q : t = e
  · rw [if_pos q]
    refine ⟨fun z => ?_, fun z => absurd q (hL.1.s z)⟩
    rw [cneg' (by omega)] at z; exact z.elim
  · rw [if_neg q]
    have hlt : t < e := by omega
    refine ⟨fun z => ?_, fun z => ?_⟩
    · rcases (hL.2.2.2.2.1 t hlt).2.2 with w | w | w
      · have := w.1; rw [z, hc.1] at this; cases this
      · have := w.1; rw [z, hc.2.1] at this; cases this
      · exact decide_eq_true ⟨w.2.2.1, by rw [w.2.2.2.1, z]⟩
    · have w := hL.k3 hlt (isS_v z).1
      rw [← w.2.2.2.1]; exact (isS_v z).2
theorem r_step1 (hL : Lex b n T e sa sz) (hB : RB b n M) (hS : RSl T e sa sz M t) (hs : isS T t c = true) : Fr rlX q0 M (wrI M 94 2 (nI (sa t) + 1)) ∧ RS T e sa sz (wrI M 94 2 (nI (sa t) + 1)) (.inr (t + 1)) := by
  have hte := hS.1.2.1
  have hlt := hL.ne hte (by rw [(isS_v hs).1]; decide)
  have w := hL.k3 hlt (isS_v hs).1
  have hl := hL.2.2.2.1 t hte
  refine ⟨Fr.rf.wi rfl, ?_, by omega, ⟨sz t, by rw [wrI_eq, nI_1, w.2.2.2.2], by rw [pv_s]; omega, (hL.2.2.2.1 (t + 1) (by omega)).2.2.2.2.1⟩, ?_, ?_⟩
  · rw [wrI_ne (by omega)]; exact hS.1.1
  · rw [wrI_ne (by omega)]; exact En.s hL hlt (isS_v hs).1 hS.1.2.2.2.1
  · rw [wrI_ne (by omega)]; exact hS.1.2.2.2.2
theorem r_sgn_y (hL : Lex b n T e sa sz) (hB : RB b n M) (hc : sgB c) (hS : RS T e sa sz M (.inr t)) (hs : isS T t c = true) {z : Int32} (hz : z = nI c) : ∃ N, f_X12_takesSign 94 z M = some (1, N) ∧ Fr rlX q0 M N ∧ RS T e sa sz N (.inr (t + 1)) ∧ N.2.1 94 2 = nI (sa t + 1) := by
  obtain ⟨N, l1, l2, l3⟩ := r_look hL hB hS
  have hsN := l2.hs hB.1
  have hte := hS.2.1
  obtain ⟨k1, k2⟩ := r_step1 hL (hB.rl l2) l3 hs
  unfold f_X12_takesSign
  rw [sr94 hB.1, gi94 hB.1, Option.bind_some, hS.1, if_pos rfl, l1]
  dsimp only [Option.bind_some]
  rw [if_pos (by rw [hz]; exact (chr_S hL hte hc).mpr hs), gi94 hsN, Option.bind_some, l3.2, pi94 hsN, Option.bind_some]
  exact ⟨_, rfl, l2.tr k1, k2, by rw [wrI_eq, nI_1]⟩
theorem r_sgn_n (hL : Lex b n T e sa sz) (hB : RB b n M) (hc : sgB c) (hS : RS T e sa sz M (.inr t)) (hs : ¬ isS T t c = true) {z : Int32} (hz : z = nI c) : ∃ N, f_X12_takesSign 94 z M = some (0, N) ∧ Fr rlX q0 M N ∧ RSl T e sa sz N t := by
  obtain ⟨N, l1, l2, l3⟩ := r_look hL hB hS
  have hte := hS.2.1
  unfold f_X12_takesSign
  rw [sr94 hB.1, gi94 hB.1, Option.bind_some, hS.1, if_pos rfl, l1]
  dsimp only [Option.bind_some]
  rw [if_neg (fun q => hs ((chr_S hL hte hc).mp (by rw [q, hz])))]
  exact ⟨N, rfl, l2, l3⟩
theorem r_sgn_b (hB : RB b n M) {q : Int32 × Int32} (hS : RS T e sa sz M (.inl q)) (z : Int32) : f_X12_takesSign 94 z M = some (0, M) := by
  unfold f_X12_takesSign
  rw [sr94 hB.1, gi94 hB.1, Option.bind_some, hS.1, if_neg hS.2.2]
theorem r_asksS (hL : Lex b n T e sa sz) (hB : RB b n M) (hc : sgB c) (hS : RS T e sa sz M s) {z : Int32} (hz : z = nI c) : ∃ N, f_X12_asksSign 94 z M = some N ∧ Fr rlX q0 M N ∧ RS T e sa sz N (ndS T c s) := by
  unfold f_X12_asksSign
  rw [sr94 hB.1, gi94 hB.1, Option.bind_some]
  match s, hS with
  | .inl q, hS =>
    rw [hS.1, if_neg hS.2.2]
    exact ⟨M, rfl, Fr.rf, hS⟩
  | .inr t, hS =>
    rw [hS.1, if_pos rfl]
    show ∃ N, _ ∧ _ ∧ RS T e sa sz N (if isS T t c = true then .inr (t + 1) else .inl (1, T 4 t))
    by_cases hw : isS T t c = true
    · obtain ⟨N, a1, a2, a3, _⟩ := r_sgn_y hL hB hc hS hw hz
      rw [a1]
      dsimp only [Option.bind_some]
      rw [if_neg (by decide), if_pos hw]
      exact ⟨N, rfl, a2, a3⟩
    · obtain ⟨N, a1, a2, a3⟩ := r_sgn_n hL hB hc hS hw hz
      have hBN := hB.rl a2
      obtain ⟨O, b1, b2, b3⟩ := r_fail hBN a3.1 1 (nI (sa t)) (by decide)
      rw [a1]
      dsimp only [Option.bind_some]
      rw [if_pos rfl, gi94 hBN.1, Option.bind_some, a3.2, b1, if_neg hw, hL.t4 hS.2.1]
      exact ⟨O, rfl, a2.tr b2, b3⟩
end RX
