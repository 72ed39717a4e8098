/-- what is cut so far: c tokens, up to byte k -/
def PLx (b : Nat → Int32) (n : Nat) (T : Tk) (sa sz : Nat → Nat) (c k : Nat) : Prop :=
  c ≤ k ∧ k ≤ n ∧ pv sz c ≤ k ∧ (∀ i, pv sz c ≤ i → i < k → isK (b i) = true) ∧
  (∀ t, t < c → T 4 t = nI (sa t) ∧ T 5 t = nI (sz t) ∧ sa t ≤ sz t ∧ sz t ≤ n ∧ pv sz t ≤ sa t ∧ (∀ i, pv sz t ≤ i → i < sa t → isK (b i) = true) ∧ sa t < n ∧ isK (b (sa t)) = false ∧ (LexW b n T sa sz t ∨ LexN b n T sa sz t ∨ LexS b n T sa sz t)) ∧
  ∀ t, t < c → T 3 t ≠ 3 → (T 3 t = 4 ↔ (0 < t ∧ T 3 (t - 1) ≠ 3 ∧ sz (t - 1) = sa t))
def tkX : Nat → Nat → Bool := fun a k => (decide (3 ≤ a) && decide (a ≤ 6)) || (a == 1 && k == 6)
section CLY
variable {b : Nat → Int32} {n k c t : Nat} {M N : sMem} {T T' : Tk} {sa sz : Nat → Nat}
theorem CT.fr {P Q : Nat → Nat → Bool} (h : CT b n M) (hF : Fr P Q M N) (h1 : P 1 1 = false) (h2 : ∀ i, P 2 i = false) : CT b n N := ⟨hF.hc h.1, by rw [hF.i h1]; exact h.2.1, h.2.2.1, fun i hi => by rw [hF.i (h2 i)]; exact h.2.2.2 i hi⟩
theorem CT.tk (h : CT b n M) (hF : Fr tkX q0 M N) : CT b n N := h.fr hF rfl (fun i => rfl)
theorem c_note (hc : ClsS M.1 M.2.2.2) (h6 : M.2.1 1 6 = nI c) (hcc : c < 1601) (x y z w : Int32) : ∃ N, f_X10_note 1 x y z w M = some N ∧ Fr tkX q0 M N ∧ N.2.1 1 6 = nI (c + 1) ∧ (N.2.1 3 c = x ∧ N.2.1 4 c = y ∧ N.2.1 5 c = z ∧ N.2.1 6 c = w) ∧ ∀ a i, 3 ≤ a → a ≤ 6 → i ≠ c → N.2.1 a i = M.2.1 a i := by
  unfold f_X10_note
  have g1 : ClsS (wrI M 3 c x).1 (wrI M 3 c x).2.2.2 := hc
  have g2 : ClsS (wrI (wrI M 3 c x) 4 c y).1 (wrI (wrI M 3 c x) 4 c y).2.2.2 := hc
  have g3 : ClsS (wrI (wrI (wrI M 3 c x) 4 c y) 5 c z).1 (wrI (wrI (wrI M 3 c x) 4 c y) 5 c z).2.2.2 := hc
  have g4 : ClsS (wrI (wrI (wrI (wrI M 3 c x) 4 c y) 5 c z) 6 c w).1 (wrI (wrI (wrI (wrI M 3 c x) 4 c y) 5 c z) 6 c w).2.2.2 := hc
  rw [sr1 hc, gi1 hc, Option.bind_some, gr1_2 hc, Option.bind_some, al3 hc, Option.bind_some, h6, if_neg (by rw [cle (by omega) (by omega)]; omega), Option.bind_some, Option.bind_some, st3 hc hcc, Option.bind_some,
    gr1_3 g1, Option.bind_some, gi1 g1, Option.bind_some, wrI_ne (by omega), h6, st4 g1 hcc, Option.bind_some, gr1_4 g2, Option.bind_some, gi1 g2, Option.bind_some, wrI_ne (by omega), wrI_ne (by omega), h6, st5 g2 hcc, Option.bind_some,
    gr1_5 g3, Option.bind_some, gi1 g3, Option.bind_some, wrI_ne (by omega), wrI_ne (by omega), wrI_ne (by omega), h6, st6 g3 hcc, Option.bind_some, gi1 g4, Option.bind_some, wrI_ne (by omega), wrI_ne (by omega), wrI_ne (by omega), wrI_ne (by omega), h6, nI_1, pi1 g4, Option.bind_some]
  refine ⟨_, rfl, ((((Fr.rf.wi rfl).wi rfl).wi rfl).wi rfl).wi rfl, wrI_eq, ⟨?_, ?_, ?_, ?_⟩, fun a i h1 h2 h3 => ?_⟩
  · rw [wrI_ne (by omega), wrI_ne (by omega), wrI_ne (by omega), wrI_ne (by omega), wrI_eq]
  · rw [wrI_ne (by omega), wrI_ne (by omega), wrI_ne (by omega), wrI_eq]
  · rw [wrI_ne (by omega), wrI_ne (by omega), wrI_eq]
  · rw [wrI_ne (by omega), wrI_eq]
  · rw [wrI_ne (by omega), wrI_ne (by omega), wrI_ne (by omega), wrI_ne (by omega), wrI_ne (by omega)]
theorem c_glued (hc : ClsS M.1 M.2.2.2) (h6 : M.2.1 1 6 = nI c) (hcc : c < 1601) (x : Int32) : f_X10_isGlued 1 x M = some (bI (0 < c ∧ M.2.1 3 (c - 1) ≠ 3 ∧ M.2.1 5 (c - 1) = x)) := by
  unfold f_X10_isGlued
  rw [sr1 hc, gi1 hc, Option.bind_some, h6]
  by_cases h0 : c = 0
  · rw [if_pos (by rw [h0]; decide), bI_f (by omega)]
  · have e1 : nI c - (1 : Int32) = nI (c - 1) := by rw [show (1 : Int32) = nI 1 from rfl, nsub (by omega)]
    rw [if_neg (by rw [show (0 : Int32) = nI 0 from rfl, cle (by omega) (by omega)]; omega), gr1_2 hc, Option.bind_some, Option.bind_some, e1, ld3 hc (by omega), Option.bind_some]
    by_cases h3 : M.2.1 3 (c - 1) = 3
    · rw [if_pos h3, bI_f (fun z => z.2.1 h3)]
    · rw [if_neg h3, gr1_4 hc, Option.bind_some, Option.bind_some, e1, ld5 hc (by omega), Option.bind_some]
      by_cases h5 : M.2.1 5 (c - 1) = x
      · rw [if_pos h5, bI_t ⟨by omega, h3, h5⟩]
      · rw [if_neg h5, bI_f (fun z => h5 z.2.2)]
/-- a token more -/
theorem PLx.snoc (h : PLx b n T sa sz c k) {z : Nat} (hn : n ≤ 1600) (hk : k < n) (hz : k < z) (hzn : z ≤ n) (hK : isK (b k) = false) (hT : ∀ a i, 3 ≤ a → a ≤ 6 → i ≠ c → T' a i = T a i) (h4 : T' 4 c = nI k) (h5 : T' 5 c = nI z)
    (hX : LexW b n T' (fun t => if t = c then k else sa t) (fun t => if t = c then z else sz t) c ∨ LexN b n T' (fun t => if t = c then k else sa t) (fun t => if t = c then z else sz t) c ∨ LexS b n T' (fun t => if t = c then k else sa t) (fun t => if t = c then z else sz t) c)
    (hg : T' 3 c ≠ 3 → (T' 3 c = 4 ↔ (0 < c ∧ T 3 (c - 1) ≠ 3 ∧ T 5 (c - 1) = nI k))) : PLx b n T' (fun t => if t = c then k else sa t) (fun t => if t = c then z else sz t) (c + 1) z := by
  obtain ⟨p1, p2, p3, p4, p5, p6⟩ := h
  have epv : ∀ t, t ≤ c → pv (fun t => if t = c then z else sz t) t = pv sz t := by
    intro t ht
    unfold pv
    by_cases q : t = 0
    · rw [if_pos q, if_pos q]
    · rw [if_neg q, if_neg q]; dsimp only; rw [if_neg (by omega)]
  have epc : pv (fun t => if t = c then z else sz t) (c + 1) = z := by rw [pv_s, if_pos rfl]
  refine ⟨by omega, hzn, by rw [epc]; omega, fun i a1 a2 => by rw [epc] at a1; omega, fun t ht => ?_, fun t ht h3 => ?_⟩
  · by_cases q : t = c
    · subst q
      rw [epv t (Nat.le_refl _)]
      dsimp only
      rw [if_pos rfl, if_pos rfl]
      exact ⟨h4, h5, by omega, hzn, p3, p4, hk, hK, hX⟩
    · obtain ⟨a1, a2, a3, a4, a5, a6, a7, a8, a9⟩ := p5 t (by omega)
      rw [epv t (by omega)]
      have e3 : ∀ a, 3 ≤ a → a ≤ 6 → T' a t = T a t := fun a h1 h2 => hT a t h1 h2 q
      dsimp only
      rw [if_neg q, if_neg q]
      refine ⟨by rw [e3 4 (by decide) (by decide)]; exact a1, by rw [e3 5 (by decide) (by decide)]; exact a2, a3, a4, a5, a6, a7, a8, ?_⟩
      unfold LexW LexN LexS at a9 ⊢
      dsimp only
      rw [if_neg q, if_neg q, e3 3 (by decide) (by decide), e3 6 (by decide) (by decide)]
      exact a9
  · by_cases q : t = c
    · subst q
      dsimp only
      rw [if_pos rfl]
      rw [hg h3]
      refine and_congr_right (fun q1 => ?_)
      rw [hT 3 (t - 1) (by decide) (by decide) (by omega), if_neg (by omega)]
      refine and_congr_right (fun q2 => ?_)
      obtain ⟨a1, a2, a3, a4, _⟩ := p5 (t - 1) (by omega)
      rw [a2, nI_eq (by omega) (by omega)]
    · have e3 : T' 3 t = T 3 t := hT 3 t (by decide) (by decide) q
      dsimp only
      rw [if_neg q, if_neg (by omega), e3, hT 3 (t - 1) (by decide) (by decide) (by omega)]
      rw [e3] at h3
      exact p6 t (by omega) h3
/-- the next token is cut, or a blank passed over -/
theorem c_cut (h : CT b n M) (hL : PLx b n M.2.1 sa sz c k) (hk : k < n) (h6 : M.2.1 1 6 = nI c) : ∃ k' N c' sa' sz', f_X10_cutToken 1 (nI k) M = some (nI k', N) ∧ Fr tkX q0 M N ∧ k < k' ∧ N.2.1 1 6 = nI c' ∧ PLx b n N.2.1 sa' sz' c' k' := by
  have hn := h.2.2.1
  have hc := h.1
  have hck := hL.1
  unfold f_X10_cutToken
  rw [sr1 hc, c_byteAt h hk, Option.bind_some]
  have blank : isK (b k) = true → ∃ k' N c' sa' sz', f_X10_cutToken_B18 (nI k) M = some (nI k', N) ∧ Fr tkX q0 M N ∧ k < k' ∧ N.2.1 1 6 = nI c' ∧ PLx b n N.2.1 sa' sz' c' k' := by
    intro hb
    unfold f_X10_cutToken_B18
    rw [nI_1]
    obtain ⟨p1, p2, p3, p4, p5, p6⟩ := hL
    refine ⟨k + 1, M, c, sa, sz, rfl, Fr.rf, by omega, h6, by omega, by omega, by omega, fun i a1 a2 => ?_, p5, p6⟩
    by_cases q : i = k
    · rw [q]; exact hb
    · exact p4 i a1 (by omega)
  by_cases h32 : b k = 32
  · rw [if_pos h32]; exact blank (decide_eq_true (Or.inr h32))
  · rw [if_neg h32]
    by_cases h10 : b k = 10
    · rw [if_pos h10]; exact blank (decide_eq_true (Or.inl h10))
    · rw [if_neg h10]
      have hK : isK (b k) = false := decide_eq_false (fun z => by rcases z with z | z; exact h10 z; exact h32 z)
      have ecc : (fun t => if t = c then k else sa t) c = k := if_pos rfl
      obtain ⟨z, r1, r2, r3, r4, r5⟩ := c_runEnd (p := isL) h (Nat.le_of_lt hk) (lo := 97) (hi := 122) (fun x => rfl)
      rw [r1, Option.bind_some]
      by_cases hz : z ≤ k
      · have hzk : z = k := by omega
        have nL : isL (b k) = false := by
          rcases r5 with q | q
          · omega
          · rw [← hzk]; exact q
        rw [if_pos (by rw [cle (by omega) (by omega)]; exact hz)]
        obtain ⟨y, d1, d2, d3, d4, d5⟩ := c_runEnd (p := isD) h (Nat.le_of_lt hk) (lo := 48) (hi := 57) (fun x => rfl)
        rw [d1, Option.bind_some]
        by_cases hy : y ≤ k
        · have hyk : y = k := by omega
          have nD : isD (b k) = false := by
            rcases d5 with q | q
            · omega
            · rw [← hyk]; exact q
          rw [if_pos (by rw [cle (by omega) (by omega)]; exact hy), nI_1]
          obtain ⟨N, a1, a2, a3, ⟨a4, a5, a6, a7⟩, a8⟩ := c_note hc h6 (by omega) 3 (nI k) (nI (k + 1)) (b k)
          rw [a1, Option.bind_some]
          refine ⟨k + 1, N, c + 1, _, _, rfl, a2, by omega, a3, hL.snoc (T' := N.2.1) hn hk (by omega) (by omega) hK a8 a5 a6 (Or.inr (Or.inr ?_)) (fun q => absurd a4 q)⟩
          unfold LexS
          dsimp only
          rw [if_pos rfl, if_pos rfl]
          exact ⟨nL, nD, a4, a7, rfl⟩
        · rw [if_neg (by rw [cle (by omega) (by omega)]; exact hy), c_glued hc h6 (by omega), Option.bind_some]
          have fin : ∀ kd : Int32, (kd = 2 ∨ kd = 4) → (kd = 4 ↔ (0 < c ∧ M.2.1 3 (c - 1) ≠ 3 ∧ M.2.1 5 (c - 1) = nI k)) → ∃ k' N c' sa' sz', f_X10_cutToken_B93 1 (nI k) (nI y) 1 kd M = some (nI k', N) ∧ Fr tkX q0 M N ∧ k < k' ∧ N.2.1 1 6 = nI c' ∧ PLx b n N.2.1 sa' sz' c' k' := by
            intro kd hkd hg
            unfold f_X10_cutToken_B93
            obtain ⟨N, a1, a2, a3, ⟨a4, a5, a6, a7⟩, a8⟩ := c_note hc h6 (by omega) kd (nI k) (nI y) (dv b k (min (y - k) 4))
            rw [c_valB h (by omega) d3, Option.bind_some, a1, Option.bind_some]
            refine ⟨y, N, c + 1, _, _, rfl, a2, by omega, a3, hL.snoc (T' := N.2.1) hn hk (by omega) d3 hK a8 a5 a6 (Or.inr (Or.inl ?_)) (fun q => by rw [a4]; exact hg)⟩
            unfold LexN
            dsimp only
            rw [if_pos rfl, if_pos rfl]
            exact ⟨d4 k (Nat.le_refl _) (by omega), by omega, d4, d5, by rw [a4]; exact hkd, a7⟩
          by_cases hgl : 0 < c ∧ M.2.1 3 (c - 1) ≠ 3 ∧ M.2.1 5 (c - 1) = nI k
          · rw [bI_t hgl, if_neg (by decide)]; exact fin 4 (Or.inr rfl) ⟨fun _ => hgl, fun _ => rfl⟩
          · rw [bI_f hgl, if_pos rfl]; exact fin 2 (Or.inl rfl) ⟨fun q => absurd q (by decide), fun q => absurd q hgl⟩
      · rw [if_neg (by rw [cle (by omega) (by omega)]; exact hz), c_glued hc h6 (by omega), Option.bind_some]
        have fin : ∀ kd : Int32, (kd = 1 ∨ kd = 4) → (kd = 4 ↔ (0 < c ∧ M.2.1 3 (c - 1) ≠ 3 ∧ M.2.1 5 (c - 1) = nI k)) → ∃ k' N c' sa' sz', f_X10_cutToken_B51 1 (nI k) (nI z) 1 kd M = some (nI k', N) ∧ Fr tkX q0 M N ∧ k < k' ∧ N.2.1 1 6 = nI c' ∧ PLx b n N.2.1 sa' sz' c' k' := by
          intro kd hkd hg
          unfold f_X10_cutToken_B51
          obtain ⟨v, w1, w2⟩ := c_wordB h (s := k) (z := z) (by omega) r3
          obtain ⟨N, a1, a2, a3, ⟨a4, a5, a6, a7⟩, a8⟩ := c_note hc h6 (by omega) kd (nI k) (nI z) v
          rw [w1]
          dsimp only [Option.bind_some]
          rw [a1, Option.bind_some]
          refine ⟨z, N, c + 1, _, _, rfl, a2, by omega, a3, hL.snoc (T' := N.2.1) hn hk (by omega) r3 hK a8 a5 a6 (Or.inl ?_) (fun q => by rw [a4]; exact hg)⟩
          unfold LexW
          dsimp only
          rw [if_pos rfl, if_pos rfl, a7]
          refine ⟨r4 k (Nat.le_refl _) (by omega), by omega, r4, r5, by rw [a4]; exact hkd, ?_, fun j hj => ?_⟩
          · rcases w2 with ⟨q, _⟩ | ⟨j, j1, j2, _⟩
            · exact Or.inl q
            · exact Or.inr ⟨j, j1, j2⟩
          · rcases w2 with ⟨q, q2⟩ | ⟨i, j1, j2, j3⟩
            · rw [q, cneg' (by omega)]
              exact ⟨fun f => f.elim, fun f => absurd f (q2 j hj)⟩
            · rw [j2, nI_eq (by omega) (by omega)]
              refine ⟨fun q => by rw [← q]; exact j3, fun q => ?_⟩
              have inj : ∀ i, i < 39 → ∀ j, j < 39 → wdl i = wdl j → i = j := by decide +kernel
              refine inj i j1 j hj (List.ext_getElem (by have := q.1; have := j3.1; omega) (fun m m1 m2 => ?_))
              have q1 := q.2 m m2
              have q2 := j3.2 m m1
              rw [q1] at q2
              have small : ∀ i, i < 39 → ∀ x ∈ wdl i, x < 200 := by decide +kernel
              have s1 := small i j1 _ (List.getElem_mem m1)
              have s2 := small j hj _ (List.getElem_mem m2)
              exact ((nI_eq (by omega) (by omega)).mp q2).symm
        by_cases hgl : 0 < c ∧ M.2.1 3 (c - 1) ≠ 3 ∧ M.2.1 5 (c - 1) = nI k
        · rw [bI_t hgl, if_neg (by decide)]; exact fin 4 (Or.inr rfl) ⟨fun _ => hgl, fun _ => rfl⟩
        · rw [bI_f hgl, if_pos rfl]; exact fin 1 (Or.inl rfl) ⟨fun q => absurd q (by decide), fun q => absurd q hgl⟩
def srX : Nat → Nat → Bool := fun a k => (decide (3 ≤ a) && decide (a ≤ 6)) || (a == 1 && (k == 6 || k == 7 || k == 8 || k == 9))
/-- the text is cut -/
theorem c_start (h : CT b n M) : ∃ N e sa sz, f_X10_startReading 1 M = some N ∧ Fr srX q0 M N ∧ Lex b n N.2.1 e sa sz ∧ TG N.2.1 e N ∧ CS e N (.inr 0) := by
  have hn := h.2.2.1
  have hc := h.1
  have hF0 : Fr srX q0 M (wrI (wrI (wrI (wrI M 1 8 0) 1 9 (-1)) 1 7 0) 1 6 0) := (((Fr.rf.wi rfl).wi rfl).wi rfl).wi rfl
  have h0 : CT b n (wrI (wrI (wrI (wrI M 1 8 0) 1 9 (-1)) 1 7 0) 1 6 0) := h.fr hF0 rfl (fun i => rfl)
  generalize hM0 : wrI (wrI (wrI (wrI M 1 8 0) 1 9 (-1)) 1 7 0) 1 6 0 = M0 at *
  have v6 : M0.2.1 1 6 = nI 0 := by rw [← hM0, wrI_eq]; rfl
  have v7 : M0.2.1 1 7 = nI 0 := by rw [← hM0, wrI_ne (by omega), wrI_eq]; rfl
  have v8 : M0.2.1 1 8 = 0 := by rw [← hM0, wrI_ne (by omega), wrI_ne (by omega), wrI_ne (by omega), wrI_eq]
  have v9 : M0.2.1 1 9 = mI := by rw [← hM0, wrI_ne (by omega), wrI_ne (by omega), wrI_eq]; rfl
  obtain ⟨N1, k1, g1, c, sa, sz, k2, k3⟩ := itr_g (f := fun a : (Int32 × Int32 × sMem) => f_X10_startReading_K24 1 a.1 a.2.1 a.2.2) (fun j (x : Nat × sMem) => (nI x.1, nI j, x.2)) (fun j x => j ≤ x.1 ∧ Fr tkX q0 M0 x.2 ∧ ∃ c sa sz, x.2.2.1 1 6 = nI c ∧ PLx b n x.2.2.1 sa sz c x.1) (fun N => Fr tkX q0 M0 N ∧ ∃ c sa sz, N.2.1 1 6 = nI c ∧ PLx b n N.2.1 sa sz c n) 1600 (by decide) (i := 0) (s := (0, M0)) (by
    rintro j ⟨k, N⟩ hj ⟨j1, g, c, sa, sz, j2, j3⟩
    dsimp only at j1 g j2 j3 ⊢
    have hN := h0.tk g
    have hkn := j3.2.1
    unfold f_X10_startReading_K24
    by_cases hj2 : 1600 ≤ j
    · right
      rw [if_pos (by rw [nl 1600, cle (by omega) (by omega)]; exact hj2)]
      have : k = n := by omega
      subst this
      exact ⟨_, rfl, g, c, sa, sz, j2, j3⟩
    · rw [if_neg (by rw [nl 1600, cle (by omega) (by omega)]; exact hj2), gi1 hN.1, Option.bind_some, hN.2.1]
      by_cases hk : n ≤ k
      · right
        rw [if_pos (by rw [cle (by omega) (by omega)]; exact hk)]
        have : k = n := by omega
        subst this
        exact ⟨_, rfl, g, c, sa, sz, j2, j3⟩
      · left
        rw [if_neg (by rw [cle (by omega) (by omega)]; exact hk)]
        obtain ⟨k', N', c', sa', sz', a1, a2, a3, a4, a5⟩ := c_cut hN j3 (by omega) j2
        rw [a1]
        dsimp only [Option.bind_some]
        rw [nI_1]
        exact ⟨by omega, (k', N'), rfl, by dsimp only; omega, g.tr a2, c', sa', sz', a4, a5⟩) (Nat.zero_le _) ⟨Nat.zero_le _, Fr.rf, 0, fun _ => 0, fun _ => 0, v6, Nat.zero_le _, Nat.zero_le _, Nat.le_refl _, fun i _ a2 => absurd a2 (Nat.not_lt_zero _), fun t ht => absurd ht (Nat.not_lt_zero _), fun t ht => absurd ht (Nat.not_lt_zero _)⟩
  have hN1 := h0.tk g1
  obtain ⟨p1, p2, p3, p4, p5, p6⟩ := k3
  obtain ⟨N, a1, a2, a3, ⟨a4, a5, a6, a7⟩, a8⟩ := c_note hN1.1 k2 (by omega) 0 (nI n) (nI n) (-1)
  have g2 : Fr srX q0 M0 N := (g1.tr a2).mono (fun a k z => by
    unfold srX at z
    unfold tkX
    revert z
    cases (decide (3 ≤ a) && decide (a ≤ 6)) <;> cases (a == 1) <;> cases (k == 6) <;> simp) (fun _ _ z => z)
  have gT := g1.tr a2
  have epv : ∀ t, t ≤ c → pv (fun t => if t = c then n else sz t) t = pv sz t := by
    intro t ht
    unfold pv
    by_cases q : t = 0
    · rw [if_pos q, if_pos q]
    · rw [if_neg q, if_neg q]; dsimp only; rw [if_neg (by omega)]
  have hL : Lex b n N.2.1 c (fun t => if t = c then n else sa t) (fun t => if t = c then n else sz t) := by
    refine ⟨⟨a4, by omega⟩, hn, if_pos rfl, fun t ht => ?_, fun t ht => ?_, fun t ht h3 => ?_⟩
    · by_cases q : t = c
      · subst q
        rw [epv t (Nat.le_refl _)]
        dsimp only
        rw [if_pos rfl, if_pos rfl]
        exact ⟨a5, a6, Nat.le_refl _, Nat.le_refl _, p3, p4⟩
      · obtain ⟨q1, q2, q3, q4, q5, q6, q7, q8, q9⟩ := p5 t (by omega)
        rw [epv t (by omega)]
        dsimp only
        rw [if_neg q, if_neg q, a8 4 t (by decide) (by decide) q, a8 5 t (by decide) (by decide) q]
        exact ⟨q1, q2, q3, q4, q5, q6⟩
    · have q : t ≠ c := by omega
      obtain ⟨q1, q2, q3, q4, q5, q6, q7, q8, q9⟩ := p5 t ht
      dsimp only
      rw [if_neg q]
      refine ⟨q7, q8, ?_⟩
      unfold LexW LexN LexS at q9 ⊢
      dsimp only
      rw [if_neg q, if_neg q, a8 3 t (by decide) (by decide) q, a8 6 t (by decide) (by decide) q]
      exact q9
    · have q : t ≠ c := by omega
      dsimp only
      rw [if_neg q, if_neg (by omega), a8 3 t (by decide) (by decide) q, a8 3 (t - 1) (by decide) (by decide) (by omega)]
      rw [a8 3 t (by decide) (by decide) q] at h3
      exact p6 t ht h3
  have hcN := gT.hc h0.1
  refine ⟨N, c, _, _, ?_, hF0.tr g2, hL, ⟨hcN, fun a k _ _ => rfl, a3, hL.1⟩, by rw [gT.i rfl]; exact v7, Nat.zero_le _, by rw [gT.i rfl]; exact v8, by rw [gT.i rfl]; exact v9⟩
  unfold f_X10_startReading f_X10_startReading_L24
  have k1' : sItr (fun a : (Int32 × Int32 × sMem) => f_X10_startReading_K24 1 a.1 a.2.1 a.2.2) sFuel ((0 : Int32), (0 : Int32), M0) = some N1 := k1
  rw [sr1 hc, pi1 hc, Option.bind_some, pi1 (M := wrI M 1 8 0) hc, Option.bind_some, pi1 (M := wrI (wrI M 1 8 0) 1 9 (-1)) hc, Option.bind_some, pi1 (M := wrI (wrI (wrI M 1 8 0) 1 9 (-1)) 1 7 0) hc, Option.bind_some, hM0, k1', Option.bind_some]
  unfold f_X10_startReading_B51
  rw [gi1 hN1.1, Option.bind_some, Option.bind_some, hN1.2.1, a1]; rfl
end CLY
