/-! THE CLASS drives: places are settled by when they are reached -/
theorem cntN_le (f : Nat → Bool) : ∀ n, cntN f n ≤ n
  | 0 => Nat.le_refl 0
  | n + 1 => by
    show cntN f n + (if f n = true then 1 else 0) ≤ n + 1
    have := cntN_le f n
    split <;> omega
theorem cntN_full {f : Nat → Bool} : ∀ {n : Nat}, n ≤ cntN f n → ∀ i, i < n → f i = true
  | 0, _, i, hi => by omega
  | n + 1, h, i, hi => by
    have h' : n + 1 ≤ cntN f n + (if f n = true then 1 else 0) := h
    have := cntN_le f n
    by_cases q : f n = true
    · rw [if_pos q] at h'
      by_cases hin : i = n
      · rw [hin]; exact q
      · exact cntN_full (n := n) (by omega) i (by omega)
    · rw [if_neg q] at h'; omega
theorem set_or : ∀ s, s < 128 → ∀ p, p < 7 → (nI s ||| ((1 : Int32) <<< (nI p &&& 31))) = nI (s ||| 2 ^ p) ∧ (s ||| 2 ^ p) < 128 := by decide +kernel
theorem upb_or : ∀ s, s < 128 → ∀ p, p < 7 → ∀ q, q < 7 → upb (s ||| 2 ^ p) q = (upb s q || decide (q = p)) := by decide +kernel
def pGo : Nat → Nat → Bool := fun a _ => a == 81
section GO
variable {u : Nat → Nat → Int32} {cl : Nat → Nat → Bool} {M N : sMem} {D G P E C W g k e c l m up p q t m0 fr to row s : Nat} {c0 c1 c2 : List Nat} {sp : Nat → Nat} {S : Nat → Bool}
theorem c_open (hr : M.1[row]? = some (15, 24)) (hcl : ∀ g t, g < 6 → t < 256 → rb (M.2.2.1 row) g t = cl g t) (hg : g < 6) (hm : m ≤ 200) : ∃ r, f_X11_firstOpen row (nI g) (nI m) M = some r ∧ ((r = mI ∧ ∀ t, m ≤ t → t < 200 → cl g t = true) ∨ ∃ v, m ≤ v ∧ v < 200 ∧ r = nI v ∧ cl g v = false ∧ ∀ j, m ≤ j → j < v → cl g j = true) := by
  unfold f_X11_firstOpen f_X11_firstOpen_L2
  obtain ⟨r, h1, h2⟩ := itr_g (f := fun a : Int32 => f_X11_firstOpen_K2 row (nI g) a M) (fun k (_ : Unit) => nI k) (fun i _ => m ≤ i ∧ ∀ j, m ≤ j → j < i → cl g j = true)
    (fun r => (r = mI ∧ ∀ t, m ≤ t → t < 200 → cl g t = true) ∨ ∃ v, m ≤ v ∧ v < 200 ∧ r = nI v ∧ cl g v = false ∧ ∀ j, m ≤ j → j < v → cl g j = true) 200 (by omega) (i := m) (s := ()) (by
      rintro i _ hi ⟨h1, h2⟩
      try dsimp only
      unfold f_X11_firstOpen_K2
      by_cases h : 200 ≤ i
      · right
        obtain rfl : i = 200 := by omega
        exact ⟨mI, by rw [if_pos (by decide)]; rfl, Or.inl ⟨rfl, h2⟩⟩
      · rw [if_neg (by rw [nl 200, cle (by omega) (by omega)]; omega), b_isMarked hr hg (by omega), Option.bind_some]
        have e : bit (M.2.2.1 row (4 * g + i / 64)) (i % 64) = cl g i := hcl g i hg (by omega)
        rw [e]
        by_cases hc : cl g i = true
        · left
          rw [bI_t hc, if_neg (by decide), nl 1, nI_add]
          exact ⟨by omega, (), rfl, by omega, fun j j1 j2 => by
            by_cases hji : j = i
            · rw [hji]; exact hc
            · exact h2 j j1 (by omega)⟩
        · right
          rw [bI_f hc, if_pos rfl]
          refine ⟨_, rfl, Or.inr ⟨i, h1, by omega, rfl, ?_, h2⟩⟩
          cases z : cl g i with
          | false => rfl
          | true => exact absurd z hc) hm ⟨Nat.le_refl _, fun j j1 j2 => by omega⟩
  try dsimp only at h1
  rw [h1]
  exact ⟨r, rfl, h2⟩
theorem c_other (h : CV u M D G P E C W c0 c1 c2) (hu : DU u G P E C W c0 c1 c2) (hk : k < W) (hp : p < 7) : ∃ r, f_X7_otherEnd 80 (nI k) (nI p) M = some r ∧ ((r = mI ∧ ∀ q, ¬ ends u k p q) ∨ ∃ q, q < P ∧ p < P ∧ r = nI q ∧ ends u k p q ∧ ∀ q', ends u k p q' → q' = q) := by
  have hb := hu.2.1
  obtain ⟨w1, w2, w3, w4, w5, w6, w7, w8, w9⟩ := hu.way hk
  unfold f_X7_otherEnd
  simp only [sr80 h.hc, h.p80, h.g3, nl 0, h.cW hu hk (j := 0) (by omega), nl 1, h.cW hu hk (j := 1) (by omega), Option.bind_some, show 48 + 4 * k + 0 = 48 + 4 * k by omega, show 48 + 4 * k + 1 = 49 + 4 * k by omega, w1, w2]
  unfold ends
  by_cases h1 : wa u k = p
  · rw [if_pos (by rw [h1])]
    refine ⟨_, rfl, Or.inr ⟨wb u k, w5, by omega, rfl, Or.inl ⟨h1, rfl⟩, fun q' z => ?_⟩⟩
    rcases z with z | z
    · exact z.2
    · omega
  · rw [if_neg (by rw [nI_eq (by omega) (by omega)]; exact h1)]
    by_cases h2 : wb u k = p
    · rw [if_pos (by rw [h2])]
      refine ⟨_, rfl, Or.inr ⟨wa u k, w4, by omega, rfl, Or.inr ⟨h2, rfl⟩, fun q' z => ?_⟩⟩
      rcases z with z | z
      · omega
      · exact z.2
    · rw [if_neg (by rw [nI_eq (by omega) (by omega)]; exact h2)]
      exact ⟨_, rfl, Or.inl ⟨rfl, fun q' z => by omega⟩⟩
/-- one is sooner there by a way, or isn't -/
theorem c_reach (h : CV u M D G P E C W c0 c1 c2) (hu : DU u G P E C W c0 c1 c2) (hr : M.1[row]? = some (15, 24)) (hcl : ∀ g t, g < 6 → t < 256 → rb (M.2.2.1 row) g t = cl g t) (hsp : ∀ p, p < 7 → M.2.1 81 p = nI (sp p) ∧ sp p ≤ 200) (hk : k < W) (hq : q < 7) (hm : m < 200) :
    ∃ N sp', f_X7_reach 80 (nI q) (nI k) (nI m) row M = some N ∧ Fr pGo q0 M N ∧ (∀ p, p < 7 → N.2.1 81 p = nI (sp' p) ∧ sp' p ≤ 200) ∧ ((sp' = sp ∧ ∀ v, sopen u cl k m v → v < 200 → sp q ≤ v + ws u k) ∨ ∃ v, sopen u cl k m v ∧ v < 200 ∧ v + ws u k < sp q ∧ sp' = fun p => if p = q then v + ws u k else sp p) := by
  have hb := hu.2.1
  obtain ⟨w1, w2, w3, w4, w5, w6, w7, w8, w9⟩ := hu.way hk
  have hc := h.hc
  have B : ∀ v, sopen u cl k m v → v < 200 → ∃ N sp', f_X7_reach_B43 80 (nI q) (nI k) (nI v) M = some N ∧ Fr pGo q0 M N ∧ (∀ p, p < 7 → N.2.1 81 p = nI (sp' p) ∧ sp' p ≤ 200) ∧ ((sp' = sp ∧ ∀ v, sopen u cl k m v → v < 200 → sp q ≤ v + ws u k) ∨ ∃ v, sopen u cl k m v ∧ v < 200 ∧ v + ws u k < sp q ∧ sp' = fun p => if p = q then v + ws u k else sp p) := by
    intro v hv hv2
    have uni : ∀ v', sopen u cl k m v' → v' = v := by
      intro v' h'
      rcases Nat.lt_trichotomy v' v with z | z | z
      · exact absurd h'.2.1 (hv.2.2 v' h'.1 z)
      · exact z
      · exact absurd hv.2.1 (h'.2.2 v hv.1 z)
    unfold f_X7_reach_B43
    have hspq := hsp q hq
    rw [h.p80, Option.bind_some, h.g3, Option.bind_some, nl 2, h.cW hu hk (j := 2) (by omega), Option.bind_some, if_neg (by rw [show (-1 : Int32) = mI from rfl, cneg (by omega)]; exact id), show 48 + 4 * k + 2 = 50 + 4 * k by omega, w3, gr80_0 hc, Option.bind_some, ld81 hc hq, Option.bind_some, nI_add, hspq.1]
    by_cases hle : sp q ≤ v + ws u k
    · rw [if_pos (nI_le hle (by omega))]
      exact ⟨M, sp, rfl, Fr.rf, hsp, Or.inl ⟨rfl, fun v' h1 h2 => by rw [uni v' h1]; exact hle⟩⟩
    · rw [if_neg (nI_ge (by omega) (by omega)), Option.bind_some, st81 hc hq, Option.bind_some]
      refine ⟨_, fun p => if p = q then v + ws u k else sp p, rfl, Fr.rf.wi rfl, fun p hp => ?_, Or.inr ⟨v, hv, hv2, by omega, rfl⟩⟩
      by_cases hpq : p = q
      · subst hpq
        try dsimp only
        rw [wrI_eq, if_pos rfl]
        exact ⟨rfl, by omega⟩
      · dsimp only
        rw [wrI_ne (fun z => hpq z.2), if_neg hpq]; exact hsp p hp
  unfold f_X7_reach
  rw [sr80 hc, if_neg (nI_pos (by omega)), if_pos (by rw [nl 7, clt (by omega) (by omega)]; omega), h.p80, Option.bind_some, h.g3, Option.bind_some, nl 3, h.cW hu hk (j := 3) (by omega), Option.bind_some, show 48 + 4 * k + 3 = 51 + 4 * k by omega]
  rcases w9 with w9 | ⟨w9, w10⟩
  · rw [w9, if_pos mIe]
    exact B m ⟨Nat.le_refl _, Or.inl w9, fun j j1 j2 => by omega⟩ hm
  · have hno : ¬ u 134 (51 + 4 * k) = mI := fun z => by rw [w10, cneg (by omega)] at z; exact z
    rw [w10, if_neg (by rw [show (-1 : Int32) = mI from rfl, cneg (by omega)]; exact id)]
    obtain ⟨r, r1, r2⟩ := c_open hr hcl (g := wg u k) (m := m) (by omega) (by omega)
    rw [r1, Option.bind_some]
    rcases r2 with ⟨rfl, r2⟩ | ⟨v, v1, v2, rfl, v3, v4⟩
    · unfold f_X7_reach_B43
      rw [h.p80, Option.bind_some, h.g3, Option.bind_some, nl 2, h.cW hu hk (j := 2) (by omega), Option.bind_some, if_pos mIe]
      refine ⟨M, sp, rfl, Fr.rf, hsp, Or.inl ⟨rfl, fun v h1 h2 => ?_⟩⟩
      rcases h1.2.1 with z | z
      · exact absurd z hno
      · rw [r2 v h1.1 h2] at z; cases z
    · exact B v ⟨v1, Or.inr v3, fun j j1 j2 z => by
        rcases z with z | z
        · exact absurd z hno
        · rw [v4 j j1 j2] at z; cases z⟩ v2
/-- the nearest that isn't settled -/
theorem c_near (hc : ClsS M.1 M.2.2.2) (hsp : ∀ p, p < 7 → M.2.1 81 p = nI (sp p) ∧ sp p ≤ 200) (hs : s < 128) : ∃ r, f_X7_nearest 80 (nI s) M = some r ∧ ((r = mI ∧ ∀ q, q < 7 → upb s q = true ∨ sp q = 200) ∨ ∃ b, b < 7 ∧ r = nI b ∧ upb s b = false ∧ sp b < 200 ∧ ∀ q, q < 7 → upb s q = false → sp b ≤ sp q) := by
  unfold f_X7_nearest f_X7_nearest_L4
  rw [sr80 hc]
  obtain ⟨r, h1, h2⟩ := itr_g (f := fun a : (Int32 × Int32) => f_X7_nearest_K4 80 (nI s) a.1 a.2 M) (fun k (b : Int32) => (b, nI k))
    (fun i r => (r = mI ∧ ∀ q, q < i → upb s q = true ∨ sp q = 200) ∨ ∃ b, b < 7 ∧ r = nI b ∧ upb s b = false ∧ sp b < 200 ∧ ∀ q, q < i → upb s q = false → sp b ≤ sp q)
    (fun r => (r = mI ∧ ∀ q, q < 7 → upb s q = true ∨ sp q = 200) ∨ ∃ b, b < 7 ∧ r = nI b ∧ upb s b = false ∧ sp b < 200 ∧ ∀ q, q < 7 → upb s q = false → sp b ≤ sp q) 7 (by omega) (i := 0) (s := mI) (by
      rintro i r hi hv
      try dsimp only
      unfold f_X7_nearest_K4 f_X7_nearest_B34 f_X7_nearest_B35 f_X7_nearest_B62 f_X7_nearest_B64
      by_cases h : 7 ≤ i
      · right
        obtain rfl : i = 7 := by omega
        exact ⟨r, by rw [if_pos (by decide)], hv⟩
      · left
        have hspi := hsp i (by omega)
        have skip : (upb s i = true ∨ sp i = 200) → ((r = mI ∧ ∀ q, q < i + 1 → upb s q = true ∨ sp q = 200) ∨ ∃ b, b < 7 ∧ r = nI b ∧ upb s b = false ∧ sp b < 200 ∧ ∀ q, q < i + 1 → upb s q = false → sp b ≤ sp q) := by
          intro hsk
          rcases hv with ⟨v1, v2⟩ | ⟨b, v1, v2, v3, v4, v5⟩
          · refine Or.inl ⟨v1, fun q hq => ?_⟩
            by_cases hqi : q = i
            · rw [hqi]; exact hsk
            · exact v2 q (by omega)
          · refine Or.inr ⟨b, v1, v2, v3, v4, fun q hq hq2 => ?_⟩
            by_cases hqi : q = i
            · subst hqi
              rcases hsk with z | z
              · rw [hq2] at z; cases z
              · omega
            · exact v5 q (by omega) hq2
        refine ⟨by omega, ?_⟩
        rw [if_neg (by rw [nl 7, cle (by omega) (by omega)]; omega)]
        by_cases hu : upb s i = false
        · rw [if_pos ((upb_of0 (by omega) (by omega)).mpr hu), gr80_0 hc, Option.bind_some, ld81 hc (by omega), Option.bind_some, hspi.1]
          by_cases h2 : 200 ≤ sp i
          · rw [if_pos (by rw [nl 200, cle (by omega) (by omega)]; exact h2), if_pos rfl, nl 1, nI_add]
            exact ⟨r, rfl, skip (Or.inr (by omega))⟩
          · rw [if_neg (by rw [nl 200, cle (by omega) (by omega)]; exact h2), if_neg (by decide)]
            have take : ∀ q, (∀ q, q < i → upb s q = false → sp i ≤ sp q) → q = nI i → ((q = mI ∧ ∀ q, q < i + 1 → upb s q = true ∨ sp q = 200) ∨ ∃ b, b < 7 ∧ q = nI b ∧ upb s b = false ∧ sp b < 200 ∧ ∀ q, q < i + 1 → upb s q = false → sp b ≤ sp q) := by
              intro q h3 hq
              refine Or.inr ⟨i, by omega, hq, hu, by omega, fun q hq hq2 => ?_⟩
              by_cases hqi : q = i
              · rw [hqi]; exact Nat.le_refl _
              · exact h3 q (by omega) hq2
            rcases hv with ⟨rfl, v2⟩ | ⟨b, v1, rfl, v3, v4, v5⟩
            · rw [if_pos mIe, nl 1, nI_add]
              refine ⟨nI i, rfl, take _ (fun q hq hq2 => ?_) rfl⟩
              rcases v2 q hq with z | z
              · rw [hq2] at z; cases z
              · omega
            · rw [if_neg (by rw [show (-1 : Int32) = mI from rfl, cneg (by omega)]; exact id)]
              simp only [Option.bind_some, ld81 hc v1, (hsp b v1).1, gr80_0 hc, ld81 hc (show i < 7 by omega), hspi.1]
              by_cases h3 : sp b ≤ sp i
              · rw [if_pos (nI_le h3 (by omega)), nl 1, nI_add]
                refine ⟨nI b, rfl, Or.inr ⟨b, v1, rfl, v3, v4, fun q hq hq2 => ?_⟩⟩
                by_cases hqi : q = i
                · rw [hqi]; exact h3
                · exact v5 q (by omega) hq2
              · rw [if_neg (nI_ge (by omega) (by omega)), nl 1, nI_add]
                refine ⟨nI i, rfl, take _ (fun q hq hq2 => ?_) rfl⟩
                have := v5 q hq hq2; omega
        · rw [if_neg (fun z => hu ((upb_of0 (by omega) (by omega)).mp z)), if_pos rfl, nl 1, nI_add]
          refine ⟨r, rfl, skip (Or.inl ?_)⟩
          cases z : upb s i with
          | false => exact absurd z hu
          | true => rfl) (by omega) (Or.inl ⟨rfl, fun q hq => by omega⟩)
  try dsimp only at h1
  rw [nl 0, show (-1 : Int32) = mI from rfl, h1]
  exact ⟨r, rfl, h2⟩
end GO
