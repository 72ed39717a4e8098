/-! THE REFERENCE's search, in memory -/
def pMt : Nat → Nat → Bool := fun a _ => a == 149 || a == 150 || a == 151 || a == 152
def p49 : Nat → Nat → Bool := fun a _ => a == 149 || a == 150
def pFq : Nat → Nat → Bool := fun a _ => a == 151 || a == 152
/-- the closings, as the reference holds them -/
def RDm (n : Nat) (vF vL vM : Nat → Int32) (M : sMem) : Prop := n ≤ 40 ∧ M.2.1 94 72 = nI n ∧ ∀ i, i < n → (M.2.1 147 i = vF i ∧ M.2.1 148 i = vL i ∧ ∃ g, g < 6 ∧ M.2.1 146 i = nI g ∧ M.2.1 133 (6 + g) = vM i) ∧ (0 ≤ (vF i).toInt ∧ (vF i).toInt ≤ (vL i).toInt) ∧ (vL i).toInt < 200 ∧ 0 ≤ (vM i).toInt ∧ (vM i).toInt ≤ 60
def KRk (n : Nat) (c g : Nat → Option Nat) (M : sMem) : Prop := ∀ j, j < n → M.2.1 150 j = oI (c j) ∧ M.2.1 149 j = oI (g j)
def RQk (n : Nat) (Q : Nat → Nat) (fb : Nat → Option Nat) (l : Nat) (M : sMem) : Prop := (∀ t, t < l → M.2.1 152 t = nI (Q t)) ∧ ∀ j, j < n → M.2.1 151 j = oI (fb j)
section RMA
variable {M N : sMem} {n i j a b k t p l x : Nat} {vF vL vM : Nat → Int32} {R : Nat → Nat → Prop} {S : Nat → Prop} {Q : Nat → Nat} {fb c g : Nat → Option Nat}
theorem RDm.fr {X : Nat → Nat → Bool} (h : RDm n vF vL vM M) (hF : Fr X q0 M N) (hX : ∀ a k, a < 149 → X a k = false) : RDm n vF vL vM N := ⟨h.1, by rw [hF.i (hX _ _ (by decide))]; exact h.2.1, fun i hi => by
  obtain ⟨⟨h1, h2, g, h3, h4, h5⟩, h6⟩ := h.2.2 i hi
  exact ⟨⟨by rw [hF.i (hX _ _ (by decide))]; exact h1, by rw [hF.i (hX _ _ (by decide))]; exact h2, g, h3, by rw [hF.i (hX _ _ (by decide))]; exact h4, by rw [hF.i (hX _ _ (by decide))]; exact h5⟩, h6⟩⟩
theorem pMt_lo {a k : Nat} (h : a < 149) : pMt a k = false := Bool.eq_false_iff.mpr (fun y => by unfold pMt at y; simp only [Bool.or_eq_true, beq_iff_eq] at y; omega)
theorem pFq_lo {a k : Nat} (h : a < 151) : pFq a k = false := Bool.eq_false_iff.mpr (fun y => by unfold pFq at y; simp only [Bool.or_eq_true, beq_iff_eq] at y; omega)
theorem pMt_4 {a k : Nat} (h : pMt a k = false) : p49 a k = false := imF (fun y => by unfold p49 at y; unfold pMt; simp only [Bool.or_eq_true, beq_iff_eq] at y ⊢; omega) h
theorem pMt_5 {a k : Nat} (h : pMt a k = false) : pFq a k = false := imF (fun y => by unfold pFq at y; unfold pMt; simp only [Bool.or_eq_true, beq_iff_eq] at y ⊢; omega) h
theorem rel_ir (h : RDm n vF vL vM M) (hi : i < n) : ¬ RelK vF vL vM i i := fun z => by
  have := (h.2.2 i hi).2
  unfold RelK at z
  omega
theorem r_canF (hs : RefS M.1 M.2.2.2) (h : RDm n vF vL vM M) (hi : i < n) (hj : j < n) : (RelK vF vL vM i j → f_X12_canFollow 94 (nI i) (nI j) M = some 1) ∧ (¬ RelK vF vL vM i j → f_X12_canFollow 94 (nI i) (nI j) M = some 0) := by
  have hn := h.1
  obtain ⟨⟨a1, a2, ga, a3, a4, a5⟩, a6, a7, a8⟩ := h.2.2 i hi
  obtain ⟨⟨b1, b2, gb, b3, b4, b5⟩, b6, b7, b8⟩ := h.2.2 j hj
  have ed : (vM i - vM j).toInt = (vM i).toInt - (vM j).toInt := by rw [Int32.toInt_sub, b32 (by omega) (by omega)]
  have e3 : (vL i + 1).toInt = (vL i).toInt + 1 := by rw [Int32.toInt_add, show (1 : Int32).toInt = 1 from rfl, b32 (by omega) (by omega)]
  have fin : ∀ d : Int32, d.toInt = (((vM i).toInt - (vM j).toInt).natAbs : Int) → (RelK vF vL vM i j → f_X12_canFollow_B46 (vF j) (vL i + 1) d M = some 1) ∧ (¬ RelK vF vL vM i j → f_X12_canFollow_B46 (vF j) (vL i + 1) d M = some 0) := fun d hd => by
    have es : (vL i + 1 + d).toInt = (vL i).toInt + 1 + d.toInt := by rw [Int32.toInt_add, e3, b32 (by omega) (by omega)]
    unfold f_X12_canFollow_B46 RelK
    rw [← hd, ← es]
    exact ⟨fun z => if_neg (fun y => by have := lt_i.mp y; omega), fun z => if_pos (lt_i.mpr (by omega))⟩
  have e0 : (0 : Int32).toInt = 0 := rfl
  have e : f_X12_canFollow 94 (nI i) (nI j) M = if 0 ≤ vM i - vM j then f_X12_canFollow_B46 (vF j) (vL i + 1) (vM i - vM j) M else f_X12_canFollow_B46 (vF j) (vL i + 1) (-(vM i - vM j)) M := by
    unfold f_X12_canFollow
    rw [sr94 hs, gr94_73 hs, Option.bind_some, ld146 hs (by omega), Option.bind_some, a4, r_mileOf hs a3, Option.bind_some, Option.bind_some, ld146 hs (by omega), Option.bind_some, b4, r_mileOf hs b3, Option.bind_some, gr94_74 hs, Option.bind_some, ld147 hs (by omega), Option.bind_some, gr94_75 hs, Option.bind_some, ld148 hs (by omega), Option.bind_some, a5, b5, b1, a2]
  rw [e]
  by_cases q : 0 ≤ vM i - vM j
  · rw [if_pos q]
    have q' := le_i.mp q
    exact fin _ (by omega)
  · rw [if_neg q]
    have q' : ¬ (0 : Int32).toInt ≤ (vM i - vM j).toInt := fun z => q (le_i.mpr z)
    refine fin _ ?_
    rw [Int32.toInt_neg, b32 (by omega) (by omega)]
    omega
theorem kr_upd {c' g' : Nat → Option Nat} (h : KRk n c' g' N) {x : Nat} : KRk n (updO c' b x) (updO g' x b) (wrI (wrI N 149 x (nI b)) 150 b (nI x)) := fun j hj => by
  obtain ⟨h1, h2⟩ := h j hj
  refine ⟨?_, ?_⟩
  · by_cases q : j = b
    · rw [q, wrI_eq, updO_e]; rfl
    · rw [wrI_ne (by omega), wrI_ne (by omega), updO_n q]; exact h1
  · rw [wrI_ne (by omega)]
    by_cases q : j = x
    · rw [q, wrI_eq, updO_e]; rfl
    · rw [wrI_ne (by omega), updO_n q]; exact h2
/-- the ways on are changed -/
theorem r_changes (hs : RefS M.1 M.2.2.2) (hn : n ≤ 40) (h151 : ∀ j, j < n → M.2.1 151 j = oI (fb j)) (hK : KRk n c g M) (hC : CHS n R S Q fb c g b t) (hR : ∀ j x, j < n → fb j = some x → R x j) (ha : ¬ S (Q 0)) (hQ : ∀ s s', s ≤ t → s' ≤ t → Q s = Q s' → s = s') (ht : t < 40) : ∃ N c' g', f_X12_changes 94 (nI b) M = some N ∧ Fr p49 q0 M N ∧ KRk n c' g' N ∧ MTk n R c' (fun i => S i ∨ i = Q 0) ∧ CGc n c' g' := by
  obtain ⟨N, b1, b2, c', g', b3⟩ := itr_g (f := fun a : (Int32 × sMem) => f_X12_changes_K2 94 a.1 a.2) (fun _ (s : Int32 × sMem) => s) (fun k s => Fr p49 q0 M s.2 ∧ ((s.1 = mI ∧ ∃ c' g', KRk n c' g' s.2 ∧ MTk n R c' (fun i => S i ∨ i = Q 0) ∧ CGc n c' g') ∨ ∃ c' g' b' t', s.1 = nI b' ∧ t' + k ≤ t ∧ KRk n c' g' s.2 ∧ CHS n R S Q fb c' g' b' t')) (fun N => Fr p49 q0 M N ∧ ∃ c' g', KRk n c' g' N ∧ MTk n R c' (fun i => S i ∨ i = Q 0) ∧ CGc n c' g') (t + 1) (by omega) (i := 0) (s := (nI b, M)) (by
    rintro k ⟨v, N⟩ hk ⟨i1, i2⟩
    dsimp only at i1 i2 ⊢
    unfold f_X12_changes_K2
    rcases i2 with ⟨rfl, i3⟩ | ⟨c', g', b', t', rfl, i3, i4, i5⟩
    · right
      rw [if_pos mIe]
      exact ⟨N, rfl, i1, i3⟩
    · left
      refine ⟨by omega, ?_⟩
      have hsN := i1.hs hs
      obtain ⟨⟨x1, x2, x3⟩, _⟩ := id i5
      have hq := x3 t' (Nat.le_refl _)
      obtain ⟨M6, hM6⟩ : ∃ X, X = wrI N 149 (Q t') (nI b') := ⟨_, rfl⟩
      have F6 : Fr p49 q0 M M6 := by rw [hM6]; exact i1.wi rfl
      have hs6 := F6.hs hs
      have F8 : Fr p49 q0 M (wrI M6 150 b' (nI (Q t'))) := F6.wi rfl
      rw [if_neg (show ¬ nI b' = -1 from fun z => by
        have z' : nI b' = mI := z
        rw [cneg (by omega)] at z'; exact z'), gr94_78 hsN, Option.bind_some, ld151 hsN (by omega), Option.bind_some, i1.i rfl, h151 b' x1, x2, show oI (some (Q t')) = nI (Q t') from rfl, gr94_76 hsN, Option.bind_some, ld149 hsN (by omega), Option.bind_some, Option.bind_some, (i4 (Q t') hq).2, st149 hsN (by omega), Option.bind_some, ← hM6, gr94_77 hs6, Option.bind_some, st150 hs6 (by omega), Option.bind_some]
      refine ⟨_, rfl, F8, ?_⟩
      rcases Nat.eq_zero_or_pos t' with z | z
      · subst z
        obtain ⟨y1, y2, y3⟩ := ch_last i5 hR ha
        left
        exact ⟨by rw [y1]; rfl, _, _, by rw [hM6]; exact kr_upd i4, y2, y3⟩
      · obtain ⟨j, t'', y1, y2, y3⟩ := ch_step i5 z hR (fun s s' h1 h2 => hQ s s' (by omega) (by omega))
        right
        exact ⟨_, _, j, t'', by rw [y1]; rfl, by omega, by rw [hM6]; exact kr_upd i4, y3⟩) (by omega) ⟨Fr.rf, Or.inr ⟨c, g, b, t, rfl, by omega, hK, hC⟩⟩
  refine ⟨N, c', g', ?_, b2, b3⟩
  unfold f_X12_changes f_X12_changes_L2
  rw [sr94 hs, b1, Option.bind_some]
/-- what a search that found one leaves -/
def FND (n : Nat) (R : Nat → Nat → Prop) (S : Nat → Prop) (a : Nat) (c g : Nat → Option Nat) (M0 : sMem) (q : Int32 × sMem) : Prop := ∃ b t Q fb, q.1 = nI b ∧ t < 40 ∧ Fr pFq q0 M0 q.2 ∧ (∀ j, j < n → q.2.2.1 151 j = oI (fb j)) ∧ Q 0 = a ∧ (∀ s s', s ≤ t → s' ≤ t → Q s = Q s' → s = s') ∧ CHS n R S Q fb c g b t ∧ ∀ j x, j < n → fb j = some x → R x j
theorem r_inner {M0 : sMem} (hs : RefS M0.1 M0.2.2.2) (hD : RDm n vF vL vM M0) (hK : KRk n c g M0) (hM : MTk n (RelK vF vL vM) c S) (hG : CGc n c g) (ha : ¬ S a) (F1 : Fr pFq q0 M0 M) (hB : BFk n (RelK vF vL vM) c a Q fb (p + 1) l) (hq : RQk n Q fb l M) (hp : p < l) (hl : l ≤ n) (hcl : ∀ t, t < p → ∀ j, j < n → RelK vF vL vM (Q t) j → fb j ≠ none) :
    ∃ v : (Int32 × sMem) ⊕ (Int32 × sMem), sItr (fun s : (Int32 × Int32 × sMem) => f_X12_isMatched_K53 94 (nI (p + 1)) (nI (Q p)) s.1 s.2.1 s.2.2) sFuel (nI l, 0, M) = some v ∧ match v with
      | .inl q => FND n (RelK vF vL vM) S a c g M0 q
      | .inr q => ∃ l' Q' fb', q.1 = nI l' ∧ Fr pFq q0 M0 q.2 ∧ BFk n (RelK vF vL vM) c a Q' fb' (p + 1) l' ∧ RQk n Q' fb' l' q.2 ∧ p < l' ∧ l' ≤ n ∧ ∀ t, t < p + 1 → ∀ j, j < n → RelK vF vL vM (Q' t) j → fb' j ≠ none := by
  have hn := hD.1
  obtain ⟨x, hx⟩ : ∃ x, Q p = x := ⟨_, rfl⟩
  have hxn : x < n := by rw [← hx]; exact hB.1.2.2.1 p hp
  rw [hx]
  obtain ⟨v, b1, b2⟩ := itr_g (f := fun s : (Int32 × Int32 × sMem) => f_X12_isMatched_K53 94 (nI (p + 1)) (nI x) s.1 s.2.1 s.2.2) (fun j (s : Nat × sMem) => (nI s.1, nI j, s.2)) (fun j s => Fr pFq q0 M0 s.2 ∧ p < s.1 ∧ s.1 ≤ n ∧ ∃ Q' fb', BFk n (RelK vF vL vM) c a Q' fb' (p + 1) s.1 ∧ RQk n Q' fb' s.1 s.2 ∧ Q' p = x ∧ (∀ t, t < p → ∀ j, j < n → RelK vF vL vM (Q' t) j → fb' j ≠ none) ∧ ∀ i, i < j → RelK vF vL vM x i → fb' i ≠ none) (fun v => match v with
      | .inl q => FND n (RelK vF vL vM) S a c g M0 q
      | .inr q => ∃ l' Q' fb', q.1 = nI l' ∧ Fr pFq q0 M0 q.2 ∧ BFk n (RelK vF vL vM) c a Q' fb' (p + 1) l' ∧ RQk n Q' fb' l' q.2 ∧ p < l' ∧ l' ≤ n ∧ ∀ t, t < p + 1 → ∀ j, j < n → RelK vF vL vM (Q' t) j → fb' j ≠ none) n (by omega) (i := 0) (s := (l, M)) (by
    rintro j ⟨l', N⟩ hj ⟨i1, i2, i3, Q', fb', i4, i5, i6, i7, i8⟩
    dsimp only at i1 i2 i3 i4 i5 ⊢
    have hsN := i1.hs hs
    have hDN := hD.fr i1 (fun a k h => pFq_lo (by omega))
    unfold f_X12_isMatched_K53
    rw [gi94 hsN, Option.bind_some, hDN.2.1]
    by_cases q : j = n
    · right
      rw [if_pos (nI_le (show n ≤ j by omega) (by omega))]
      refine ⟨_, rfl, l', Q', fb', rfl, i1, i4, i5, i2, i3, fun t ht i hi hr => ?_⟩
      by_cases w : t = p
      · rw [w, i6] at hr
        exact i8 i (by omega) hr
      · exact i7 t (by omega) i hi hr
    · have hjn : j < n := by omega
      -- passed by
      have pass : (RelK vF vL vM x j → fb' j ≠ none) → j < n ∧ ∃ s' : Nat × sMem, f_X12_isMatched_B138 94 (nI (p + 1)) (nI l') (nI x) (nI j) N = some (.inl (nI s'.1, nI (j + 1), s'.2)) ∧ Fr pFq q0 M0 s'.2 ∧ p < s'.1 ∧ s'.1 ≤ n ∧ ∃ Q' fb', BFk n (RelK vF vL vM) c a Q' fb' (p + 1) s'.1 ∧ RQk n Q' fb' s'.1 s'.2 ∧ Q' p = x ∧ (∀ t, t < p → ∀ j, j < n → RelK vF vL vM (Q' t) j → fb' j ≠ none) ∧ ∀ i, i < j + 1 → RelK vF vL vM x i → fb' i ≠ none := fun hh => by
        unfold f_X12_isMatched_B138
        rw [nI_1]
        refine ⟨hjn, (l', N), rfl, i1, i2, i3, Q', fb', i4, i5, i6, i7, fun i hi hr => ?_⟩
        by_cases w : i = j
        · rw [w] at hr ⊢; exact hh hr
        · exact i8 i (by omega) hr
      rw [if_neg (nI_ge (by omega) (by omega)), gr94_78 hsN, Option.bind_some, ld151 hsN (by omega), Option.bind_some, i5.2 j hjn]
      cases hf : fb' j with
      | some z =>
        left
        have hzn : z < n := by
          obtain ⟨_, ⟨s, _, s2, s3⟩, _⟩ := i4.2.1 j z hjn hf
          rw [← s3]; exact i4.1.2.2.1 s s2
        rw [if_neg (show ¬ oI (some z) = -1 from fun y => by
          have y' : nI z = mI := y
          rw [cneg (by omega)] at y'; exact y')]
        exact pass (fun _ e => by rw [hf] at e; cases e)
      | none =>
        rw [if_pos (show oI none = -1 from rfl)]
        by_cases w : j = x
        · left
          rw [if_pos (by rw [w])]
          exact pass (fun hr => by rw [w] at hr; exact absurd hr (rel_ir hD hxn))
        · rw [if_neg (fun z => w ((nI_eq (by omega) (by omega)).mp z))]
          by_cases hr : RelK vF vL vM x j
          · rw [(r_canF hsN hDN hxn hjn).1 hr, Option.bind_some, if_neg (by decide), Option.bind_some, st151 hsN (by omega), Option.bind_some]
            obtain ⟨N7, hN7⟩ : ∃ X, X = wrI N 151 j (nI x) := ⟨_, rfl⟩
            rw [← hN7]
            have F7 : Fr pFq q0 M0 N7 := by rw [hN7]; exact i1.wi rfl
            have hs7 := F7.hs hs
            obtain ⟨fb2, hfb2⟩ : ∃ f : Nat → Option Nat, ∀ i, f i = if i = j then some x else fb' i := ⟨fun i => if i = j then some x else fb' i, fun _ => rfl⟩
            have h151 : ∀ i, i < n → N7.2.1 151 i = oI (fb2 i) := fun i hi => by
              rw [hN7, hfb2]
              by_cases e : i = j
              · rw [e, wrI_eq, if_pos rfl]; rfl
              · rw [wrI_ne (by omega), if_neg e]; exact i5.2 i hi
            have h150 : N7.2.1 150 j = oI (c j) := by rw [F7.i (pFq_lo (by decide))]; exact (hK j hjn).1
            rw [gr94_77 hs7, Option.bind_some, ld150 hs7 (by omega), Option.bind_some, h150]
            cases hcj : c j with
            | none =>
              right
              rw [if_pos (show oI none = -1 from rfl)]
              obtain ⟨y1, y2⟩ := bfs_free hM hG i4 i2 i6 hjn hf hcj hr hfb2
              exact ⟨_, rfl, j, p, Q', fb2, rfl, by omega, F7, h151, i4.1.2.1, fun s s' h1 h2 e => i4.1.2.2.2 s s' (by omega) (by omega) e, y1, y2⟩
            | some y =>
              left
              obtain ⟨Q2, hQ2⟩ : ∃ f : Nat → Nat, ∀ t, f t = if t = l' then y else Q' t := ⟨fun t => if t = l' then y else Q' t, fun _ => rfl⟩
              obtain ⟨y1, y2⟩ := bfs_push hM ha i4 i2 i6 hjn hf hr hcj hQ2 hfb2
              have hyn := (hM.1 j y hjn hcj).1
              rw [if_neg (show ¬ oI (some y) = -1 from fun z => by
                have z' : nI y = mI := z
                rw [cneg (by omega)] at z'; exact z'), gr94_79 hs7, Option.bind_some, Option.bind_some, ld150 hs7 (by omega), Option.bind_some, h150, hcj, show oI (some y) = nI y from rfl, st152 hs7 (by omega), Option.bind_some]
              unfold f_X12_isMatched_B138
              rw [nI_1, nI_1]
              refine ⟨hjn, (l' + 1, wrI N7 152 l' (nI y)), rfl, F7.wi rfl, by omega, y2, Q2, fb2, y1, ⟨fun t ht => ?_, fun i hi => ?_⟩, ?_, fun t ht i hi hr' => ?_, fun i hi hr' => ?_⟩
              · show (wrI N7 152 l' (nI y)).2.1 152 t = nI (Q2 t)
                rw [hQ2]
                by_cases e : t = l'
                · rw [e, wrI_eq, if_pos rfl]
                · have ht' : t < l' + 1 := ht
                  rw [wrI_ne (by omega), if_neg e, hN7, wrI_ne (by omega)]
                  exact i5.1 t (by omega)
              · show (wrI N7 152 l' (nI y)).2.1 151 i = oI (fb2 i)
                rw [wrI_ne (by omega)]
                exact h151 i hi
              · rw [hQ2, if_neg (by omega)]; exact i6
              · rw [hQ2, if_neg (by omega)] at hr'
                rw [hfb2]
                by_cases e : i = j
                · rw [if_pos e]; intro z; cases z
                · rw [if_neg e]; exact i7 t ht i hi hr'
              · rw [hfb2]
                by_cases e : i = j
                · rw [if_pos e]; intro z; cases z
                · rw [if_neg e]; exact i8 i (by omega) hr'
          · left
            rw [(r_canF hsN hDN hxn hjn).2 hr, Option.bind_some, if_pos rfl]
            exact pass (fun z => absurd z hr)) (by omega) ⟨F1, hp, hl, Q, fb, hB, hq, hx, hcl, fun i hi => by omega⟩
  exact ⟨v, b1, b2⟩
end RMA
