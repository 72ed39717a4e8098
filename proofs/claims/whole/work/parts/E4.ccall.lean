/-! THE CLASS calls its keepers -/
def pKa : Nat → Nat → Bool := fun a k => (a == 82 && k == 5) || a == 83 || a == 84 || a == 85
def pKz : Nat → Nat → Bool := fun a k => pKa a k || pKt a k
/-- the closings of all gates, one behind the other -/
def CLG (cl : Nat → Nat → Bool) (G : Nat) (o nn : Nat → Nat) (FF LL : Nat → Nat → Nat) : Prop := o 0 = 0 ∧ ∀ g, g < G → o (g + 1) = o g + nn g ∧ CLI (cl g) 200 (nn g) (FF g) (LL g)
section CCL
variable {M N : sMem} {D G P E C W B g n : Nat} {c0 c1 c2 : List Nat} {u : Nat → Nat → Int32} {cl : Nat → Nat → Bool} {F L o nn : Nat → Nat} {FF LL : Nat → Nat → Nat} {vF vL vM : Nat → Int32}
theorem pKa_n {a k : Nat} (h : a < 82 ∨ 85 < a) : pKa a k = false := Bool.eq_false_iff.mpr (fun y => by
  unfold pKa at y
  simp only [Bool.or_eq_true, Bool.and_eq_true, beq_iff_eq] at y
  omega)
theorem pKa_off : offD pKa := by
  intro a k z
  unfold pKa at z
  simp only [Bool.or_eq_true, Bool.and_eq_true, beq_iff_eq] at z
  omega
theorem pKz_a {a k : Nat} (h : pKz a k = false) : pKa a k = false := imF (fun y => by unfold pKz; rw [y]; rfl) h
theorem pKz_p {a k : Nat} (h : pKz a k = false) : pKt a k = false := imF (fun y => by unfold pKz; rw [y, Bool.or_true]) h
theorem kz_sc {a k : Nat} (h : scC a k = false) : pKz a k = false := imF (fun y => by
  unfold pKz pKa pKt at y
  unfold scC
  simp only [Bool.or_eq_true, Bool.and_eq_true, beq_iff_eq, decide_eq_true_eq] at y ⊢
  omega) h
theorem c_addC (hc : ClsS M.1 M.2.2.2) (h5 : M.2.1 82 5 = nI B) (x y z : Int32) : (B < 40 → f_X3_addClosing 82 x y z M = some (1, wrI (wrI (wrI (wrI M 83 B x) 84 B y) 85 B z) 82 5 (nI (B + 1)))) ∧ (B = 40 → f_X3_addClosing 82 x y z M = some (0, M)) := by
  unfold f_X3_addClosing
  rw [sr82 hc, gi82 hc, Option.bind_some, h5]
  refine ⟨fun hB => ?_, fun hB => ?_⟩
  · have k1 : ClsS (wrI M 83 B x).1 (wrI M 83 B x).2.2.2 := hc
    have k2 : ClsS (wrI (wrI M 83 B x) 84 B y).1 (wrI (wrI M 83 B x) 84 B y).2.2.2 := hc
    have k3 : ClsS (wrI (wrI (wrI M 83 B x) 84 B y) 85 B z).1 (wrI (wrI (wrI M 83 B x) 84 B y) 85 B z).2.2.2 := hc
    rw [if_pos (by rw [show (40 : Int32) = nI 40 from rfl, clt (by omega) (by decide)]; omega), gr82_0 hc, Option.bind_some, Option.bind_some, st83 hc (by omega), Option.bind_some, gr82_1 k1, Option.bind_some, gi82 k1, Option.bind_some, wrI_ne (by omega), h5, st84 k1 (by omega), Option.bind_some, gr82_2 k2, Option.bind_some, gi82 k2, Option.bind_some, wrI_ne (by omega), wrI_ne (by omega), h5, st85 k2 (by omega), Option.bind_some, gi82 k3, Option.bind_some, wrI_ne (by omega), wrI_ne (by omega), wrI_ne (by omega), h5, pi82 k3, Option.bind_some, nI_1]
  · rw [if_neg (by rw [show (40 : Int32) = nI 40 from rfl, clt (by omega) (by decide)]; omega)]
/-- one gate -/
theorem c_call (h : CV u M D G P E C W c0 c1 c2) (hu : DU u G P E C W c0 c1 c2) (hcl : ∀ g t, g < 6 → t < 256 → rb (M.2.2.1 88) g t = cl g t) (hg : g < G) (hI : CLI (cl g) 200 n F L) (hB : B ≤ 40) (h5 : M.2.1 82 5 = nI B) :
    ∃ r N, f_X11_callKeepers 0 (nI g) M = some (r, N) ∧ Fr pKa q0 M N ∧ ((B + n ≤ 40 ∧ r = 1 ∧ N.2.1 82 5 = nI (B + n) ∧ (∀ i, i < n → N.2.1 83 (B + i) = nI (F i) ∧ N.2.1 84 (B + i) = nI (L i) ∧ N.2.1 85 (B + i) = u 133 (6 + g)) ∧ ∀ a i, a ≠ 82 → i < B → N.2.1 a i = M.2.1 a i) ∨ (40 < B + n ∧ r = 0)) := by
  have hb := hu.2.1
  have hc := h.hc
  have hn := hI.cnt
  have f0 := c_firstN hc hcl (show g < 6 by omega) hI (i := 0) (x := 0) (Nat.zero_le _) (Or.inl ⟨rfl, rfl⟩)
  replace f0 : f_X11_firstClosed 88 (nI g) 0 M = some (nth n F 0) := f0
  have cg : f_X9_cell (D + 1) (nI g) 0 M = some (u 133 (6 + g)) := h.cG hu hg
  obtain ⟨b, b1, b2, b3⟩ := itr_g (f := fun a : (Int32 × Int32 × sMem) => f_X11_callKeepers_K26 0 (nI g) (u 133 (6 + g)) a.1 a.2.1 a.2.2) (fun j (N : sMem) => (nth n F j, nI j, N)) (fun j N => B + j ≤ 40 ∧ Fr pKa q0 M N ∧ N.2.1 82 5 = nI (B + j) ∧ (∀ i, i < j → N.2.1 83 (B + i) = nI (F i) ∧ N.2.1 84 (B + i) = nI (L i) ∧ N.2.1 85 (B + i) = u 133 (6 + g)) ∧ ∀ a i, a ≠ 82 → i < B → N.2.1 a i = M.2.1 a i) (fun r => Fr pKa q0 M r.2 ∧ ((B + n ≤ 40 ∧ r.1 = 1 ∧ r.2.2.1 82 5 = nI (B + n) ∧ (∀ i, i < n → r.2.2.1 83 (B + i) = nI (F i) ∧ r.2.2.1 84 (B + i) = nI (L i) ∧ r.2.2.1 85 (B + i) = u 133 (6 + g)) ∧ ∀ a i, a ≠ 82 → i < B → r.2.2.1 a i = M.2.1 a i) ∨ (40 < B + n ∧ r.1 = 0))) n (by omega) (i := 0) (s := M) (by
    rintro j N hj ⟨i0, i1, i2, i3, i4⟩
    have hcN := i1.hc hc
    have hclN : ∀ N', Fr pKa q0 M N' → ∀ g t, g < 6 → t < 256 → rb (N'.2.2.1 88) g t = cl g t := fun N' hF g t hg ht => by rw [show N'.2.2.1 88 = M.2.2.1 88 from funext fun k => hF.j rfl]; exact hcl g t hg ht
    dsimp only
    unfold f_X11_callKeepers_K26
    rw [if_neg (by rw [show (200 : Int32) = nI 200 from rfl, cle (by decide) (by omega)]; omega)]
    by_cases q : j = n
    · right
      rw [if_pos (show nth n F j = -1 from (by unfold nth; rw [if_neg (by omega)]; rfl))]
      rw [q] at i0 i2 i3
      exact ⟨_, rfl, i1, Or.inl ⟨i0, rfl, i2, i3, i4⟩⟩
    · have hjn : j < n := by omega
      have e1 : nth n F j = nI (F j) := by unfold nth; rw [if_pos hjn]
      rw [if_neg (nth_no hI hjn), e1, c_lastOf hcN (hclN N i1) (show g < 6 by omega) hI hjn, Option.bind_some, gr0_10 hcN, Option.bind_some]
      by_cases z : B + j < 40
      · left
        obtain ⟨N', hN'⟩ : ∃ X, X = wrI (wrI (wrI (wrI N 83 (B + j) (nI (F j))) 84 (B + j) (nI (L j))) 85 (B + j) (u 133 (6 + g))) 82 5 (nI (B + j + 1)) := ⟨_, rfl⟩
        have FN : Fr pKa q0 M N' := by rw [hN']; exact (((i1.wi rfl).wi rfl).wi rfl).wi rfl
        have hc' := FN.hc hc
        have f1 := c_firstN hc' (hclN N' FN) (show g < 6 by omega) hI (i := j + 1) (x := L j + 1) (by omega) (Or.inr ⟨by omega, by rw [Nat.add_sub_cancel]⟩)
        rw [(c_addC hcN i2 _ _ _).1 z, ← hN']
        dsimp only [Option.bind_some]
        rw [if_neg (by decide), gr0_11 hc', Option.bind_some, nI_1, f1, Option.bind_some, nI_1]
        refine ⟨hjn, N', rfl, by omega, FN, ?_, fun i hi => ?_, fun a i ha hi => ?_⟩
        · rw [hN', wrI_eq, Nat.add_assoc]
        · by_cases w : i = j
          · subst w
            refine ⟨?_, ?_, ?_⟩
            · rw [hN', wrI_ne (by omega), wrI_ne (by omega), wrI_ne (by omega), wrI_eq]
            · rw [hN', wrI_ne (by omega), wrI_ne (by omega), wrI_eq]
            · rw [hN', wrI_ne (by omega), wrI_eq]
          · obtain ⟨y1, y2, y3⟩ := i3 i (by omega)
            refine ⟨?_, ?_, ?_⟩
            · rw [hN', wrI_ne (by omega), wrI_ne (by omega), wrI_ne (by omega), wrI_ne (by omega)]; exact y1
            · rw [hN', wrI_ne (by omega), wrI_ne (by omega), wrI_ne (by omega), wrI_ne (by omega)]; exact y2
            · rw [hN', wrI_ne (by omega), wrI_ne (by omega), wrI_ne (by omega), wrI_ne (by omega)]; exact y3
        · rw [hN', wrI_ne (by omega), wrI_ne (by omega), wrI_ne (by omega), wrI_ne (by omega)]
          exact i4 a i ha hi
      · right
        rw [(c_addC hcN i2 _ _ _).2 (by omega)]
        dsimp only [Option.bind_some]
        rw [if_pos rfl]
        exact ⟨_, rfl, i1, Or.inr ⟨by omega, rfl⟩⟩) (by omega) ⟨by omega, Fr.rf, h5, fun i hi => by omega, fun _ _ _ _ => rfl⟩
  refine ⟨b.1, b.2, ?_, b2, b3⟩
  unfold f_X11_callKeepers f_X11_callKeepers_L26
  replace b1 : sItr (fun a : (Int32 × Int32 × sMem) => f_X11_callKeepers_K26 0 (nI g) (u 133 (6 + g)) a.1 a.2.1 a.2.2) sFuel (nth n F 0, 0, M) = some b := b1
  rw [sr0 hc, h.p0, Option.bind_some, h.g1, Option.bind_some, cg, Option.bind_some, gr0_11 hc, Option.bind_some, f0, Option.bind_some, b1, Option.bind_some]
theorem o_mono (h : CLG cl G o nn FF LL) : ∀ d g, g + d ≤ G → o g ≤ o (g + d)
  | 0, g, _ => Nat.le_refl _
  | d + 1, g, hd => by
    have h1 := o_mono h d g (by omega)
    have h2 := (h.2 (g + d) (by omega)).1
    rw [show g + (d + 1) = g + d + 1 by omega, h2]
    omega
theorem o_find (h : CLG cl G o nn FF LL) : ∀ g, g ≤ G → ∀ x, x < o g → ∃ g' i, g' < g ∧ i < nn g' ∧ x = o g' + i
  | 0, _, x, hx => by rw [h.1] at hx; omega
  | g + 1, hg, x, hx => by
    have h2 := (h.2 g (by omega)).1
    by_cases q : x < o g
    · obtain ⟨g', i, a1, a2, a3⟩ := o_find h g (by omega) x q
      exact ⟨g', i, by omega, a2, a3⟩
    · exact ⟨g, x - o g, by omega, by omega, by omega⟩
/-- all gates, and then how many keepers -/
theorem c_keepK (h : CV u M D G P E C W c0 c1 c2) (hu : DU u G P E C W c0 c1 c2) (hcl : ∀ g t, g < 6 → t < 256 → rb (M.2.2.1 88) g t = cl g t) (hG : CLG cl G o nn FF LL) (hv : ∀ g i, g < G → i < nn g → vF (o g + i) = nI (FF g i) ∧ vL (o g + i) = nI (LL g i) ∧ vM (o g + i) = u 133 (6 + g)) (h5 : M.2.1 82 5 = 0) :
    ∃ N, f_X11_keepers_L23 0 0 M = some (if o G ≤ 40 then nI (o G - ndK (o G) (RelK vF vL vM) (o G)) else -1, N) ∧ Fr pKz q0 M N := by
  have hb := hu.2.1
  have hc := h.hc
  obtain ⟨v, v1, v2⟩ := itr_up (f := fun a : (Int32 × sMem) => f_X11_keepers_K23 0 a.1 a.2) (fun g N => Fr pKa q0 M N ∧ o g ≤ 40 ∧ N.2.1 82 5 = nI (o g) ∧ ∀ g' i, g' < g → i < nn g' → N.2.1 83 (o g' + i) = vF (o g' + i) ∧ N.2.1 84 (o g' + i) = vL (o g' + i) ∧ N.2.1 85 (o g' + i) = vM (o g' + i)) (fun v => match v with
      | .inl N => Fr pKa q0 M N ∧ o G ≤ 40 ∧ N.2.1 82 5 = nI (o G) ∧ ∀ g' i, g' < G → i < nn g' → N.2.1 83 (o g' + i) = vF (o g' + i) ∧ N.2.1 84 (o g' + i) = vL (o g' + i) ∧ N.2.1 85 (o g' + i) = vM (o g' + i)
      | .inr q => Fr pKa q0 M q.2 ∧ ¬ o G ≤ 40 ∧ q.1 = -1) G (by omega) (by
    rintro g N hg ⟨i1, i2, i3, i4⟩
    have hN : CV u N D G P E C W c0 c1 c2 := h.fb (i1.fb (R := fun _ _ => false)) pKa_off offR_0
    dsimp only
    unfold f_X11_keepers_K23
    rw [hN.p0, Option.bind_some, hN.g1, Option.bind_some, hN.nG, Option.bind_some]
    by_cases q : g = G
    · right
      rw [if_pos (nI_le (show G ≤ g by omega) (by omega))]
      rw [q] at i2 i3 i4
      exact ⟨_, rfl, i1, i2, i3, i4⟩
    · have hgG : g < G := by omega
      obtain ⟨o1, o2⟩ := hG.2 g hgG
      obtain ⟨r, N', r1, r2, r3⟩ := c_call (M := N) (g := g) (B := o g) hN hu (fun g t hg ht => by rw [show N.2.2.1 88 = M.2.2.1 88 from funext fun k => i1.j rfl]; exact hcl g t hg ht) hgG o2 i2 i3
      rw [if_neg (nI_ge (by omega) (by omega)), r1]
      dsimp only [Option.bind_some]
      rcases r3 with ⟨s1, rfl, s2, s3, s4⟩ | ⟨s1, rfl⟩
      · left
        rw [if_neg (by decide), nI_1]
        refine ⟨hgG, N', rfl, i1.tr r2, by omega, by rw [s2, o1], fun g' i hg' hi => ?_⟩
        by_cases w : g' = g
        · subst w
          obtain ⟨y1, y2, y3⟩ := hv g' i hgG hi
          rw [y1, y2, y3]
          exact s3 i hi
        · have om := o_mono hG (g - (g' + 1)) (g' + 1) (by omega)
          rw [show g' + 1 + (g - (g' + 1)) = g by omega, (hG.2 g' (by omega)).1] at om
          rw [s4 83 _ (by decide) (by omega), s4 84 _ (by decide) (by omega), s4 85 _ (by decide) (by omega)]
          exact i4 g' i (by omega) hi
      · right
        rw [if_pos rfl]
        have om := o_mono hG (G - (g + 1)) (g + 1) (by omega)
        rw [show g + 1 + (G - (g + 1)) = G by omega] at om
        exact ⟨_, rfl, i1.tr r2, by omega, rfl⟩) (i := 0) (s := M) (by omega) ⟨Fr.rf, by rw [hG.1]; omega, by rw [hG.1]; exact h5, fun g' i hg' => by omega⟩
  replace v1 : sItr (fun a : (Int32 × sMem) => f_X11_keepers_K23 0 a.1 a.2) sFuel (0, M) = some v := v1
  unfold f_X11_keepers_L23
  rw [v1, Option.bind_some]
  match v, v2 with
  | .inl N, ⟨e1, e2, e3, e4⟩ =>
    have hcN := e1.hc hc
    have hD : KDk (o G) vF vL vM N := ⟨e2, e3, fun x hx => by
      obtain ⟨g, i, a1, a2, rfl⟩ := o_find hG G (Nat.le_refl _) x hx
      refine ⟨e4 g i a1 a2, ?_⟩
      obtain ⟨y1, y2, y3⟩ := hv g i a1 a2
      have hm := hu.2.2.2.1 g a1
      have hl := (hG.2 g a1).2.1 i a2
      rw [y1, y2, y3, nI_i (by omega), nI_i (by omega)]
      omega⟩
    obtain ⟨N', n1, n2⟩ := c_fewest hcN hD
    refine ⟨N', ?_, (e1.mono (fun _ _ z => pKz_a z) (fun _ _ z => z)).tr (n2.mono (fun _ _ z => pKz_p z) (fun _ _ z => z))⟩
    show f_X11_keepers_B53 0 N = _
    unfold f_X11_keepers_B53
    rw [gr0_10 hcN, Option.bind_some, n1, if_pos e2]
    rfl
  | .inr q, ⟨e1, e2, e3⟩ =>
    refine ⟨q.2, ?_, e1.mono (fun _ _ z => pKz_a z) (fun _ _ z => z)⟩
    show some q = _
    rw [if_neg e2, ← e3]
end CCL
