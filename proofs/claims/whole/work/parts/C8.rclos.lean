/-! CLOSINGS, the reference -/
def pCg : Nat → Nat → Bool := fun a k => (a == 94 && k == 72) || (decide (146 ≤ a) && decide (a ≤ 148))
/-- the closings of gates, each gate's behind the others' -/
def CLA (cl : Nat → Nat → Bool) (N : sMem) (o : Nat → Nat) (a b : Nat) : Prop := o a = 0 ∧ ∀ g, a ≤ g → g < b → ∃ n F L, o (g + 1) = o g + n ∧ CLI (cl g) 200 n F L ∧ ∀ i, i < n → N.2.1 146 (o g + i) = nI g ∧ N.2.1 147 (o g + i) = nI (F i) ∧ N.2.1 148 (o g + i) = nI (L i)
section RCL
variable {M N : sMem} {D Do G P E C W k e c g m s n pc pn row B : Nat} {c0 c1 c2 : List Nat} {w : Nat → Int32} {u : Nat → Nat → Int32} {cl : Nat → Nat → Bool} {F L : Nat → Nat}
theorem cg_sc {a k : Nat} (h : scR a k = false) : pCg a k = false := imF (fun z => by unfold pCg at z; unfold scR; simp only [Bool.or_eq_true, Bool.and_eq_true, beq_iff_eq, decide_eq_true_eq] at z ⊢; omega) h
theorem cg_q (h : Fr pCg q0 M N) : Fr scR scS M N := h.mono (fun _ _ z => cg_sc z) (fun _ _ _ => rfl)
theorem cg_out {a k : Nat} (h : a < 94 ∨ (94 < a ∧ a < 146) ∨ 148 < a) : pCg a k = false := by
  cases q : pCg a k with
  | false => rfl
  | true =>
    unfold pCg at q
    simp only [Bool.or_eq_true, Bool.and_eq_true, beq_iff_eq, decide_eq_true_eq] at q
    omega
theorem r_closG (hs : RefS M.1 M.2.2.2) (hB : B ≤ 500) (h72 : M.2.1 94 72 = nI B) (ic : ∀ N, Fr pCg q0 M N → ∀ t, t < 200 → f_X12_isClosed 94 (nI g) (nI t) N = some (bI (cl g t = true))) (v2 : Int32) :
    ∃ N, f_X12_laysClosings_L19 94 v2 (nI g) 0 M = some (.inl (nI (g + 1), N)) ∧ Fr pCg q0 M N ∧ ∃ n F L, CLI (cl g) 200 n F L ∧ N.2.1 94 72 = nI (B + n) ∧ (∀ i, i < n → N.2.1 146 (B + i) = nI g ∧ N.2.1 147 (B + i) = nI (F i) ∧ N.2.1 148 (B + i) = nI (L i)) ∧ ∀ a i, 146 ≤ a → i < B → N.2.1 a i = M.2.1 a i := by
  unfold f_X12_laysClosings_L19
  obtain ⟨N, b1, b2, b3⟩ := itr_up (f := fun a : (Int32 × sMem) => f_X12_laysClosings_K19 94 v2 (nI g) a.1 a.2) (fun m N => Fr pCg q0 M N ∧ ∃ n F L, CLI (cl g) m n F L ∧ N.2.1 94 72 = nI (B + n) ∧ (∀ i, i < n → N.2.1 146 (B + i) = nI g ∧ N.2.1 147 (B + i) = nI (F i) ∧ N.2.1 148 (B + i) = nI (L i)) ∧ ∀ a i, 146 ≤ a → i < B → N.2.1 a i = M.2.1 a i) (fun N => Fr pCg q0 M N ∧ ∃ n F L, CLI (cl g) 200 n F L ∧ N.2.1 94 72 = nI (B + n) ∧ (∀ i, i < n → N.2.1 146 (B + i) = nI g ∧ N.2.1 147 (B + i) = nI (F i) ∧ N.2.1 148 (B + i) = nI (L i)) ∧ ∀ a i, 146 ≤ a → i < B → N.2.1 a i = M.2.1 a i) 200 (by decide) (by
    rintro m N hm ⟨i1, n, F, L, i2, i3, i4, i5⟩
    dsimp only
    unfold f_X12_laysClosings_K19
    by_cases q : m = 200
    · right
      subst q
      rw [if_pos (by decide)]
      exact ⟨N, rfl, i1, n, F, L, i2, i3, i4, i5⟩
    · left
      refine ⟨by omega, ?_⟩
      have hsN := i1.hs hs
      have hcn := i2.cnt
      rw [if_neg (by rw [show (200 : Int32) = nI 200 from rfl, cle (by decide) (by omega)]; omega), ic N i1 m (by omega), Option.bind_some]
      have st : cl g m = true → (m = 0 ∨ cl g (m - 1) = false) → ∃ N', f_X12_laysClosings_B57 94 v2 (nI g) (nI m) N = some (.inl (nI (m + 1), N')) ∧ Fr pCg q0 M N' ∧ ∃ n F L, CLI (cl g) (m + 1) n F L ∧ N'.2.1 94 72 = nI (B + n) ∧ (∀ i, i < n → N'.2.1 146 (B + i) = nI g ∧ N'.2.1 147 (B + i) = nI (F i) ∧ N'.2.1 148 (B + i) = nI (L i)) ∧ ∀ a i, 146 ≤ a → i < B → N'.2.1 a i = M.2.1 a i := fun hf hst => by
        have hn2 := (i2.new hf hst).cnt
        unfold f_X12_laysClosings_B57 f_X12_laysClosings_B88 f_X12_laysClosings_B101
        have h1 : RefS (wrI N 146 (B + n) (nI g)).1 (wrI N 146 (B + n) (nI g)).2.2.2 := hsN
        have h2 : RefS (wrI (wrI N 146 (B + n) (nI g)) 147 (B + n) (nI m)).1 (wrI (wrI N 146 (B + n) (nI g)) 147 (B + n) (nI m)).2.2.2 := hsN
        have h3 : RefS (wrI (wrI (wrI N 146 (B + n) (nI g)) 147 (B + n) (nI m)) 94 72 (nI (B + n + 1))).1 (wrI (wrI (wrI N 146 (B + n) (nI g)) 147 (B + n) (nI m)) 94 72 (nI (B + n + 1))).2.2.2 := hsN
        rw [gr94_73 hsN, Option.bind_some, gi94 hsN, Option.bind_some, i3, st146 hsN (by omega), Option.bind_some, gr94_74 h1, Option.bind_some, gi94 h1, Option.bind_some, wrI_ne (by omega), i3, st147 h1 (by omega), Option.bind_some, gi94 h2, Option.bind_some, wrI_ne (by omega), wrI_ne (by omega), i3, pi94 h2, Option.bind_some, nI_1, gr94_75 h3, Option.bind_some, gi94 h3, Option.bind_some, wrI_eq, show nI (B + n + 1) - (1 : Int32) = nI (B + n) from nsub (a := B + n + 1) (b := 1) (by omega), st148 h3 (by omega), Option.bind_some, nI_1]
        refine ⟨_, rfl, (((i1.wi rfl).wi rfl).wi rfl).wi rfl, n + 1, _, _, i2.new hf hst, ?_, fun i hi => ?_, fun a i ha hi => ?_⟩
        · rw [wrI_ne (by omega), wrI_eq, Nat.add_assoc]
        · by_cases w : i = n
          · subst w
            rw [if_pos rfl, if_pos rfl]
            refine ⟨?_, ?_, ?_⟩
            · rw [wrI_ne (by omega), wrI_ne (by omega), wrI_ne (by omega), wrI_eq]
            · rw [wrI_ne (by omega), wrI_ne (by omega), wrI_eq]
            · rw [wrI_eq]
          · rw [if_neg w, if_neg w]
            obtain ⟨z1, z2, z3⟩ := i4 i (by omega)
            refine ⟨?_, ?_, ?_⟩
            · rw [wrI_ne (by omega), wrI_ne (by omega), wrI_ne (by omega), wrI_ne (by omega)]; exact z1
            · rw [wrI_ne (by omega), wrI_ne (by omega), wrI_ne (by omega), wrI_ne (by omega)]; exact z2
            · rw [wrI_ne (by omega), wrI_ne (by omega), wrI_ne (by omega), wrI_ne (by omega)]; exact z3
        · rw [wrI_ne (by omega), wrI_ne (by omega), wrI_ne (by omega), wrI_ne (by omega)]; exact i5 a i ha hi
      by_cases z : cl g m = true
      · rw [if_neg (bI_y z)]
        by_cases z0 : m = 0
        · rw [if_pos (by rw [z0]; rfl)]
          exact st z (Or.inl z0)
        · rw [if_neg (show ¬ nI m = (0 : Int32) from fun y => z0 ((nI_eq (by omega) (by decide)).mp y)), show nI m - (1 : Int32) = nI (m - 1) from nsub (b := 1) (by omega), ic N i1 (m - 1) (by omega), Option.bind_some]
          by_cases y : cl g (m - 1) = true
          · rw [if_neg (bI_y y)]
            obtain ⟨x1, x2⟩ := i2.ext z z0 y
            unfold f_X12_laysClosings_B88 f_X12_laysClosings_B101
            rw [gr94_75 hsN, Option.bind_some, gi94 hsN, Option.bind_some, i3, show nI (B + n) - (1 : Int32) = nI (B + (n - 1)) from (by rw [show nI (B + n) - (1 : Int32) = nI (B + n - 1) from nsub (b := 1) (by omega), show B + n - 1 = B + (n - 1) by omega]), st148 hsN (by omega), Option.bind_some, nI_1]
            refine ⟨_, rfl, i1.wi rfl, n, F, _, x2, ?_, fun i hi => ?_, fun a i ha hi => ?_⟩
            · rw [wrI_ne (by omega)]; exact i3
            · obtain ⟨z1, z2, z3⟩ := i4 i hi
              refine ⟨?_, ?_, ?_⟩
              · rw [wrI_ne (by omega)]; exact z1
              · rw [wrI_ne (by omega)]; exact z2
              · by_cases w : i = n - 1
                · rw [if_pos w, w, wrI_eq]
                · rw [if_neg w, wrI_ne (by omega)]; exact z3
            · rw [wrI_ne (by omega)]; exact i5 a i ha hi
          · rw [if_pos (bI_0.mpr y)]
            exact st z (Or.inr (Bool.eq_false_iff.mpr y))
      · rw [if_pos (bI_0.mpr z)]
        unfold f_X12_laysClosings_B101
        rw [nI_1]
        exact ⟨N, rfl, i1, n, F, L, i2.no (Bool.eq_false_iff.mpr z), i3, i4, i5⟩) (i := 0) (s := M) (by decide) ⟨Fr.rf, 0, fun _ => 0, fun _ => 0, ⟨fun i hi => by omega, fun i hi => by omega, fun t ht => by omega⟩, h72, fun i hi => by omega, fun _ _ _ _ => rfl⟩
  replace b1 : sItr (fun a : (Int32 × sMem) => f_X12_laysClosings_K19 94 v2 (nI g) a.1 a.2) sFuel (0, M) = some N := b1
  rw [b1, Option.bind_some]
  unfold f_X12_laysClosings_B107
  rw [nI_1]
  exact ⟨N, rfl, b2, b3⟩
/-- gates a .. b - 1 -/
theorem r_clos (h : KI M D G P E C W c0 c1 c2) {a b : Nat} {v2 : Int32} (hab : a ≤ b) (hbG : b ≤ G) (hv : ∀ g, g ≤ G → (v2 < nI g ↔ b ≤ g)) :
    ∃ N o, f_X12_laysClosings 94 (nI a) v2 M = some N ∧ Fr scR scS M N ∧ CLA (cw (uR M) c0 G E (M.2.1 140)) N o a b ∧ N.2.1 94 72 = nI (o b) ∧ o b ≤ 100 * (b - a) := by
  have hs := h.1
  have hb := h.n.2
  obtain ⟨_, hw⟩ := h.2.2.2.2.1
  have F0 : Fr scR scS M (wrI M 94 72 0) := Fr.rf.wi rfl
  obtain ⟨k0, eu0⟩ := h.ref F0
  obtain ⟨M1, a1, a2, a3⟩ := r_now k0
  rw [eu0] at a3
  have e0 : (wrI M 94 72 0).2.1 140 = M.2.1 140 := funext fun k => wrI_ne (by omega)
  rw [e0] at a3
  have hs1 := a2.hs k0.1
  have e1 : M1.2.1 140 = M.2.1 140 := by rw [← e0]; exact funext fun k => a2.i rfl
  have F1 : Fr scR scS M M1 := F0.tr (lay_q a2)
  unfold f_X12_laysClosings f_X12_laysClosings_L11
  rw [sr94 hs, pi94 hs, Option.bind_some, a1, Option.bind_some]
  obtain ⟨N, b1, b2, o, b3, b4, b5⟩ := itr_up (f := fun x : (Int32 × sMem) => f_X12_laysClosings_K11 94 v2 x.1 x.2) (fun g N => Fr pCg q0 M1 N ∧ ∃ o, a ≤ g ∧ CLA (cw (uR M) c0 G E (M.2.1 140)) N o a g ∧ N.2.1 94 72 = nI (o g) ∧ o g ≤ 100 * (g - a)) (fun N => Fr pCg q0 M1 N ∧ ∃ o, CLA (cw (uR M) c0 G E (M.2.1 140)) N o a b ∧ N.2.1 94 72 = nI (o b) ∧ o b ≤ 100 * (b - a)) b (by omega) (by
    rintro g N hg ⟨i1, o, i2, i3, i4, i5⟩
    dsimp only
    unfold f_X12_laysClosings_K11
    by_cases q : g = b
    · right
      subst q
      rw [if_pos ((hv g hbG).mpr (Nat.le_refl _))]
      exact ⟨N, rfl, i1, o, i3, i4, i5⟩
    · left
      refine ⟨by omega, ?_⟩
      rw [if_neg (fun z => by have := (hv g (by omega)).mp z; omega)]
      have hsN := i1.hs hs1
      obtain ⟨N', c1, c2, n, F, L, c3, c4, c5, c6⟩ := r_closG (M := N) (B := o g) (g := g) (cl := cw (uR M) c0 G E (M.2.1 140)) hsN (by omega) i4 (fun N' hF t ht => by
        have e2 : N'.2.1 140 = M.2.1 140 := by rw [← e1]; exact funext fun k => by rw [hF.i rfl, i1.i rfl]
        have := r_isClosed (u := uR M) (c0 := c0) (E := E) (g := g) (m := t) (hF.hs hsN) (by rw [e2]; exact hw) hb.1 (by
          rw [e2]
          intro g' m' hg' hm'
          rw [hF.i rfl, i1.i rfl]
          exact a3 g' m' hg' hm') (by omega) ht
        rw [e2] at this
        exact this) v2
      refine ⟨N', c1, i1.tr c2, fun x => if x ≤ g then o x else o g + n, by omega, ⟨?_, fun g' h1 h2 => ?_⟩, ?_, ?_⟩
      · dsimp only; rw [if_pos i2]; exact i3.1
      · dsimp only
        by_cases w : g' = g
        · subst w
          refine ⟨n, F, L, by rw [if_neg (by omega), if_pos (Nat.le_refl _)], c3, fun i hi => ?_⟩
          rw [if_pos (Nat.le_refl _)]
          exact c5 i hi
        · obtain ⟨n', F', L', d1, d2, d3⟩ := i3.2 g' h1 (by omega)
          have mono : ∀ d, g' + 1 + d ≤ g → o (g' + 1) ≤ o (g' + 1 + d) := fun d => by
            induction d with
            | zero => intro _; exact Nat.le_refl _
            | succ d ih =>
              intro hd
              obtain ⟨n2, _, _, x1, _⟩ := i3.2 (g' + 1 + d) (by omega) (by omega)
              have := ih (by omega)
              rw [show g' + 1 + (d + 1) = g' + 1 + d + 1 by omega, x1]
              omega
          have mm := mono (g - g' - 1) (by omega)
          rw [show g' + 1 + (g - g' - 1) = g by omega] at mm
          refine ⟨n', F', L', by rw [if_pos (by omega), if_pos (by omega)]; exact d1, d2, fun i hi => ?_⟩
          rw [if_pos (by omega), c6 146 _ (by decide) (by omega), c6 147 _ (by decide) (by omega), c6 148 _ (by decide) (by omega)]
          exact d3 i hi
      · dsimp only; rw [if_neg (by omega)]; exact c4
      · dsimp only; rw [if_neg (by omega)]
        have := c3.cnt
        omega) (i := a) (s := M1) hab ⟨Fr.rf, fun _ => 0, Nat.le_refl _, ⟨rfl, fun g h1 h2 => by omega⟩, by rw [a2.i rfl, wrI_eq]; rfl, Nat.zero_le _⟩
  rw [b1]
  exact ⟨N, o, rfl, F1.tr (cg_q b2), b3, b4, b5⟩
theorem ok_closings (h : IX M D Do G P E C W c0 c1 c2 n pc pn) (a x : Int32) : ∃ r M1 M2, f_X11_closings 0 a x M = some (r, M1) ∧ f_X12_closings 94 a x M1 = some (r, M2) ∧ Inv M2 := by
  have k := h.1
  have hc := k.hc
  have hb := k.n.2
  have e0 : (0 : Int32).toInt = 0 := rfl
  have e2 : (2 : Int32).toInt = 2 := rfl
  have f0 : (0 : Int64).toInt = 0 := rfl
  have f2 : (2 : Int64).toInt = 2 := rfl
  have bad : ¬ ((0 ≤ a.toInt ∧ a.toInt < (G : Int)) ∧ 0 ≤ x.toInt ∧ x.toInt ≤ 2) → ∃ r M1 M2, f_X11_closings 0 a x M = some (r, M1) ∧ f_X12_closings 94 a x M1 = some (r, M2) ∧ Inv M2 := fun hn => by
    refine ⟨-1, M, M, ?_, ?_, h.inv⟩
    · unfold f_X11_closings
      simp only [sr0 hc, k.cv.p0, k.cv.g1, k.tG, Option.bind_some]
      by_cases q : 0 ≤ a.toInt ∧ a.toInt < (G : Int)
      · rw [if_neg (bI_y q)]
        by_cases q1 : x < 0
        · rw [if_pos q1]
        · rw [if_neg q1]
          have q1' := le_i.mp (Int32.not_lt.mp q1)
          rw [if_neg (fun z => hn ⟨q, by have := le_i.mp z; omega⟩)]
      · rw [if_pos (bI_0.mpr q)]
    · unfold f_X12_closings
      simp only [sr94 k.1, k.rG, isIn_of, i64, Option.bind_some]
      by_cases q : 0 ≤ a.toInt ∧ a.toInt < (G : Int)
      · rw [if_neg (bI_y q), if_pos (bI_0.mpr (fun z => hn ⟨q, by omega⟩))]
      · rw [if_pos (bI_0.mpr q)]
  rcases arg_c a G (by omega) with ⟨g, hg, rfl⟩ | hn
  · by_cases qx : 0 ≤ x.toInt ∧ x.toInt ≤ 2
    · have he1 := inR hg (show G < 2147483648 by omega)
      have x1 : ¬ x < 0 := fun z => by have := lt_i.mp z; omega
      have x2 : x ≤ 2 := le_i.mpr (by omega)
      obtain ⟨N1, a1, a2, a3, k1, eu, e140, a4, a5⟩ := both_now k
      have hc1 := k1.hc
      obtain ⟨N2, o, b1, b2, b3, b4, b5⟩ := r_clos k1 (a := g) (b := g + 1) (v2 := nI g) (by omega) (by omega) (fun g' hg' => by rw [clt (by omega) (by omega)]; omega)
      rw [eu, e140] at b3
      obtain ⟨nn, F, L, d1, d2, d3⟩ := b3.2 g (Nat.le_refl _) (by omega)
      rw [b3.1, Nat.zero_add] at d1
      rw [d1] at b4
      have hs2 := b2.hs k1.1
      have hnn := d2.cnt
      have d3' : 0 < nn → N2.2.1 147 0 = nI (F 0) ∧ N2.2.1 148 0 = nI (L 0) := fun hp => by
        have := (d3 0 hp).2
        rw [b3.1] at this
        exact this
      have ff := c_firstN (i := 0) (x := 0) hc1 a4 (by omega) d2 (Nat.zero_le _) (Or.inl ⟨rfl, rfl⟩)
      replace ff : f_X11_firstClosed 88 (nI g) 0 N1 = some (nth nn F 0) := ff
      have l147 : ldI 14 N2 147 0 = some (N2.2.1 147 0) := ldI_n (j := 0) (rs147 hs2) (by decide) (by decide)
      have l148 : ldI 14 N2 148 0 = some (N2.2.1 148 0) := ldI_n (j := 0) (rs148 hs2) (by decide) (by decide)
      refine ⟨if x = 0 then nI nn else if nn = 0 then -1 else if x = 1 then nI (F 0) else nI (L 0), N1, N2, ?_, ?_, (h.q a2 a3 b2).inv⟩
      · unfold f_X11_closings
        simp only [sr0 hc, k.cv.p0, k.cv.g1, k.tG, Option.bind_some, bI_t he1, one0, if_false, if_neg x1, if_pos x2, a1, c_count hc1 a4 (show g < 6 by omega) d2, gr0_11 hc1, ff]
        by_cases q0 : x = 0
        · rw [if_pos q0, if_pos q0]
        · rw [if_neg q0, if_neg q0]
          by_cases qn : nn = 0
          · have en : nth nn F 0 = -1 := by unfold nth; rw [if_neg (by omega)]; rfl
            rw [if_pos qn, en, if_pos rfl]
            by_cases q1 : x = 1
            · rw [if_pos q1]
            · rw [if_neg q1]
          · have en : nth nn F 0 = nI (F 0) := by unfold nth; rw [if_pos (by omega)]
            rw [if_neg qn]
            by_cases q1 : x = 1
            · rw [if_pos q1, if_pos q1, en]
            · rw [if_neg q1, if_neg q1, if_neg (nth_no d2 (by omega)), en, c_lastOf hc1 a4 (by omega) d2 (by omega)]
              rfl
      · unfold f_X12_closings
        simp only [sr94 k1.1, k1.rG, isIn_of, i64, Option.bind_some, bI_t he1, one0, if_false, b1, gi94 hs2, b4, gr94_74 hs2, gr94_75 hs2, l147, l148]
        rw [if_neg (bI_y (by omega))]
        by_cases q0 : x = 0
        · rw [if_pos q0, if_pos q0]
        · rw [if_neg q0, if_neg q0]
          by_cases qn : nn = 0
          · rw [if_pos qn, if_pos (by rw [qn]; rfl)]
          · rw [if_neg qn, if_neg (show ¬ nI nn = (0 : Int32) from fun z => qn ((nI_eq (by omega) (by decide)).mp z))]
            obtain ⟨y1, y2⟩ := d3' (by omega)
            rw [y1, y2]
            by_cases q1 : x = 1
            · rw [if_pos q1, if_pos q1]
            · rw [if_neg q1, if_neg q1]
    · exact bad (fun z => qx z.2)
  · exact bad (fun z => hn z.1)
end RCL
