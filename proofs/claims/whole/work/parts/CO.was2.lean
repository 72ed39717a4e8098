/-! HOW LATE IT WAS: the reference; was -/
def pFt : Nat → Nat → Bool := fun a k => pLay a k || a == 154 || (a == 94 && k == 83)
section WS2
variable {M N : sMem} {D Do G P E C W k e c g m s n pc pn l r sc : Nat} {c0 c1 c2 : List Nat} {w : Nat → Int32} {u : Nat → Nat → Int32} {sm sg sf : Nat → Nat}
theorem ft_sc {a k : Nat} (h : scR a k = false) : pFt a k = false := imF (fun z => by unfold pFt pLay pSh at z; unfold scR; simp only [Bool.or_eq_true, Bool.and_eq_true, beq_iff_eq, decide_eq_true_eq] at z ⊢; omega) h
theorem ft_sh {a k : Nat} (h : pFt a k = false) : pSh a k = false := imF (fun z => by unfold pFt pLay; simp only [Bool.or_eq_true]; exact Or.inl (Or.inl (Or.inl z))) h
theorem r_cby (hR : RV u N) (hu : DU u G P E C W c0 c1 c2) (hw : WG w G P E C) (h140 : ∀ i, i < 27 → N.2.1 140 i = w i) (h144 : ∀ g m, g < G → m < 200 → N.2.1 144 (200 * g + m) = bI (anS u c0 E (LF w) e g m = true)) (he : e < E) (hl : l < 100) (hg : g < G) (hm : m < 200) : ∃ N', f_X12_isClosedBy 94 (nI e) (nI l) (nI g) (nI m) N = some (bI (cbS u c0 E (LF w) (upF w G) e l g m = true), N') ∧ Fr pSh qR2 N N' := by
  have hs := hR.1
  have hb := hu.2.1
  have u1 := upb_w hw hb.1 (show g < 6 by omega)
  unfold f_X12_isClosedBy f_X12_isClosedBy_B36 cbS
  rw [sr94 hs, r_isUp hs (by omega), Option.bind_some, h140 _ (by omega)]
  by_cases z : w (1 + g) = 1
  · rw [if_neg (bI_y z), u1.mpr z, Bool.not_true, Bool.false_and]
    exact ⟨N, rfl, Fr.rf⟩
  · have : upb (upF w G) g = false := Bool.eq_false_iff.mpr (fun y => z (u1.mp y))
    rw [if_pos (bI_0.mpr z), this, Bool.not_false, Bool.true_and, gr94_68 hs, Option.bind_some, show (200 : Int32) * nI g + nI m = nI (200 * g + m) from (by rw [show (200 : Int32) = nI 200 from rfl, pk_mul, nI_add]), ld144 hs (by omega), Option.bind_some, h144 g m hg hm]
    cases c1 : anS u c0 E (LF w) e g m with
    | true =>
      rw [bI_t rfl, if_neg (by decide), Bool.true_or]
      exact ⟨N, rfl, Fr.rf⟩
    | false =>
      obtain ⟨N', n1, n2⟩ := r_doesShut (l := l) (m := m) hR hu he hg hl hm
      rw [bI_f (by decide), if_pos rfl, Bool.false_or, n1]
      dsimp only [Option.bind_some]
      cases c2 : shutS u c0 e g (nI l) (nI m) with
      | true =>
        rw [bI_t rfl, if_neg (by decide)]
        exact ⟨N', rfl, n2⟩
      | false =>
        rw [bI_f (by decide), if_pos rfl]
        exact ⟨N', rfl, n2⟩
theorem sh_154 {a k : Nat} (h : a ≠ 94) : pSh a k = false := by unfold pSh; rw [beq_eq_false_iff_ne.mpr h]; rfl
theorem r_fits (h : KI M D G P E C W c0 c1 c2) (hS : SnS M G sc sm sg sf) (he : e < E) {fit : Nat → Bool} (hfit : fit = fitS (fun l g m => cbS (uR M) c0 E (LF (M.2.1 140)) (upF (M.2.1 140) G) e l g m) sc sm sg sf) : ∃ N, f_X12_laysFits 94 (nI e) M = some N ∧ Fr pFt qR2 M N ∧ (∀ l, l < 100 → N.2.1 154 l = bI (fit l = true)) ∧ N.2.1 94 83 = nI (flS fit 100).length ∧ ∀ g m, g < G → m < 200 → N.2.1 144 (200 * g + m) = bI (anS (uR M) c0 E (LF (M.2.1 140)) e g m = true) := by
  have hs := h.1
  have hb := h.n.2
  have hu := h.2.1
  obtain ⟨_, hw⟩ := h.2.2.2.2.1
  obtain ⟨A, a1, a2, a3⟩ := r_lays (but := e) (L := LF (M.2.1 140)) (RV_uR hs) hu hw.2.2.1 (Or.inr (by omega))
  rw [bI0_n (by omega)] at a1
  have hsA := a2.hs hs
  obtain ⟨B, hB⟩ : ∃ B, B = wrI A 94 83 0 := ⟨_, rfl⟩
  have FB : Fr pFt qR2 M B := by rw [hB]; exact (a2.mono (fun a k z => by unfold pFt at z; revert z; cases pLay a k <;> simp) (fun _ _ z => z)).wi rfl
  have hsB := FB.hs hs
  unfold f_X12_laysFits f_X12_laysFits_L12
  rw [sr94 hs, a1, Option.bind_some, pi94 hsA, Option.bind_some, ← hB]
  obtain ⟨N, b1, b2⟩ := itr_up (f := fun a : (Int32 × sMem) => f_X12_laysFits_K12 94 (nI e) a.1 a.2) (fun j N => Fr pFt qR2 M N ∧ (∀ l, l < j → N.2.1 154 l = bI (fit l = true)) ∧ N.2.1 94 83 = nI (flS fit j).length ∧ ∀ g m, g < G → m < 200 → N.2.1 144 (200 * g + m) = bI (anS (uR M) c0 E (LF (M.2.1 140)) e g m = true)) (fun N => Fr pFt qR2 M N ∧ (∀ l, l < 100 → N.2.1 154 l = bI (fit l = true)) ∧ N.2.1 94 83 = nI (flS fit 100).length ∧ ∀ g m, g < G → m < 200 → N.2.1 144 (200 * g + m) = bI (anS (uR M) c0 E (LF (M.2.1 140)) e g m = true)) 100 (by decide) (by
    rintro j N hj ⟨i1, i2, i3, i4⟩
    dsimp only
    unfold f_X12_laysFits_K12
    by_cases q : j = 100
    · right
      subst q
      rw [if_pos (by decide)]
      exact ⟨N, rfl, i1, i2, i3, i4⟩
    · left
      refine ⟨by omega, ?_⟩
      rw [if_neg (by rw [show (99 : Int32) = nI 99 from rfl, clt (by decide) (by omega)]; omega)]
      unfold f_X12_laysFits_L23
      -- the rows
      obtain ⟨x, N1, c1, c2, c3⟩ : ∃ x N1, sItr (fun a : (Int32 × Int32 × sMem) => f_X12_laysFits_K23 94 (nI e) (nI j) a.1 a.2.1 a.2.2) sFuel (1, 0, N) = some (x, N1) ∧ Fr pSh qR2 N N1 ∧ x = bI (fit j = true) := by
        obtain ⟨b, b1, b2⟩ := itr_g (f := fun a : (Int32 × Int32 × sMem) => f_X12_laysFits_K23 94 (nI e) (nI j) a.1 a.2.1 a.2.2) (fun i (s : Int32 × sMem) => (s.1, nI i, s.2)) (fun i s => Fr pSh qR2 N s.2 ∧ ((s.1 = 1 ∧ ∀ i', i' < i → (cbS (uR M) c0 E (LF (M.2.1 140)) (upF (M.2.1 140) G) e j (sg i') (sm i') == decide (sf i' = 1)) = true) ∨ (s.1 = 0 ∧ fit j = false))) (fun b => Fr pSh qR2 N b.2 ∧ b.1 = bI (fit j = true)) sc (by have := hS.1; omega) (by
          rintro i ⟨x, N1⟩ hi ⟨i5, i6⟩
          dsimp only at i5 i6 ⊢
          have F1 : Fr pFt qR2 M N1 := i1.tr (i5.mono (fun _ _ z => ft_sh z) (fun _ _ z => z))
          have hs1 := F1.hs hs
          have e80 : N1.2.1 94 80 = nI sc := by rw [F1.i rfl]; exact hS.2.2.1
          have hsc := hS.1
          unfold f_X12_laysFits_K23 f_X12_laysFits_B82 f_X12_laysFits_B90
          rw [gi94 hs1, Option.bind_some, e80]
          by_cases q : i = sc
          · right
            rw [if_pos (nI_le (by omega) (by omega))]
            refine ⟨_, rfl, i5, ?_⟩
            rcases i6 with ⟨z1, z2⟩ | ⟨z1, z2⟩
            · dsimp only
              have hy : fit j = true := by rw [hfit]; exact all_iff.mpr (fun i' hi' => z2 i' (by omega))
              rw [z1, bI_t hy]
            · dsimp only
              rw [z1, z2]; rfl
          · rw [if_neg (nI_ge (by omega) (by omega))]
            rcases i6 with ⟨z1, z2⟩ | ⟨z1, z2⟩
            · left
              refine ⟨by omega, ?_⟩
              subst z1
              obtain ⟨⟨s1, s2, s3⟩, ⟨s4, s5, s6⟩, _⟩ := hS.2.2.2 i (by omega)
              have R1 : RV (uR M) N1 := (RV_uR hs).fr F1 (fun a k h1 h2 => Bool.eq_false_iff.mpr (fun y => by unfold pFt pLay pSh at y; simp only [Bool.or_eq_true, Bool.and_eq_true, beq_iff_eq] at y; omega))
              obtain ⟨N2, n1, n2⟩ := r_cby (e := e) (l := j) (w := M.2.1 140) (g := sg i) (m := sm i) R1 hu hw (fun x _ => F1.i rfl) (fun g m hg hm => by rw [i5.i (sh_154 (by decide))]; exact i4 g m hg hm) he (by omega) s2 s1
              have hs2 := n2.hs hs1
              have e153 : ∀ x, N1.2.1 153 x = M.2.1 153 x := fun x => F1.i rfl
              have x3 : (3 : Int32) * nI i = nI (3 * i) := by rw [show (3 : Int32) = nI 3 from rfl, pk_mul]
              rw [if_neg (by decide), gr94_81 hs1, Option.bind_some, x3, show nI (3 * i) + (1 : Int32) = nI (3 * i + 1) from nI_1 _, ld153 hs1 (by omega), Option.bind_some, Option.bind_some, ld153 hs1 (by omega), Option.bind_some, e153, e153, s4, s5, n1]
              dsimp only [Option.bind_some]
              rw [gr94_81 hs2, Option.bind_some, show nI (3 * i) + (2 : Int32) = nI (3 * i + 2) from nI_add _ 2, ld153 hs2 (by omega), Option.bind_some, n2.i (sh_154 (by decide)), e153, s6, nI_1]
              have F2 := i5.tr n2
              have good : cbS (uR M) c0 E (LF (M.2.1 140)) (upF (M.2.1 140) G) e j (sg i) (sm i) = decide (sf i = 1) → ∀ i', i' < i + 1 → (cbS (uR M) c0 E (LF (M.2.1 140)) (upF (M.2.1 140) G) e j (sg i') (sm i') == decide (sf i' = 1)) = true := fun hv i' hi' => by
                by_cases y : i' = i
                · subst y; rw [hv]; exact beq_self_eq_true _
                · exact z2 i' (by omega)
              have badd : cbS (uR M) c0 E (LF (M.2.1 140)) (upF (M.2.1 140) G) e j (sg i) (sm i) ≠ decide (sf i = 1) → fit j = false := fun hv => Bool.eq_false_iff.mpr (fun y => by
                rw [hfit] at y
                have := all_iff.mp y i (by omega)
                exact hv (beq_iff_eq.mp this))
              cases hv : cbS (uR M) c0 E (LF (M.2.1 140)) (upF (M.2.1 140) G) e j (sg i) (sm i) with
              | true =>
                rw [hv] at good badd
                rcases (show sf i = 0 ∨ sf i = 1 by omega) with z | z
                · rw [if_neg (show ¬ nI (sf i) = (1 : Int32) from (by rw [z]; decide)), bI_t rfl, if_neg (by decide)]
                  exact ⟨(0, N2), rfl, F2, Or.inr ⟨rfl, badd (by rw [z]; decide)⟩⟩
                · rw [if_pos (show nI (sf i) = (1 : Int32) from (by rw [z]; rfl)), bI_t rfl, if_pos rfl]
                  exact ⟨(1, N2), rfl, F2, Or.inl ⟨rfl, good (by rw [z]; decide)⟩⟩
              | false =>
                rw [hv] at good badd
                rcases (show sf i = 0 ∨ sf i = 1 by omega) with z | z
                · rw [if_neg (show ¬ nI (sf i) = (1 : Int32) from (by rw [z]; decide)), bI_f (by decide), if_pos rfl]
                  exact ⟨(1, N2), rfl, F2, Or.inl ⟨rfl, good (by rw [z]; decide)⟩⟩
                · rw [if_pos (show nI (sf i) = (1 : Int32) from (by rw [z]; rfl)), bI_f (by decide), if_neg (by decide)]
                  exact ⟨(0, N2), rfl, F2, Or.inr ⟨rfl, badd (by rw [z]; decide)⟩⟩
            · right
              rw [if_pos z1]
              exact ⟨_, rfl, i5, by dsimp only; rw [z1, z2]; rfl⟩) (i := 0) (s := (1, N)) (by omega) ⟨Fr.rf, Or.inl ⟨rfl, fun i hi => by omega⟩⟩
        exact ⟨b.1, b.2, b1, b2.1, b2.2⟩
      subst c3
      have F1 : Fr pFt qR2 M N1 := i1.tr (c2.mono (fun _ _ z => ft_sh z) (fun _ _ z => z))
      have hs1 := F1.hs hs
      have e83 : N1.2.1 94 83 = nI (flS fit j).length := by rw [c2.i rfl]; exact i3
      have e144 : ∀ g m, g < G → m < 200 → N1.2.1 144 (200 * g + m) = bI (anS (uR M) c0 E (LF (M.2.1 140)) e g m = true) := fun g m hg hm => by rw [c2.i (sh_154 (by decide))]; exact i4 g m hg hm
      have hle := flS_le fit j
      rw [c1, Option.bind_some]
      unfold f_X12_laysFits_B97 f_X12_laysFits_B118
      have hs2 : RefS (wrI N1 154 j (bI (fit j = true))).1 (wrI N1 154 j (bI (fit j = true))).2.2.2 := hs1
      rw [gr94_82 hs1, Option.bind_some, st154 hs1 (by omega) bI_01, Option.bind_some]
      have v154 : ∀ l, l < j + 1 → (wrI N1 154 j (bI (fit j = true))).2.1 154 l = bI (fit l = true) := fun l hl => by
        by_cases y : l = j
        · subst y; rw [wrI_eq]
        · rw [wrI_ne (by omega), c2.i (sh_154 (by decide))]; exact i2 l (by omega)
      by_cases z : fit j = true
      · have efl : flS fit (j + 1) = flS fit j ++ [j] := if_pos z
        rw [if_neg (bI_y z), gi94 hs2, Option.bind_some, wrI_ne (by omega), e83, nI_1, pi94 hs2, Option.bind_some, nI_1, efl, List.length_append]
        exact ⟨_, rfl, (F1.wi rfl).wi rfl, fun l hl => by rw [wrI_ne (by omega)]; exact v154 l hl, by rw [wrI_eq]; rfl, fun g m hg hm => by rw [wrI_ne (by omega), wrI_ne (by omega)]; exact e144 g m hg hm⟩
      · have efl : flS fit (j + 1) = flS fit j := if_neg z
        rw [if_pos (bI_0.mpr z), nI_1, efl]
        exact ⟨_, rfl, F1.wi rfl, v154, by rw [wrI_ne (by omega)]; exact e83, fun g m hg hm => by rw [wrI_ne (by omega)]; exact e144 g m hg hm⟩) (i := 0) (s := B) (by decide) ⟨FB, fun l hl => by omega, by rw [hB, wrI_eq]; rfl, fun g m hg hm => by rw [hB, wrI_ne (by omega)]; exact a3 g m hg hm⟩
  replace b1 : sItr (fun a : (Int32 × sMem) => f_X12_laysFits_K12 94 (nI e) a.1 a.2) sFuel (0, B) = some N := b1
  rw [b1]
  exact ⟨N, rfl, b2⟩
/-- the first, the last of a list -/
def lstA (l : List Nat) : Int32 := if l.length = 0 then -1 else nI (l.getD 0 0)
def lstZ (l : List Nat) : Int32 := if l.length = 0 then -1 else nI (l.getD (l.length - 1) 0)
theorem lstA_s {l : List Nat} {x : Nat} : lstA (l ++ [x]) = if l.length = 0 then nI x else lstA l := by
  unfold lstA
  have e : (l ++ [x]).length = l.length + 1 := by rw [List.length_append]; rfl
  rw [if_neg (by omega)]
  by_cases q : l.length = 0
  · have : l = [] := List.length_eq_zero_iff.mp q
    subst this
    rfl
  · rw [if_neg q, if_neg q, List.getD_eq_getElem?_getD, List.getD_eq_getElem?_getD, List.getElem?_append_left (by omega)]
theorem lstZ_s {l : List Nat} {x : Nat} : lstZ (l ++ [x]) = nI x := by
  unfold lstZ
  have e : (l ++ [x]).length = l.length + 1 := by rw [List.length_append]; rfl
  rw [if_neg (by omega), e, Nat.add_sub_cancel]
  congr 1
  simp [List.getD]
theorem ok_was (h : IX M D Do G P E C W c0 c1 c2 n pc pn) (a x : Int32) : ∃ r M1 M2, f_X11_was 0 a x M = some (r, M1) ∧ f_X12_was 94 a x M1 = some (r, M2) ∧ Inv M2 := by
  have k := h.1
  have hc := k.hc
  have hb := k.n.2
  have hl : 187 ≤ M.1.length := k.cv.ln
  have e0 : (0 : Int32).toInt = 0 := rfl
  have e2 : (2 : Int32).toInt = 2 := rfl
  have f0 : (0 : Int64).toInt = 0 := rfl
  have f2 : (2 : Int64).toInt = 2 := rfl
  have bad : ¬ ((0 ≤ a.toInt ∧ a.toInt < (E : Int)) ∧ 0 ≤ x.toInt ∧ x.toInt ≤ 2) → ∃ r M1 M2, f_X11_was 0 a x M = some (r, M1) ∧ f_X12_was 94 a x M1 = some (r, M2) ∧ Inv M2 := fun hn => by
    refine ⟨-1, M, M, ?_, ?_, h.inv⟩
    · unfold f_X11_was
      simp only [sr0 hc, k.cv.p0, k.cv.g4, k.tE, Option.bind_some]
      by_cases q : 0 ≤ a.toInt ∧ a.toInt < (E : Int)
      · rw [if_neg (bI_y q)]
        by_cases q1 : x < 0
        · rw [if_pos q1]
        · rw [if_neg q1]
          have q1' := le_i.mp (Int32.not_lt.mp q1)
          rw [if_neg (fun z => hn ⟨q, by have := le_i.mp z; omega⟩)]
      · rw [if_pos (bI_0.mpr q)]
    · unfold f_X12_was
      simp only [sr94 k.1, k.rE, isIn_of, i64, Option.bind_some]
      by_cases q : 0 ≤ a.toInt ∧ a.toInt < (E : Int)
      · rw [if_neg (bI_y q), if_pos (bI_0.mpr (fun z => hn ⟨q, by omega⟩))]
      · rw [if_pos (bI_0.mpr q)]
  rcases arg_c a E (by omega) with ⟨e, he, rfl⟩ | hn
  · by_cases qx : 0 ≤ x.toInt ∧ x.toInt ≤ 2
    · have he1 := inR he (show E < 2147483648 by omega)
      have x1 : ¬ x < 0 := fun z => by have := lt_i.mp z; omega
      have x2 : x ≤ 2 := le_i.mpr (by omega)
      obtain ⟨sc, sm, sg, sf, hS⟩ := h.2.2.2.1.fn hb.1
      obtain ⟨N1, a1, a2, a3, a4, a5⟩ := c_finds k hS he
      obtain ⟨k1, eu⟩ := k.cls a2 a3
      have e140 : N1.2.1 140 = M.2.1 140 := funext fun k => a2.i (by omega) rfl
      have hS1 : SnS N1 G sc sm sg sf := by
        obtain ⟨s1, s2, s3, s4⟩ := hS
        refine ⟨s1, by rw [a2.i (by omega) rfl]; exact s2, by rw [a2.i (by omega) rfl]; exact s3, fun i hi => ?_⟩
        rw [a2.i (by omega) rfl, a2.i (by omega) rfl, a2.i (by omega) rfl, a2.i (by omega) rfl, a2.i (by omega) rfl, a2.i (by omega) rfl]
        exact s4 i hi
      obtain ⟨fit, hfit⟩ : ∃ fit, fit = fitS (fun l g m => cbS (uR M) c0 E (LF (M.2.1 140)) (upF (M.2.1 140) G) e l g m) sc sm sg sf := ⟨_, rfl⟩
      rw [← hfit] at a1 a5
      obtain ⟨N2, b1, b2, b3, b4, b5⟩ := r_fits k1 hS1 he (fit := fit) (by rw [eu, e140]; exact hfit)
      have hs2 := b2.hs k1.1
      have hle := flS_le fit 100
      -- the reference's least and most
      have lm : sItr (fun a : (Int32 × Int32 × Int32) => f_X12_was_K35 94 x a.1 a.2.1 a.2.2 N2) sFuel (-1, -1, 0) = some (lstA (flS fit 100), lstZ (flS fit 100)) := by
        obtain ⟨b, d1, d2⟩ := itr_g (f := fun a : (Int32 × Int32 × Int32) => f_X12_was_K35 94 x a.1 a.2.1 a.2.2 N2) (fun j (_ : Unit) => (lstA (flS fit j), lstZ (flS fit j), nI j)) (fun _ _ => True) (fun b => b = (lstA (flS fit 100), lstZ (flS fit 100))) 100 (by decide) (by
          intro j s hj _
          dsimp only
          unfold f_X12_was_K35 f_X12_was_B64 f_X12_was_B60
          by_cases q : j = 100
          · right
            subst q
            rw [if_pos (by decide)]
            exact ⟨_, rfl, rfl⟩
          · left
            refine ⟨by omega, (), ?_, trivial⟩
            rw [if_neg (by rw [show (99 : Int32) = nI 99 from rfl, clt (by decide) (by omega)]; omega), gr94_82 hs2, Option.bind_some, ld154 hs2 (by omega), Option.bind_some, b3 j (by omega), nI_1]
            by_cases z : fit j = true
            · have efl : flS fit (j + 1) = flS fit j ++ [j] := if_pos z
              rw [if_neg (bI_y z), efl, lstA_s, lstZ_s]
              unfold f_X12_was_B64
              rw [nI_1]
              by_cases y : (flS fit j).length = 0
              · rw [if_pos (show lstA (flS fit j) = -1 from if_pos y), if_pos y]
              · have hne : ¬ lstA (flS fit j) = -1 := by
                  unfold lstA
                  rw [if_neg y]
                  have hm : (flS fit j).getD 0 0 < j := by
                    have h0 : 0 < (flS fit j).length := by omega
                    have := flS_mem (fit := fit) (n := j) (x := (flS fit j)[0]) (List.getElem_mem h0)
                    rw [List.getD_eq_getElem?_getD, List.getElem?_eq_getElem h0]
                    exact this.1
                  intro w
                  have w2 : nI ((flS fit j).getD 0 0) = mI := w
                  rw [cneg (by omega)] at w2; exact w2
                rw [if_neg hne, if_neg y]
            · have efl : flS fit (j + 1) = flS fit j := if_neg z
              rw [if_pos (bI_0.mpr z), efl]) (i := 0) (s := ()) (by decide) trivial
        replace d1 : sItr (fun a : (Int32 × Int32 × Int32) => f_X12_was_K35 94 x a.1 a.2.1 a.2.2 N2) sFuel (-1, -1, 0) = some b := d1
        rw [d1, d2]
      refine ⟨if x = 0 then nI (flS fit 100).length else if x = 1 then lstA (flS fit 100) else lstZ (flS fit 100), N1, N2, ?_, ?_, (h.q a2 a3 (b2.mono (fun _ _ z => ft_sc z) (fun _ _ z => r2_sc z))).inv⟩
      · unfold f_X11_was
        simp only [sr0 hc, k.cv.p0, k.cv.g4, k.tE, Option.bind_some, bI_t he1, one0, if_false, if_neg x1, if_pos x2, a1, gr0_14 k1.hc]
        by_cases q0 : x = 0
        · rw [if_pos q0, if_pos q0]
        · rw [if_neg q0, if_neg q0]
          unfold lstA lstZ
          by_cases y : (flS fit 100).length = 0
          · rw [if_pos (show nI (flS fit 100).length = (0 : Int32) by rw [y]; rfl), if_pos y, if_pos y]
            by_cases q1 : x = 1
            · rw [if_pos q1]
            · rw [if_neg q1]
          · rw [if_neg (show ¬ nI (flS fit 100).length = (0 : Int32) from fun z => y ((nI_eq (by omega) (by decide)).mp z)), if_neg y, if_neg y]
            by_cases q1 : x = 1
            · rw [if_pos q1, if_pos q1, show ldI 14 N1 90 0 = some (N1.2.1 90 0) from ld90 k1.hc (j := 0) (by decide), a5 0 (by omega)]; rfl
            · rw [if_neg q1, if_neg q1, show nI (flS fit 100).length - (1 : Int32) = nI ((flS fit 100).length - 1) from nsub (b := 1) (by omega), ld90 k1.hc (by omega), a5 _ (by omega)]; rfl
      · unfold f_X12_was f_X12_was_L35
        simp only [sr94 k1.1, k1.rE, isIn_of, i64, Option.bind_some, bI_t he1, one0, if_false, b1, lm]
        rw [if_neg (bI_y (by omega))]
        unfold f_X12_was_B70
        by_cases q0 : x = 0
        · rw [if_pos q0, if_pos q0, gi94 hs2, b4]; rfl
        · rw [if_neg q0, if_neg q0]
          by_cases q1 : x = 1
          · rw [if_pos q1, if_pos q1]
          · rw [if_neg q1, if_neg q1]
    · exact bad (fun z => qx z.2)
  · exact bad (fun z => hn z.1)
end WS2
