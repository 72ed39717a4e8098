/-! THE CLASS's rows of bits -/
def pF1 : Nat → Nat → Bool := fun a _ => a == 69
def pRow : Nat → Nat → Bool := fun a k => a == 69 || a == 72 || (a == 68 && k == 4) || a == 78
def pRn : Nat → Nat → Bool := fun a k => a == 69 || a == 72 || (a == 68 && k == 4)
theorem rn_row {a k : Nat} (h : pRow a k = false) : pRn a k = false := by
  unfold pRow at h; unfold pRn; revert h; cases (a == 69) <;> cases (a == 72) <;> cases (a == 68) <;> cases (k == 4) <;> simp
def qRow : Nat → Nat → Bool := fun a _ => decide (187 ≤ a)
def rRow : Nat → Nat → Bool := fun a _ => a == 77
theorem offD_row : offD pRow := by
  intro a k h
  unfold pRow at h
  simp only [Bool.or_eq_true, Bool.and_eq_true, beq_iff_eq] at h
  omega
theorem offD_rn : offD pRn := by
  intro a k h
  unfold pRn at h
  simp only [Bool.or_eq_true, Bool.and_eq_true, beq_iff_eq] at h
  omega
theorem offR_row : offR rRow := by
  refine ⟨by decide, rfl, rfl, rfl, rfl, fun a h1 h2 => ?_, by decide⟩
  unfold rRow
  exact beq_eq_false_iff_ne.mpr (by omega)
def rowS (u : Nat → Nat → Int32) (c0 : List Nat) (G e l g m : Nat) : Bool := decide (g < G ∧ m < 200) && shutS u c0 e g (nI l) (nI m)
/-- the rows that are marked are what they should be -/
def RowsI (u : Nat → Nat → Int32) (M : sMem) (G : Nat) (c0 : List Nat) : Prop :=
  (∀ w q, w < 500 → M.2.2.2 77 w = some q → 187 ≤ q ∧ M.1[q]? = some (15, 24)) ∧ (∀ w w' q, w < 500 → w' < 500 → M.2.2.2 77 w = some q → M.2.2.2 77 w' = some q → w = w') ∧
  ∀ w, w < 500 → M.2.1 78 w = 1 → ∃ q, M.2.2.2 77 w = some q ∧ ∀ g m, g < 6 → m < 256 → rb (M.2.2.1 q) g m = rowS u c0 G (w / 100) (w % 100) g m
section RO
variable {u : Nat → Nat → Int32} {M N : sMem} {D G P E C W g k e c l m : Nat} {c0 c1 c2 : List Nat}
theorem RowsI.fr {X Q R : Nat → Nat → Bool} (h : RowsI u M G c0) (hc : ClsS M.1 M.2.2.2) (hF : FrB X Q R M N) (hX : ∀ k, X 78 k = false) (hQ : ∀ a k, 187 ≤ a → Q a k = false) (hR : ∀ k, R 77 k = false) : RowsI u N G c0 := by
  have h77 := lt_of_sh (cs77 hc)
  have h78 := lt_of_sh (cs78 hc)
  have e77 : ∀ w, N.2.2.2 77 w = M.2.2.2 77 w := fun w => hF.r h77 (hR w)
  refine ⟨fun w q hw hq => ?_, fun w w' q hw hw' h1 h2 => ?_, fun w hw h1 => ?_⟩
  · rw [e77] at hq
    exact ⟨(h.1 w q hw hq).1, hF.sh (h.1 w q hw hq).2⟩
  · rw [e77] at h1 h2
    exact h.2.1 w w' q hw hw' h1 h2
  · rw [hF.i h78 (hX w)] at h1
    obtain ⟨q, h2, h3⟩ := h.2.2 w hw h1
    have hq := h.1 w q hw h2
    refine ⟨q, by rw [e77]; exact h2, fun g m hg hm => ?_⟩
    have e : N.2.2.1 q = M.2.2.1 q := by funext k; exact hF.j (lt_of_sh hq.2) (hQ q k hq.1)
    rw [e]; exact h3 g m hg hm
theorem c_setFacts (h : CV u M D G P E C W c0 c1 c2) (hu : DU u G P E C W c0 c1 c2) (he : e < E) (hg : g < G) (H m : Int32) : ∃ N, f_X4_setFacts 76 (nI e) (nI g) H m M = some N ∧ Fr pF1 q0 M N ∧ N.2.1 69 18 = u 133 (6 + g) - H ∧ N.2.1 69 19 = H - u 135 (15 + 3 * e) - u 133 (6 + g) ∧ N.2.1 69 10 = u 135 (15 + 3 * e) ∧ N.2.1 69 11 = u 135 (16 + 3 * e) ∧ N.2.1 69 20 = m := by
  have hc := h.hc
  unfold f_X4_setFacts f_X4_setFacts_B93
  have e0 := h.cE hu he (j := 0) (by omega)
  rw [show 15 + 3 * e + 0 = 15 + 3 * e by omega] at e0
  rw [sr76 hc, h.p76, Option.bind_some, h.g1, Option.bind_some, nl 0, h.cG hu hg, Option.bind_some, Option.bind_some, h.g4, Option.bind_some, e0, Option.bind_some]
  simp (disch := first | assumption | (simp only [wrI_sh, wrI_rf, wrJ_sh, wrJ_rf]; assumption) | omega | rfl | decide) only [gi76, gj76, pi76, pj76, pr76, sr76, gr76_0, gr76_2, gr76_3, gr76_4, gi68, gj68, pi68, pj68, pr68, sr68, gr68_0, gr68_1, gr68_2, gr68_3, ld69, st69, al69, nlit, nneg, nI_add, pk_mul, nsub, Option.bind_some, if_true, if_false, Nat.reduceEqDiff, Nat.reduceLeDiff, Nat.reduceLT, Nat.reduceAdd, Nat.reduceMul, Nat.reduceSub]
  have f3 : Fr pF1 q0 M (wrI (wrI (wrI M 69 18 (u 133 (6 + g) - H)) 69 19 (H - u 135 (15 + 3 * e) - u 133 (6 + g))) 69 10 (u 135 (15 + 3 * e))) := ((Fr.rf.wi (a := 69) rfl).wi (a := 69) rfl).wi (a := 69) rfl
  have h3 : CV u (wrI (wrI (wrI M 69 18 (u 133 (6 + g) - H)) 69 19 (H - u 135 (15 + 3 * e) - u 133 (6 + g))) 69 10 (u 135 (15 + 3 * e))) D G P E C W c0 c1 c2 := h.fr (R := fun _ _ => false) f3.fa (fun a k z => by unfold pF1 at z; simp only [beq_iff_eq] at z; omega) ⟨fun _ _ => rfl, rfl, rfl, rfl, rfl, fun _ _ _ => rfl, fun _ _ => rfl⟩
  have e1 := h3.cE hu he (j := 1) (by omega)
  rw [show 15 + 3 * e + 1 = 16 + 3 * e by omega] at e1
  rw [h3.p76, Option.bind_some, h3.g4, Option.bind_some, e1, Option.bind_some]
  refine ⟨_, rfl, (f3.wi (a := 69) rfl).wi (a := 69) rfl, ?_, ?_, ?_, ?_, ?_⟩
  · rw [wrI_ne (by omega), wrI_ne (by omega), wrI_ne (by omega), wrI_ne (by omega), wrI_eq]
  · rw [wrI_ne (by omega), wrI_ne (by omega), wrI_ne (by omega), wrI_eq]
  · rw [wrI_ne (by omega), wrI_ne (by omega), wrI_eq]
  · rw [wrI_ne (by omega), wrI_eq]
  · rw [wrI_eq]
/-- a gate, a minute: the facts are set, the program is run -/
theorem c_shuts (h : CV u M D G P E C W c0 c1 c2) (hu : DU u G P E C W c0 c1 c2) (he : e < E) (hg : g < G) (hl : l < 100) (hm : m < 200) (hh : hdU u e (nI l) (nI m) ≠ mI) : ∃ N1 N x, f_X4_setFacts 76 (nI e) (nI g) (hdU u e (nI l) (nI m)) (nI m) M = some N1 ∧ f_X2_run 68 (D + 16) N1 = some (x, N) ∧ Fr pRn q0 M N ∧ Fr pF1 q0 M N1 ∧ (x = 0 ↔ shutS u c0 e g (nI l) (nI m) = false) := by
  obtain ⟨N1, a1, a2, v18, v19, v10, v11, v20⟩ := c_setFacts h hu he hg (hdU u e (nI l) (nI m)) (nI m)
  have h1 : CV u N1 D G P E C W c0 c1 c2 := h.fr (R := fun _ _ => false) a2.fa (fun a k z => by unfold pF1 at z; simp only [beq_iff_eq] at z; omega) ⟨fun _ _ => rfl, rfl, rfl, rfl, rfl, fun _ _ _ => rfl, fun _ _ => rfl⟩
  have ht := hu.told (by omega)
  have hgood := (hu.cod (by omega)).2.1
  obtain ⟨q, n, b1, b2⟩ := (h1.2.2.2.2.2.2.2 ht).1
  have hD := h.hD
  have h5 : ∀ c ∈ c0, 40 ≤ c → c < 53 → c - 40 < 5 := fun c hc a b => by have := okc0 (hgood.2 c hc); omega
  obtain ⟨r, N, r1, r2, r3, r4⟩ := c_run (M := N1) (p := D + 16) (q := q) (n := n) (cs := c0) (env := envS u e g (nI l) (nI m)) (b := true) h1.hc b1 (by omega) (by omega)
    (env_any (fun c hc a b => envS_ok hu he hg hl hm hh (h5 c hc a b)) (no60 hgood)) (fun c hc a b => by
      have := h5 c hc a b
      have hk5 : c - 40 = 0 ∨ c - 40 = 1 ∨ c - 40 = 2 ∨ c - 40 = 3 ∨ c - 40 = 4 := by omega
      rcases hk5 with q | q | q | q | q <;> rw [q]
      · exact congrArg Int32.toInt v18
      · exact congrArg Int32.toInt v19
      · exact congrArg Int32.toInt v10
      · exact congrArg Int32.toInt v11
      · exact congrArg Int32.toInt v20) hgood.1
  have f1 : Fr pRn q0 M N1 := a2.mono (fun a k z => by unfold pRn at z; unfold pF1; revert z; cases (a == 69) <;> simp) (fun _ _ z => z)
  have f2 : Fr pRn q0 N1 N := r4.mono (fun a k z => by unfold pRn at z; unfold pR1; revert z; cases (a == 72) <;> cases (a == 68) <;> cases (k == 4) <;> simp) (fun _ _ z => z)
  refine ⟨N1, N, r, a1, r1, f1.tr f2, a2, ?_⟩
  rw [evA_cong (env' := envS u e g (nI l) (nI m)) (sh' := z0) (dr' := z0) (fun c hc => ⟨fun _ _ => rfl, no60 hgood c hc⟩)] at r2
  have hs : shutS u c0 e g (nI l) (nI m) = true ↔ r.toInt = 1 := by
    unfold shutS
    rw [decide_eq_true_eq, r2]
    exact ⟨fun z => by injection z.2, fun z => ⟨hh, by rw [z]⟩⟩
  have h0 : (0 : Int32).toInt = 0 := rfl
  have hv := r3.1 rfl
  constructor
  · intro z
    cases q : shutS u c0 e g (nI l) (nI m) with
    | false => rfl
    | true => have := hs.mp q; have := eq_i.mp z; omega
  · intro z
    refine eq_i.mpr ?_
    rcases hv with q | q
    · rw [q]; rfl
    · have := hs.mpr q; rw [z] at this; cases this
/-- the loop over gates -/
theorem c_rowG {r : Nat} (h : CV u M D G P E C W c0 c1 c2) (hu : DU u G P E C W c0 c1 c2) (he : e < E) (hl : l < 100) (hm : m < 200) (hr : M.1[r]? = some (15, 24)) (hr2 : 187 ≤ r) {f : Nat → Nat → Bool} (hf : ∀ g j, g < 6 → j < 256 → rb (M.2.2.1 r) g j = f g j) :
    ∃ N, f_X4_row_L112 76 (nI e) (nI l) r (nI m) (hdU u e (nI l) (nI m)) (nI 0) M = some (.inl (nI (m + 1), N)) ∧ Fr pRn (fun a _ => a == r) M N ∧ ∀ g j, g < 6 → j < 256 → rb (N.2.2.1 r) g j = (f g j || (decide (j = m) && rowS u c0 G e l g m)) := by
  have hb := hu.2.1
  have hr6 : ∀ N : sMem, Fr pRn (fun a _ => a == r) M N → CV u N D G P E C W c0 c1 c2 := fun N hN => h.fr (R := fun _ _ => false) hN.fa offD_rn ⟨fun _ _ => rfl, rfl, rfl, rfl, rfl, fun _ _ _ => rfl, fun _ _ => rfl⟩
  unfold f_X4_row_L112 f_X4_row_B176
  obtain ⟨N, k1, k2, k3⟩ := itr_up (f := fun a : (Int32 × sMem) => f_X4_row_K112 76 (nI e) (nI l) r (nI m) (hdU u e (nI l) (nI m)) a.1 a.2)
    (fun i N => Fr pRn (fun a _ => a == r) M N ∧ ∀ g j, g < 6 → j < 256 → rb (N.2.2.1 r) g j = (f g j || (decide (j = m ∧ g < i) && rowS u c0 G e l g m)))
    (fun N => Fr pRn (fun a _ => a == r) M N ∧ ∀ g j, g < 6 → j < 256 → rb (N.2.2.1 r) g j = (f g j || (decide (j = m) && rowS u c0 G e l g m)))
    G (by omega) (i := 0) (s := M) (by
      rintro i N hi ⟨hF, hv⟩
      dsimp only
      have hN := hr6 N hF
      unfold f_X4_row_K112 f_X4_row_B170
      by_cases hh : hdU u e (nI l) (nI m) = mI
      · right
        refine ⟨N, by rw [if_pos (show hdU u e (nI l) (nI m) = (-1 : Int32) from hh)], hF, fun g j hg hj => ?_⟩
        have hz : ∀ g, rowS u c0 G e l g m = false := fun g => by unfold rowS shutS; rw [decide_eq_false (fun z : hdU u e (nI l) (nI m) ≠ mI ∧ _ => z.1 hh), Bool.and_false]
        rw [hv g j hg hj, hz, Bool.and_false, Bool.and_false]
      · rw [if_neg (show ¬ hdU u e (nI l) (nI m) = (-1 : Int32) from hh), hN.p76, Option.bind_some, hN.g1, Option.bind_some, hN.nG, Option.bind_some]
        by_cases hiG : G ≤ i
        · right
          refine ⟨N, by rw [if_pos (nI_le hiG (by omega))], hF, fun g j hg hj => ?_⟩
          rw [hv g j hg hj]
          by_cases hgG : g < G
          · rw [show (decide (j = m ∧ g < i)) = decide (j = m) from decide_eq_decide.mpr (by omega)]
          · have : rowS u c0 G e l g m = false := by unfold rowS; rw [decide_eq_false (by omega), Bool.false_and]
            rw [this, Bool.and_false, Bool.and_false]
        · left
          refine ⟨by omega, ?_⟩
          obtain ⟨N1, N2, x, s1, s2, s3, s5, s4⟩ := c_shuts hN hu he (g := i) (by omega) hl hm hh
          have hN1 : CV u N1 D G P E C W c0 c1 c2 := hN.fr (R := fun _ _ => false) s5.fa (fun a k z => by unfold pF1 at z; simp only [beq_iff_eq] at z; omega) ⟨fun _ _ => rfl, rfl, rfl, rfl, rfl, fun _ _ _ => rfl, fun _ _ => rfl⟩
          rw [if_neg (nI_ge (by omega) (by omega)), s1, Option.bind_some, gr76_0 hN1.hc, Option.bind_some, hN1.p76, Option.bind_some, hN1.g6, Option.bind_some, s2]
          dsimp only [Option.bind_some]
          have f2 : Fr pRn (fun a _ => a == r) M N2 := hF.tr (s3.mono (fun _ _ z => z) (fun _ _ _ => rfl))
          have v2 : ∀ g j, g < 6 → j < 256 → rb (N2.2.2.1 r) g j = (f g j || (decide (j = m ∧ g < i) && rowS u c0 G e l g m)) := fun g j hg hj => by
            rw [show N2.2.2.1 r = N.2.2.1 r from funext fun k => s3.2.2.2 r k rfl]; exact hv g j hg hj
          have key : rowS u c0 G e l i m = shutS u c0 e i (nI l) (nI m) := by unfold rowS; rw [decide_eq_true (show i < G ∧ m < 200 by omega), Bool.true_and]
          rw [nl 1, nI_add]
          by_cases hx : x = 0
          · rw [if_pos hx]
            refine ⟨N2, rfl, f2, fun g j hg hj => ?_⟩
            rw [v2 g j hg hj]
            congr 1
            by_cases hgi : g = i
            · subst hgi
              rw [key, s4.mp hx, Bool.and_false, Bool.and_false]
            · rw [show (decide (j = m ∧ g < i)) = decide (j = m ∧ g < i + 1) from decide_eq_decide.mpr (by omega)]
          · have hx2 : shutS u c0 e i (nI l) (nI m) = true := by
              cases q : shutS u c0 e i (nI l) (nI m) with
              | true => rfl
              | false => exact absurd (s4.mpr q) hx
            rw [if_neg hx, b_mark (by rw [f2.1]; exact hr) (by omega) (by omega), Option.bind_some]
            refine ⟨_, rfl, f2.wj (by simp), fun g j hg hj => ?_⟩
            rw [rb_mark (by omega) hj, v2 g j hg hj]
            by_cases hgi : g = i
            · subst hgi
              rw [key, hx2, Bool.and_true, Bool.and_true]
              cases f g j with
              | true => rfl
              | false =>
                rw [Bool.false_or, Bool.false_or]
                by_cases hjm : j = m
                · rw [decide_eq_true (show g = g ∧ j = m from ⟨rfl, hjm⟩), decide_eq_true (show j = m ∧ g < g + 1 by omega), Bool.or_true]
                · rw [decide_eq_false (show ¬ (g = g ∧ j = m) by omega), decide_eq_false (show ¬ (j = m ∧ g < g + 1) by omega), decide_eq_false (show ¬ (j = m ∧ g < g) by omega)]; rfl
            · rw [decide_eq_false (show ¬ (g = i ∧ j = m) by omega), Bool.or_false, show (decide (j = m ∧ g < i)) = decide (j = m ∧ g < i + 1) from decide_eq_decide.mpr (by omega)])
    (by omega) ⟨Fr.rf, fun g j hg hj => by rw [hf g j hg hj, decide_eq_false (by omega), Bool.false_and, Bool.or_false]⟩
  rw [k1, Option.bind_some, nl 1, nI_add]
  exact ⟨N, rfl, k2, k3⟩
/-- the loop over minutes -/
theorem c_rowM {r : Nat} (h : CV u M D G P E C W c0 c1 c2) (hu : DU u G P E C W c0 c1 c2) (he : e < E) (hl : l < 100) (hr : M.1[r]? = some (15, 24)) (hr2 : 187 ≤ r) (hz : ∀ k, k < 24 → M.2.2.1 r k = 0) :
    ∃ N, f_X4_row_L91 76 (nI e) (nI l) r (nI 0) M = some (r, N) ∧ Fr pRn (fun a _ => a == r) M N ∧ ∀ g j, g < 6 → j < 256 → rb (N.2.2.1 r) g j = rowS u c0 G e l g j := by
  unfold f_X4_row_L91 f_X4_row_B182
  obtain ⟨N, k1, k2, k3⟩ := itr_up (f := fun a : (Int32 × sMem) => f_X4_row_K91 76 (nI e) (nI l) r a.1 a.2)
    (fun i N => Fr pRn (fun a _ => a == r) M N ∧ ∀ g j, g < 6 → j < 256 → rb (N.2.2.1 r) g j = (decide (j < i) && rowS u c0 G e l g j))
    (fun N => Fr pRn (fun a _ => a == r) M N ∧ ∀ g j, g < 6 → j < 256 → rb (N.2.2.1 r) g j = rowS u c0 G e l g j)
    200 (by omega) (i := 0) (s := M) (by
      rintro i N hi ⟨hF, hv⟩
      dsimp only
      have hN : CV u N D G P E C W c0 c1 c2 := h.fr (R := fun _ _ => false) hF.fa offD_rn ⟨fun _ _ => rfl, rfl, rfl, rfl, rfl, fun _ _ _ => rfl, fun _ _ => rfl⟩
      unfold f_X4_row_K91
      by_cases hi2 : 200 ≤ i
      · right
        obtain rfl : i = 200 := by omega
        refine ⟨N, by rw [if_pos (by decide)], hF, fun g j hg hj => ?_⟩
        rw [hv g j hg hj]
        by_cases hj2 : j < 200
        · rw [decide_eq_true hj2, Bool.true_and]
        · unfold rowS; rw [decide_eq_false hj2, decide_eq_false (by omega), Bool.false_and, Bool.false_and]
      · left
        refine ⟨by omega, ?_⟩
        rw [if_neg (by rw [nl 200, cle (by omega) (by omega)]; omega), c_headOf hN hu he, Option.bind_some]
        obtain ⟨N2, s1, s2, s3⟩ := c_rowG (m := i) hN hu he hl (by omega) (by rw [hF.1]; exact hr) hr2 hv
        rw [nl 0, s1]
        refine ⟨N2, rfl, hF.tr s2, fun g j hg hj => ?_⟩
        rw [s3 g j hg hj]
        by_cases hji : j = i
        · subst hji
          rw [decide_eq_false (by omega), decide_eq_true rfl, decide_eq_true (by omega), Bool.false_and, Bool.false_or]
        · rw [decide_eq_false hji, Bool.false_and, Bool.or_false, show decide (j < i) = decide (j < i + 1) from decide_eq_decide.mpr (by omega)])
    (by omega) ⟨Fr.rf, fun g j hg hj => by
      rw [decide_eq_false (by omega), Bool.false_and]
      unfold rb; rw [hz _ (by omega)]; exact zero_bit _⟩
  rw [k1, Option.bind_some]
  exact ⟨N, rfl, k2, k3⟩
/-- behind the row's making -/
theorem c_rowB {r : Nat} (h : CV u M D G P E C W c0 c1 c2) (hu : DU u G P E C W c0 c1 c2) (hI : RowsI u M G c0) (he : e < E) (hl : l < 100) (hr : M.2.2.2 77 (100 * e + l) = some r) :
    ∃ N, f_X4_row_B54 76 (nI e) (nI l) (nI (100 * e + l)) M = some (r, N) ∧ FrB pRow qRow rRow M N ∧ RowsI u N G c0 ∧ ∀ g j, g < 6 → j < 256 → rb (N.2.2.1 r) g j = rowS u c0 G e l g j := by
  have hc := h.hc
  have hb := hu.2.1
  have hq := hI.1 _ r (by omega) hr
  unfold f_X4_row_B54
  rw [gr76_2 hc, Option.bind_some, ldN_n (cs77 hc) (by omega) (by omega) hr, Option.bind_some, gr76_3 hc, Option.bind_some, ld78 hc (by omega), Option.bind_some]
  by_cases hm : M.2.1 78 (100 * e + l) = 1
  · rw [if_pos hm]
    obtain ⟨q, h1, h2⟩ := hI.2.2 _ (by omega) hm
    rw [hr] at h1
    obtain rfl := Option.some.inj h1
    rw [show (100 * e + l) / 100 = e by omega, show (100 * e + l) % 100 = l by omega] at h2
    exact ⟨M, rfl, FrB.rf, hI, h2⟩
  · rw [if_neg hm, Option.bind_some, st78 hc (by omega), Option.bind_some]
    have hcA : ClsS (wrI M 78 (100 * e + l) 1).1 (wrI M 78 (100 * e + l) 1).2.2.2 := hc
    obtain ⟨N1, a1, a2, a3⟩ := fillJ (M := wrI M 78 (100 * e + l) 1) (a := r) hq.2 (by decide) 0
    rw [a1, Option.bind_some, nl 0]
    have f1 : Fr pRow (fun a _ => a == r) M N1 := (Fr.rf.wi (a := 78) rfl).tr (a2.mono (fun _ _ _ => rfl) (fun _ _ z => z))
    have hN1 : CV u N1 D G P E C W c0 c1 c2 := h.fr (R := fun _ _ => false) f1.fa offD_row ⟨fun _ _ => rfl, rfl, rfl, rfl, rfl, fun _ _ _ => rfl, fun _ _ => rfl⟩
    obtain ⟨N, b1, b2, b3⟩ := c_rowM (e := e) (l := l) hN1 hu he hl (by rw [f1.1]; exact hq.2) hq.1 a3
    have f2 : Fr pRow (fun a _ => a == r) M N := f1.tr (b2.mono (fun _ _ z => rn_row z) (fun _ _ z => z))
    refine ⟨N, b1, f2.fb.mono (fun _ _ z => z) (fun a k z => ?_) (fun _ _ z => z), ⟨fun w q hw hwq => ?_, fun w w' q hw hw' z1 z2 => ?_, fun w hw z => ?_⟩, b3⟩
    · unfold qRow at z; exact beq_eq_false_iff_ne.mpr (by have := of_decide_eq_false z; omega)
    · rw [f2.2.1] at hwq; rw [f2.1]; exact hI.1 w q hw hwq
    · rw [f2.2.1] at z1 z2; exact hI.2.1 w w' q hw hw' z1 z2
    · by_cases hww : w = 100 * e + l
      · refine ⟨r, by rw [f2.2.1, hww]; exact hr, fun g j hg hj => ?_⟩
        rw [hww, show (100 * e + l) / 100 = e by omega, show (100 * e + l) % 100 = l by omega]
        exact b3 g j hg hj
      · have z78 : M.2.1 78 w = 1 := by
          rw [b2.i rfl, a2.i rfl, wrI_ne (by omega)] at z
          exact z
        obtain ⟨q, z1, z2⟩ := hI.2.2 w hw z78
        refine ⟨q, by rw [f2.2.1]; exact z1, fun g j hg hj => ?_⟩
        have hqr : q ≠ r := fun zz => by rw [zz] at z1; exact hww (hI.2.1 _ _ r hw (by omega) z1 hr)
        rw [show N.2.2.1 q = M.2.2.1 q from funext fun k => f2.2.2.2 q k (beq_eq_false_iff_ne.mpr hqr)]
        exact z2 g j hg hj
theorem c_row (h : CV u M D G P E C W c0 c1 c2) (hu : DU u G P E C W c0 c1 c2) (hI : RowsI u M G c0) (he : e < E) (hl : l < 100) :
    ∃ r N, f_X4_row 76 (nI e) (nI l) M = some (r, N) ∧ FrB pRow qRow rRow M N ∧ RowsI u N G c0 ∧ N.1[r]? = some (15, 24) ∧ 187 ≤ r ∧ ∀ g j, g < 6 → j < 256 → rb (N.2.2.1 r) g j = rowS u c0 G e l g j := by
  have hc := h.hc
  have hb := hu.2.1
  have hln := h.ln
  unfold f_X4_row
  have ix : nI e * (100 : Int32) + nI l = nI (100 * e + l) := by rw [nl 100, pk_mul, nI_add, Nat.mul_comm e 100]
  rw [sr76 hc, if_neg (nI_pos (by omega)), if_neg (nI_pos (by omega)), if_neg (by rw [nl 100, cle (by omega) (by omega)]; omega), gr76_2 hc, Option.bind_some, al77 hc, Option.bind_some, ix, if_pos (by rw [clt (by omega) (by omega)]; omega), Option.bind_some, ldR_n (cs77 hc) (by omega) (by omega), Option.bind_some]
  cases hr : M.2.2.2 77 (100 * e + l) with
  | some r =>
    dsimp only
    obtain ⟨N, a1, a2, a3, a4⟩ := c_rowB h hu hI he hl hr
    rw [a1]
    exact ⟨r, N, rfl, a2, a3, a2.sh (hI.1 _ r (by omega) hr).2, (hI.1 _ r (by omega) hr).1, a4⟩
  | none =>
    dsimp only
    rw [Option.bind_some, nl 24, nA_n (by decide), Option.bind_some]
    dsimp only
    have h77 : 77 < M.1.length := by omega
    rw [stR_n (sNew_sh (cs77 hc)) (by omega) (by omega) (sNew_me (M := M)), Option.bind_some]
    have fB : FrB pRow qRow rRow M (wrR (sNew 15 24 M) 77 (100 * e + l) (some (sLen M))) := FrB.rf.row hr (by omega) rfl h77
    have hN : CV u (wrR (sNew 15 24 M) 77 (100 * e + l) (some (sLen M))) D G P E C W c0 c1 c2 := h.fb fB offD_row offR_row
    have e77 : ∀ w, w ≠ 100 * e + l → (wrR (sNew 15 24 M) 77 (100 * e + l) (some (sLen M))).2.2.2 77 w = M.2.2.2 77 w := fun w hw => by rw [wrR_get, if_neg (fun z => hw z.2), sNew_r h77]
    have e77' : (wrR (sNew 15 24 M) 77 (100 * e + l) (some (sLen M))).2.2.2 77 (100 * e + l) = some (sLen M) := by rw [wrR_get, if_pos ⟨rfl, rfl⟩]
    have hI2 : RowsI u (wrR (sNew 15 24 M) 77 (100 * e + l) (some (sLen M))) G c0 := by
      refine ⟨fun w q hw hwq => ?_, fun w w' q hw hw' z1 z2 => ?_, fun w hw z => ?_⟩
      · by_cases hww : w = 100 * e + l
        · rw [hww, e77'] at hwq
          obtain rfl := Option.some.inj hwq
          exact ⟨by unfold sLen; omega, sNew_me (M := M)⟩
        · rw [e77 w hww] at hwq
          exact ⟨(hI.1 w q hw hwq).1, sNew_sh (hI.1 w q hw hwq).2⟩
      · have lq : ∀ w, w < 500 → M.2.2.2 77 w = some q → q ≠ sLen M := fun w hw z zz => by have := lt_of_sh (hI.1 w q hw z).2; unfold sLen at zz; omega
        by_cases h1 : w = 100 * e + l
        · by_cases h2 : w' = 100 * e + l
          · omega
          · rw [h1, e77'] at z1; rw [e77 w' h2] at z2
            exact absurd (Option.some.inj z1).symm (lq w' hw' z2)
        · by_cases h2 : w' = 100 * e + l
          · rw [e77 w h1] at z1; rw [h2, e77'] at z2
            exact absurd (Option.some.inj z2).symm (lq w hw z1)
          · rw [e77 w h1] at z1; rw [e77 w' h2] at z2
            exact hI.2.1 w w' q hw hw' z1 z2
      · have z' : M.2.1 78 w = 1 := by
          have : (wrR (sNew 15 24 M) 77 (100 * e + l) (some (sLen M))).2.1 78 w = M.2.1 78 w := sNew_i (c := 15) (n := 24) (by omega)
          rw [this] at z; exact z
        obtain ⟨q, z1, z2⟩ := hI.2.2 w hw z'
        have hww : w ≠ 100 * e + l := fun zz => by rw [zz, hr] at z1; cases z1
        refine ⟨q, by rw [e77 w hww]; exact z1, fun g j hg hj => ?_⟩
        have : (wrR (sNew 15 24 M) 77 (100 * e + l) (some (sLen M))).2.2.1 q = M.2.2.1 q := funext fun k => sNew_j (c := 15) (n := 24) (lt_of_sh (hI.1 w q hw z1).2)
        rw [this]; exact z2 g j hg hj
    obtain ⟨N, a1, a2, a3, a4⟩ := c_rowB hN hu hI2 he hl e77'
    rw [a1]
    exact ⟨sLen M, N, rfl, fB.tr a2, a3, a2.sh (hI2.1 _ _ (by omega) e77').2, (hI2.1 _ _ (by omega) e77').1, a4⟩
end RO
