/-! THE CLASS's programs: they grow -/
def prgL : List Nat := [8, 26, 28, 30, 48, 50, 52]
def capP (M : sMem) (p : Nat) : Nat := match M.2.2.2 p 0 with | some q => (M.1[q]?.getD (0, 0)).2 | none => 0
def Pot (M : sMem) : Nat := Phi M + 3 * (prgL.map fun p => 2048 - capP M p).sum
def PW (M : sMem) (p : Nat) : Prop := M.1[p]? = some (6, 2) ∧ ∃ q n s, M.2.2.2 p 0 = some q ∧ M.1[q]? = some (14, n) ∧ (∃ j, j ≤ 5 ∧ n = 64 * 2 ^ j) ∧ M.2.1 p 1 = nI s ∧ s ≤ n ∧ (q = p + 1 ∨ 187 ≤ q)
def PA (M : sMem) : Prop := 187 ≤ M.1.length ∧ (∀ p ∈ prgL, PW M p) ∧ ∀ p ∈ prgL, ∀ p' ∈ prgL, p ≠ p' → M.2.2.2 p 0 ≠ M.2.2.2 p' 0
def Pc (M : sMem) (p : Nat) (cs : List Nat) : Prop := ∃ q n, M.2.2.2 p 0 = some q ∧ M.1[q]? = some (14, n) ∧ M.2.1 p 1 = nI cs.length ∧ cs.length ≤ n ∧ ∀ (i : Nat) (h : i < cs.length), M.2.1 q i = trn cs[i]
def FP (p : Nat) (M N : sMem) : Prop :=
  (∀ (a : Nat) (q : Nat × Nat), M.1[a]? = some q → N.1[a]? = some q) ∧ (∀ a k, a < M.1.length → tpX a k = false → a ≠ p → M.2.2.2 p 0 ≠ some a → N.2.1 a k = M.2.1 a k) ∧ (∀ a k, a < M.1.length → N.2.2.1 a k = M.2.2.1 a k) ∧ (∀ a k, a < M.1.length → ¬ (a = p ∧ k = 0) → N.2.2.2 a k = M.2.2.2 a k) ∧ (N.2.2.2 p 0 = M.2.2.2 p 0 ∨ ∃ q, N.2.2.2 p 0 = some q ∧ M.1.length ≤ q) ∧ Pot N ≤ Pot M
section FPS
variable {p : Nat} {M N O : sMem}
theorem prg_lt (hp : p ∈ prgL) : p < 60 ∧ 8 ≤ p ∧ p + 1 ∉ prgL := by
  have : ∀ p ∈ prgL, p < 60 ∧ 8 ≤ p ∧ p + 1 ∉ prgL := by decide
  exact this p hp
theorem FP.len (h : FP p M N) : M.1.length ≤ N.1.length := by
  rcases Nat.eq_zero_or_pos M.1.length with h0 | h0
  · omega
  · have := lt_of_sh (h.1 (M.1.length - 1) _ (List.getElem?_eq_getElem (by omega)))
    omega
theorem FP.rf : FP p M M := ⟨fun _ _ h => h, fun _ _ _ _ _ _ => rfl, fun _ _ _ => rfl, fun _ _ _ _ => rfl, Or.inl rfl, Nat.le_refl _⟩
theorem FP.tr (h : FP p M N) (h2 : FP p N O) : FP p M O := by
  have hl := h.len
  refine ⟨fun a q z => h2.1 a q (h.1 a q z), fun a k l z z1 z2 => ?_, fun a k l => (h2.2.2.1 a k (by omega)).trans (h.2.2.1 a k l), fun a k l z => (h2.2.2.2.1 a k (by omega) z).trans (h.2.2.2.1 a k l z), ?_, Nat.le_trans h2.2.2.2.2.2 h.2.2.2.2.2⟩
  · refine (h2.2.1 a k (by omega) z z1 ?_).trans (h.2.1 a k l z z1 z2)
    rcases h.2.2.2.2.1 with q | ⟨q, q1, q2⟩
    · rw [q]; exact z2
    · rw [q1]; intro w; have := Option.some.inj w; omega
  · rcases h2.2.2.2.2.1 with q | ⟨q, q1, q2⟩
    · rcases h.2.2.2.2.1 with w | ⟨w, w1, w2⟩
      · exact Or.inl (q.trans w)
      · exact Or.inr ⟨w, q.trans w1, w2⟩
    · exact Or.inr ⟨q, q1, by omega⟩
theorem Fr.pot {P Q : Nat → Nat → Bool} (h : Fr P Q M N) : Pot N = Pot M := by
  have : capP N = capP M := by funext p; unfold capP; rw [h.1, h.2.1]
  unfold Pot; rw [this, h.phi]
theorem Fr.fp (h : Fr tpX q0 M N) : FP p M N := ⟨fun a q z => by rw [h.1]; exact z, fun a k _ z _ _ => h.i z, fun a k _ => h.j rfl, fun a k _ _ => by rw [h.2.1], Or.inl (by rw [h.2.1]), Nat.le_of_eq h.pot⟩
theorem PW.fr {P Q : Nat → Nat → Bool} (h : PW M p) (hF : Fr P Q M N) (hp : P p 1 = false) : PW N p := by
  obtain ⟨h1, q, n, s, a1, a2, a3, a4, a5⟩ := h
  exact ⟨by rw [hF.1]; exact h1, q, n, s, by rw [hF.2.1]; exact a1, by rw [hF.1]; exact a2, a3, by rw [hF.i hp]; exact a4, a5⟩
theorem PA.fr {P Q : Nat → Nat → Bool} (h : PA M) (hF : Fr P Q M N) (hp : ∀ p ∈ prgL, P p 1 = false) : PA N :=
  ⟨by rw [hF.1]; exact h.1, fun p q => (h.2.1 p q).fr hF (hp p q), fun p hp p' hp' z => by rw [hF.2.1]; exact h.2.2 p hp p' hp' z⟩
theorem Pc.fr {P Q : Nat → Nat → Bool} {cs : List Nat} (h : Pc M p cs) (hF : Fr P Q M N) (hp : P p 1 = false) (hq : ∀ q, M.2.2.2 p 0 = some q → ∀ i, P q i = false) : Pc N p cs := by
  obtain ⟨q, n, a1, a2, a3, a4, a5⟩ := h
  exact ⟨q, n, by rw [hF.2.1]; exact a1, by rw [hF.1]; exact a2, by rw [hF.i hp]; exact a3, a4, fun i hi => by rw [hF.i (hq q a1 i)]; exact a5 i hi⟩
theorem PA.tp (h : PA M) (hF : Fr tpX q0 M N) : PA N := h.fr hF (by decide)
theorem PW.q1 (h : PW M p) (hp : p ∈ prgL) {q : Nat} (hq : M.2.2.2 p 0 = some q) : 9 ≤ q ∧ q < M.1.length ∧ q ∉ prgL ∧ q ≠ p ∧ (q = p + 1 ∨ 187 ≤ q) := by
  obtain ⟨h1, q', n, s, a1, a2, a3, a4, a5, a6⟩ := h
  obtain rfl := Option.some.inj (a1.symm.trans hq)
  obtain ⟨b1, b2, b3⟩ := prg_lt hp
  refine ⟨by omega, lt_of_sh a2, ?_, by omega, a6⟩
  rcases a6 with z | z
  · rw [z]; exact b3
  · intro w; have := prg_lt w; omega
theorem Pc.tp {cs : List Nat} (h : Pc M p cs) (hA : PA M) (hp : p ∈ prgL) (hF : Fr tpX q0 M N) : Pc N p cs := by
  have := prg_lt hp
  refine h.fr hF ?_ (fun q hq i => ?_)
  · unfold tpX; rw [beq_eq_false_iff_ne.mpr (show p ≠ 1 by omega)]; rfl
  · have := (hA.2.1 p hp).q1 hp hq
    unfold tpX; rw [beq_eq_false_iff_ne.mpr (show q ≠ 1 by omega)]; rfl
theorem sum_upd {f g : Nat → Nat} {k : Nat} (hp : p ∈ prgL) (h : ∀ p' ∈ prgL, p' ≠ p → g p' = f p') (hk : g p + k ≤ f p) : (prgL.map g).sum + k ≤ (prgL.map f).sum := by
  unfold prgL at hp h ⊢
  simp only [List.map_cons, List.map_nil, List.sum_cons, List.sum_nil, List.mem_cons, List.not_mem_nil, or_false] at hp h ⊢
  have h8 := h 8 (by simp)
  have h26 := h 26 (by simp)
  have h28 := h 28 (by simp)
  have h30 := h 30 (by simp)
  have h48 := h 48 (by simp)
  have h50 := h 50 (by simp)
  have h52 := h 52 (by simp)
  rcases hp with rfl | rfl | rfl | rfl | rfl | rfl | rfl <;> omega
/-- the others stay -/
theorem PA.of (h : PA M) (hF : FP p M N) (hp : p ∈ prgL) (hW : PW N p) : PA N := by
  have hl := hF.len
  refine ⟨by have := h.1; omega, fun p' hp' => ?_, fun a ha b hb hab => ?_⟩
  · by_cases hpp : p' = p
    · rw [hpp]; exact hW
    · obtain ⟨h1, q, n, s, a1, a2, a3, a4, a5, a6⟩ := h.2.1 p' hp'
      have hlt := lt_of_sh h1
      have g := prg_lt hp'
      refine ⟨hF.1 _ _ h1, q, n, s, by rw [hF.2.2.2.1 p' 0 hlt (fun z => hpp z.1)]; exact a1, hF.1 _ _ a2, a3, ?_, a5, a6⟩
      rw [hF.2.1 p' 1 hlt (by unfold tpX; rw [beq_eq_false_iff_ne.mpr (show p' ≠ 1 by omega)]; rfl) hpp (fun z => ?_)]
      · exact a4
      · exact ((h.2.1 p hp).q1 hp z).2.2.1 hp'
  · have key : ∀ a ∈ prgL, a ≠ p → N.2.2.2 a 0 ≠ N.2.2.2 p 0 := by
      intro a ha hne
      have hlt := lt_of_sh (h.2.1 a ha).1
      rw [hF.2.2.2.1 a 0 hlt (fun z => hne z.1)]
      rcases hF.2.2.2.2.1 with z | ⟨q, q1, q2⟩
      · rw [z]; exact h.2.2 a ha p hp hne
      · rw [q1]
        intro w
        have := ((h.2.1 a ha).q1 ha w).2.1
        omega
    by_cases hap : a = p
    · rw [hap]; exact (key b hb (fun z => hab (hap.trans z.symm))).symm
    · by_cases hbp : b = p
      · rw [hbp]; exact key a ha hap
      · rw [hF.2.2.2.1 a 0 (lt_of_sh (h.2.1 a ha).1) (fun z => hap z.1), hF.2.2.2.1 b 0 (lt_of_sh (h.2.1 b hb).1) (fun z => hbp z.1)]
        exact h.2.2 a ha b hb hab
/-- a step behind the others, there being room -/
theorem c_addB (hA : PA M) (hp : p ∈ prgL) (v : Int32) : ∃ N, f_X6_add_B39 p v M = some N ∧ FP p M N ∧ PA N ∧ (∀ k, N.2.1 1 k = M.2.1 1 k) ∧ N.2.2.2 = M.2.2.2 ∧ N.1 = M.1 ∧ ∀ cs c, Pc M p cs → (∀ q n, M.2.2.2 p 0 = some q → M.1[q]? = some (14, n) → cs.length < n) → v = trn c → Pc N p (cs ++ [c]) := by
  have g := prg_lt hp
  obtain ⟨h1, q, n, s, a1, a2, ⟨j, j1, j2⟩, a4, a5, a6⟩ := hA.2.1 p hp
  have hn : n ≤ 2048 := by
    rw [j2]
    have : ∀ j, j ≤ 5 → 64 * 2 ^ j ≤ 2048 := by decide
    exact this j j1
  have hq := (hA.2.1 p hp).q1 hp a1
  unfold f_X6_add_B39
  rw [gI_of h1, Option.bind_some, gR_of h1 a1, Option.bind_some, aL_of a2, Option.bind_some, a4]
  by_cases hs : n ≤ s
  · rw [if_pos (by rw [cle (by omega) (by omega)]; exact hs)]
    refine ⟨M, rfl, FP.rf, hA, fun _ => rfl, rfl, rfl, fun cs c hc hr _ => ?_⟩
    obtain ⟨q', n', b1, b2, b3, b4, b5⟩ := hc
    obtain rfl := Option.some.inj (a1.symm.trans b1)
    have e1 : n = n' := by have := a2.symm.trans b2; simpa using this
    have := hr q n a1 a2
    rw [a4] at b3
    have := (nI_eq (by omega) (by omega)).mp b3
    omega
  · rw [if_neg (by rw [cle (by omega) (by omega)]; exact hs)]
    simp only [Option.bind_some]
    rw [stI_n a2 (by omega) (by omega), Option.bind_some, gI_of (M := wrI M q s v) h1, Option.bind_some, wrI_ne (by omega), a4, nI_1, pI_of (M := wrI M q s v) h1, Option.bind_some]
    have hFP : FP p M (wrI (wrI M q s v) p 1 (nI (s + 1))) := by
      refine ⟨fun _ _ z => z, fun a k l z z1 z2 => ?_, fun _ _ _ => rfl, fun _ _ _ _ => rfl, Or.inl rfl, Nat.le_of_eq (Fr.pot (P := fun _ _ => true) (Q := q0) ⟨rfl, rfl, fun _ _ w => by simp at w, fun _ _ _ => rfl⟩)⟩
      rw [wrI_ne (fun w => z1 w.1), wrI_ne (fun w => z2 (by rw [a1, w.1]))]
    have hW : PW (wrI (wrI M q s v) p 1 (nI (s + 1))) p := ⟨h1, q, n, s + 1, a1, a2, ⟨j, j1, j2⟩, wrI_eq, by omega, a6⟩
    refine ⟨_, rfl, hFP, hA.of hFP hp hW, fun k => by rw [wrI_ne (by omega), wrI_ne (by omega)], rfl, rfl, fun cs c hc _ hv => ?_⟩
    obtain ⟨q', n', b1, b2, b3, b4, b5⟩ := hc
    obtain rfl := Option.some.inj (a1.symm.trans b1)
    have e1 : n = n' := by have := a2.symm.trans b2; simpa using this
    subst e1
    rw [a4] at b3
    have es := (nI_eq (by omega) (by omega)).mp b3
    refine ⟨q, n, a1, a2, by rw [wrI_eq, List.length_append, List.length_singleton, es], by rw [List.length_append, List.length_singleton]; omega, fun i hi => ?_⟩
    rw [List.length_append, List.length_singleton] at hi
    rw [wrI_ne (by omega), wrI_get]
    by_cases hi2 : i = s
    · rw [if_pos ⟨rfl, hi2⟩, hv, List.getElem_append_right (by omega)]
      simp
    · rw [if_neg (fun z => hi2 z.2), List.getElem_append_left (by omega)]
      exact b5 i (by omega)
theorem c_add (hA : PA M) (hp : p ∈ prgL) (v : Int32) : ∃ N, f_X6_add p v M = some N ∧ FP p M N ∧ PA N ∧ (∀ k, N.2.1 1 k = M.2.1 1 k) ∧ ∀ cs c, Pc M p cs → cs.length < 1600 → v = trn c → Pc N p (cs ++ [c]) := by
  have g := prg_lt hp
  obtain ⟨h1, q, n, s, a1, a2, ⟨j, j1, j2⟩, a4, a5, a6⟩ := hA.2.1 p hp
  have hn : n ≤ 2048 ∧ 64 ≤ n := by
    rw [j2]
    have : ∀ j, j ≤ 5 → 64 * 2 ^ j ≤ 2048 ∧ 64 ≤ 64 * 2 ^ j := by decide
    exact this j j1
  have hq := (hA.2.1 p hp).q1 hp a1
  have hl := hA.1
  have plain : s ≠ n ∨ 1600 ≤ s → ∃ N, f_X6_add_B39 p v M = some N ∧ FP p M N ∧ PA N ∧ (∀ k, N.2.1 1 k = M.2.1 1 k) ∧ ∀ cs c, Pc M p cs → cs.length < 1600 → v = trn c → Pc N p (cs ++ [c]) := by
    intro hz
    obtain ⟨N, b1, b2, b3, b4, _, _, b5⟩ := c_addB hA hp v
    refine ⟨N, b1, b2, b3, b4, fun cs c hc hlt hv => b5 cs c hc (fun q' n' c1 c2 => ?_) hv⟩
    obtain rfl := Option.some.inj (a1.symm.trans c1)
    have e1 : n = n' := by have := a2.symm.trans c2; simpa using this
    subst e1
    obtain ⟨q', n', d1, d2, d3, d4, d5⟩ := hc
    rw [a4] at d3
    have := (nI_eq (by omega) (by omega)).mp d3
    omega
  unfold f_X6_add
  rw [sRc_of h1, gI_of h1, Option.bind_some, gR_of h1 a1, Option.bind_some, aL_of a2, Option.bind_some, a4]
  by_cases hs : s = n
  · rw [if_pos (by rw [hs]), Option.bind_some]
    by_cases hs16 : 1600 ≤ s
    · rw [if_pos (by rw [nl 1600, cle (by omega) (by omega)]; exact hs16)]
      exact plain (Or.inr hs16)
    · rw [if_neg (by rw [nl 1600, cle (by omega) (by omega)]; exact hs16)]
      simp only [Option.bind_some]
      have hj5 : j < 5 := by
        have : ∀ j, j ≤ 5 → ¬ j < 5 → 1600 ≤ 64 * 2 ^ j := by decide
        by_cases w : j < 5
        · exact w
        · have := this j j1 w; omega
      have h2n : 2 * n = 64 * 2 ^ (j + 1) := by rw [j2, Nat.pow_succ]; omega
      have hn2 : n ≤ 1024 := by
        have : ∀ j, j < 5 → 64 * 2 ^ j ≤ 1024 := by decide
        have := this j hj5
        omega
      have e2 : (2 : Int32) * nI s = nI (2 * n) := by rw [hs, show (2 : Int32) = nI 2 from rfl, pk_mul]
      have cp : ∃ N, f_J7_copyOf_59c91 q (nI (2 * n)) M = some (sLen M, N) ∧ Fr (fun x _ => x == sLen M) q0 (sNew 14 (2 * n) M) N ∧ ∀ i, i < n → N.2.1 (sLen M) i = M.2.1 q i := by
        unfold f_J7_copyOf_59c91
        have hsh : (sNew 14 (2 * n) M).1[q]? = some (14, n) := sNew_sh a2
        have hmin : f_J9_min_7cf53 (nI n) (nI (2 * n)) (sNew 14 (2 * n) M) = some (nI n) := by
          unfold f_J9_min_7cf53
          rw [if_neg (by rw [clt (by omega) (by omega)]; omega)]
        obtain ⟨N, c1, c2, c3⟩ := cp_of (M := sNew 14 (2 * n) M) (sp := 0) (dp := 0) (n := n) hsh sNew_me (by omega) (by omega) (by omega) (by omega)
        rw [aL_of a2, Option.bind_some, if_neg (by rw [nI_eq (by omega) (by omega)]; omega), nA_n (by omega)]
        dsimp only [Option.bind_some]
        rw [aL_of hsh, Option.bind_some, hmin, Option.bind_some, show (0 : Int32) = nI 0 from rfl, c1]
        refine ⟨N, rfl, c2, fun i hi => ?_⟩
        rw [c3 i, if_pos (by omega), sNew_i hq.2.1, Nat.zero_add, Nat.sub_zero]
      obtain ⟨N, c1, c2, c3⟩ := cp
      have lN0 : N.1 = M.1 ++ [(14, 2 * n)] := c2.1
      have hN1 : N.1[p]? = some (6, 2) := by rw [c2.1]; exact sNew_sh h1
      rw [e2, c1]
      dsimp only [Option.bind_some]
      rw [pR_of hN1, Option.bind_some]
      have shN : ∀ (a : Nat) (r : Nat × Nat), M.1[a]? = some r → (wrR N p 0 (some (sLen M))).1[a]? = some r := fun a r z => by
        show N.1[a]? = _
        rw [c2.1]; exact sNew_sh z
      have iN : ∀ a k, a < M.1.length → (wrR N p 0 (some (sLen M))).2.1 a k = M.2.1 a k := fun a k l => by
        show N.2.1 a k = _
        rw [c2.i (beq_eq_false_iff_ne.mpr (show a ≠ sLen M by unfold sLen; omega)), sNew_i l]
      have rN : ∀ a k, a < M.1.length → ¬ (a = p ∧ k = 0) → (wrR N p 0 (some (sLen M))).2.2.2 a k = M.2.2.2 a k := fun a k l z => by
        rw [wrR_get, if_neg z, c2.2.1, sNew_r l]
      have rp : (wrR N p 0 (some (sLen M))).2.2.2 p 0 = some (sLen M) := by rw [wrR_get, if_pos ⟨rfl, rfl⟩]
      have hpl := lt_of_sh h1
      have hpot : Pot (wrR N p 0 (some (sLen M))) ≤ Pot M := by
        have e1 : Phi (wrR N p 0 (some (sLen M))) = Phi M + (2 * n + 1) := by
          unfold Phi
          have f1 : szS (wrR N p 0 (some (sLen M))).1 = szS M.1 + (2 * n + 1) := by
            show szS N.1 = _
            rw [lN0]; exact szS_app M.1 (14, 2 * n)
          have f2 : cntN (fun w => ((wrR N p 0 (some (sLen M))).2.2.2 77 w).isNone) 500 = cntN (fun w => (M.2.2.2 77 w).isNone) 500 := cntN_cong (fun i _ => by rw [rN 77 i (by omega) (by omega)])
          have f3 : cntN (fun i => ((wrR N p 0 (some (sLen M))).2.2.2 66 i).isNone) 20 = cntN (fun i => (M.2.2.2 66 i).isNone) 20 := cntN_cong (fun i _ => by rw [rN 66 i (by omega) (by omega)])
          rw [f1, f2, f3]; omega
        have e3 : capP (wrR N p 0 (some (sLen M))) p = 2 * n := by
          unfold capP
          rw [rp]
          show (N.1[sLen M]?.getD (0, 0)).2 = _
          rw [c2.1, sNew_me]; rfl
        have e4 : capP M p = n := by unfold capP; rw [a1]; show (M.1[q]?.getD (0, 0)).2 = _; rw [a2]; rfl
        have e5 : ∀ p' ∈ prgL, p' ≠ p → 2048 - capP (wrR N p 0 (some (sLen M))) p' = 2048 - capP M p' := by
          intro p' hp' hne
          obtain ⟨k1, q', n', s', k2, k3, _⟩ := hA.2.1 p' hp'
          unfold capP
          rw [rN p' 0 (lt_of_sh k1) (fun z => hne z.1), k2]
          show 2048 - ((wrR N p 0 (some (sLen M))).1[q']?.getD (0, 0)).2 = 2048 - (M.1[q']?.getD (0, 0)).2
          rw [shN q' _ k3, k3]
        unfold Pot
        have e7 : (prgL.map fun p' => 2048 - capP (wrR N p 0 (some (sLen M))) p').sum + n ≤ (prgL.map fun p' => 2048 - capP M p').sum := by
          refine sum_upd hp e5 ?_
          rw [e3, e4]; omega
        rw [e1]; omega
      have hFP : FP p M (wrR N p 0 (some (sLen M))) := ⟨shN, fun a k l _ _ _ => iN a k l, fun a k l => by show N.2.2.1 a k = _; rw [c2.j rfl, sNew_j l], rN, Or.inr ⟨sLen M, rp, Nat.le_refl _⟩, hpot⟩
      have hW : PW (wrR N p 0 (some (sLen M))) p := ⟨hN1, sLen M, 2 * n, s, rp, by show N.1[sLen M]? = _; rw [c2.1]; exact sNew_me, ⟨j + 1, by omega, h2n⟩, by rw [iN p 1 hpl]; exact a4, by omega, Or.inr hl⟩
      obtain ⟨O, d1, d2, d3, d4, _, _, d5⟩ := c_addB (hA.of hFP hp hW) hp v
      refine ⟨O, d1, hFP.tr d2, d3, fun k => by rw [d4, iN 1 k (by omega)], fun cs c hc hlt hv => d5 cs c ?_ (fun q' n' k1 k2 => ?_) hv⟩
      · obtain ⟨q', n', k1, k2, k3, k4, k5⟩ := hc
        obtain rfl := Option.some.inj (a1.symm.trans k1)
        have e1 : n = n' := by have := a2.symm.trans k2; simpa using this
        subst e1
        refine ⟨sLen M, 2 * n, rp, by show N.1[sLen M]? = _; rw [c2.1]; exact sNew_me, by rw [iN p 1 hpl]; exact k3, by omega, fun i hi => ?_⟩
        show N.2.1 (sLen M) i = _
        rw [c3 i (by omega)]; exact k5 i hi
      · rw [rp] at k1
        obtain rfl := Option.some.inj k1
        have k2' : N.1[sLen M]? = some (14, n') := k2
        rw [c2.1, sNew_me] at k2'
        have e1 : 2 * n = n' := by simpa using k2'
        obtain ⟨q', m, k3, k4, k5, k6, k7⟩ := hc
        obtain rfl := Option.some.inj (a1.symm.trans k3)
        have e9 : n = m := by have := a2.symm.trans k4; simpa using this
        omega
  · rw [if_neg (fun z => hs ((nI_eq (by omega) (by omega)).mp z))]
    exact plain (Or.inl hs)
theorem CS.eq {e : Nat} {s : Cs} (h : CS e M s) (hk : ∀ k, N.2.1 1 k = M.2.1 1 k) : CS e N s := by
  match s, h with
  | .inl q, h => exact ⟨by rw [hk]; exact h.1, by rw [hk]; exact h.2.1, by rw [hk]; exact h.2.2.1, h.2.2.2⟩
  | .inr t, h => exact ⟨by rw [hk]; exact h.1, h.2.1, by rw [hk]; exact h.2.2.1, by rw [hk]; exact h.2.2.2⟩
theorem no_p0 : ∀ q ∈ clsRf, ¬ (q.1 ∈ prgL ∧ q.2.1 = 0) := by decide
theorem FP.hc (h : FP p M N) (hp : p ∈ prgL) (hc : ClsS M.1 M.2.2.2) : ClsS N.1 N.2.2.2 := by
  refine ⟨fun q hq => h.1 _ _ (hc.1 q hq), fun q hq => ?_⟩
  have hl : q.1 < M.1.length := by
    have hm : ∀ q ∈ clsRf, q.1 < 94 := by decide
    have := hm q hq
    have := lt_of_sh (cs93 hc)
    omega
  rw [h.2.2.2.1 _ _ hl (fun z => no_p0 q hq ⟨by rw [z.1]; exact hp, z.2⟩)]
  exact hc.2 q hq
theorem TG.fp {T : Tk} {e : Nat} (h : TG T e M) (hA : PA M) (hp : p ∈ prgL) (hF : FP p M N) : TG T e N := by
  have g := prg_lt hp
  have hl := hA.1
  have no : ∀ a, a < 8 → M.2.2.2 p 0 ≠ some a := fun a ha z => by have := (hA.2.1 p hp).q1 hp z; omega
  refine ⟨hF.hc hp h.1, fun a k h1 h2 => ?_, ?_, h.2.2.2⟩
  · rw [hF.2.1 a k (by omega) (by unfold tpX; rw [beq_eq_false_iff_ne.mpr (show a ≠ 1 by omega)]; rfl) (by omega) (no a (by omega))]
    exact h.2.1 a k h1 h2
  · rw [hF.2.1 1 6 (by omega) rfl (by omega) (no 1 (by omega))]; exact h.2.2.1
end FPS
