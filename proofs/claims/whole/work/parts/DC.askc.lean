/-! THE CLASS answers a question, car by car -/
section CAL
variable {M N : sMem} {D Do G P E C W c n pc pn : Nat} {c0 c1 c2 cs : List Nat} {w : Nat → Int32} {u : Nat → Nat → Int32}
theorem pAn_off : offD pAn := by
  intro a k z
  unfold pAn at z
  simp only [Bool.or_eq_true, Bool.and_eq_true, beq_iff_eq] at z
  omega
theorem pAn_n {a k : Nat} (h : ¬ (68 ≤ a ∧ a ≤ 81)) : pAn a k = false := Bool.eq_false_iff.mpr (fun y => by
  unfold pAn at y
  simp only [Bool.or_eq_true, Bool.and_eq_true, beq_iff_eq] at y
  omega)
theorem an_sc {a k : Nat} (h : scC a k = false) : pAn a k = false := imF (fun y => by
  unfold pAn at y
  unfold scC
  simp only [Bool.or_eq_true, Bool.and_eq_true, beq_iff_eq, decide_eq_true_eq] at y ⊢
  omega) h
theorem c_askL {kd q nn : Nat} {a : Int64} (h : CV u M D G P E C W c0 c1 c2) (hu : DU u G P E C W c0 c1 c2) (hV : SV w M 54 G E C) (hw : WG w G P E C) (hA : AU M) (hcl : ∀ g t, g < 6 → t < 256 → rb (M.2.2.1 88) g t = cw u c0 G E w g t) (hp : Prg M 8 q nn cs) (hq : q = 9 ∨ 187 ≤ q) (hty : tyA cs [] = some [decide (kd ≤ 2)]) (hok : ∀ x ∈ cs, okCode 3 x = true) (hk : kd ≤ 5) : ∃ N, sItr (fun a : (Int64 × Int32 × sMem) => f_X11_ask_K63 0 (nI (33 + kd)) a.1 a.2.1 a.2.2) sFuel (a, 0, M) = some (fq kd a (vQ u c0 G E W P w cs) C, N) ∧ Fr pAn q0 M N := by
  have hb := hu.2.1
  have hcc := h.hc
  obtain ⟨b, b1, b2, b3⟩ := itr_g (f := fun a : (Int64 × Int32 × sMem) => f_X11_ask_K63 0 (nI (33 + kd)) a.1 a.2.1 a.2.2) (fun j (N : sMem) => (fq kd a (vQ u c0 G E W P w cs) j, nI j, N)) (fun _ N => Fr pAn q0 M N) (fun b => b.1 = fq kd a (vQ u c0 G E W P w cs) C ∧ Fr pAn q0 M b.2) C (by omega) (i := 0) (s := M) (by
    intro j N hj i1
    dsimp only
    have hN : CV u N D G P E C W c0 c1 c2 := h.fb (i1.fb (R := fun _ _ => false)) pAn_off offR_0
    have hcN := hN.hc
    unfold f_X11_ask_K63
    rw [hN.p0, Option.bind_some, hN.g5, Option.bind_some, hN.nC, Option.bind_some]
    by_cases z : j = C
    · right
      subst z
      rw [if_pos (nI_le (Nat.le_refl _) (by omega))]
      exact ⟨_, rfl, rfl, i1⟩
    · left
      refine ⟨by omega, ?_⟩
      have hjC : j < C := by omega
      have hqn : ¬ (68 ≤ q ∧ q ≤ 81) := by omega
      have hpN : Prg N 8 q nn cs := hp.fr (i1.fa (R := fun _ _ => false)) (pAn_n (by omega)) (fun i => pAn_n hqn) rfl
      obtain ⟨r, N1, r1, r2, r3, r4⟩ := c_answer (M := N) (c := j) (b := decide (kd ≤ 2)) hN hu (hV.fr (StS54 hcc) (i1.fa (R := fun _ _ => false)) (fun j i hj => pAn_n (by omega))) hw (fun k hk => by rw [i1.j rfl]; exact hA k hk) (fun g t hg ht => by rw [show N.2.2.1 88 = M.2.2.1 88 from funext fun k => i1.j rfl]; exact hcl g t hg ht) hjC hpN hq hty hok (envQ_ok hu hw hjC)
      have hx : r.toInt64 = vQ u c0 G E W P w cs j := vQ_of (by rw [i64]; exact r2)
      rw [if_neg (nI_ge (by omega) (by omega)), gr0_9 hcN, Option.bind_some, gr0_4 hcN, Option.bind_some, gr0_11 hcN, Option.bind_some, gr0_1 hcN, Option.bind_some, gr7_1 hcN, Option.bind_some, r1]
      dsimp only [Option.bind_some]
      rw [c_joined hk (fun z => by
        rcases r3.1 (decide_eq_true z) with y | y
        · exact Or.inl (Int32.toInt_inj.mp y)
        · exact Or.inr (Int32.toInt_inj.mp y)), Option.bind_some, hx, nI_1]
      exact ⟨N1, rfl, i1.tr r4⟩) (by omega) Fr.rf
  refine ⟨b.2, ?_, b3⟩
  rw [← b2]
  exact b1
theorem Cor.q {M1 M2 : sMem} (h : Cor M D Do G P E C W c0 c1 c2 pc pn) (h1 : FrB scC scQ rRow M M1) (hI : RowsI (uR M) M1 G c0) (h2 : Fr scR scS M1 M2) : Cor M2 D Do G P E C W c0 c1 c2 pc pn := by
  obtain ⟨k, ⟨t2, t3⟩, ⟨u1, u2⟩, t9⟩ := h
  obtain ⟨k1, _⟩ := k.cls h1 hI
  obtain ⟨k2, _⟩ := k1.ref h2
  have hl : 187 ≤ M.1.length := k.2.2.1.ln
  have fi : ∀ a k, a < 187 → scC a k = false → scR a k = false → M2.2.1 a k = M.2.1 a k := fun a k h3 h4 h5 => by rw [h2.i h5, h1.i (by omega) h4]
  have fj : ∀ a k, a < 187 → scQ a k = false → scS a k = false → M2.2.2.1 a k = M.2.2.1 a k := fun a k h3 h4 h5 => by rw [h2.j h5, h1.j (by omega) h4]
  have fr : ∀ a k, a < M.1.length → a ≠ 77 → M2.2.2.2 a k = M.2.2.2 a k := fun a k h3 h4 => by rw [h2.2.1, h1.r h3 (beq_eq_false_iff_ne.mpr h4)]
  have fb2 : FrB scR scS (fun _ _ => false) M1 M2 := h2.fb
  have hD : D = 10 ∨ D = 32 := k.2.2.1.hD
  have hi : ∀ a k, 187 ≤ a → a < M.1.length → M2.2.1 a k = M.2.1 a k := fun a k h3 h4 => by rw [h2.i (scR_out (by omega)), h1.i h4 (sc_out (by omega))]
  refine ⟨k2, ⟨t2.fr (fun a k h3 h4 => fi _ _ (by omega) (sc_out (by omega)) (scR_out (by omega))) (fun k => fj _ _ (by decide) rfl rfl), t3.fr (fun k => fi _ _ (by decide) rfl rfl) (fun k => fi _ _ (by decide) rfl rfl)⟩, ⟨u1.fr (fun a q z => by rw [h2.1]; exact h1.sh z) (fun j => fr _ _ (by omega) (by decide)) (fun a k h3 h4 => fr _ _ (lt_of_sh h4) (by omega)), u2.fr u1 (fi _ _ (by decide) rfl rfl) (fi _ _ (by decide) rfl rfl) (fi _ _ (by decide) rfl rfl) (fi _ _ (by decide) rfl rfl) (fun k => fi _ _ (by decide) rfl rfl) (fun j => fr _ _ (by omega) (by decide)) (fun a k q h3 h4 _ => hi a k h3 (lt_of_sh h4))⟩, ?_⟩
  exact (t9.fb h1 (fun a k h3 => sc_out (by unfold isWc at h3; omega)) (fun a h3 => beq_eq_false_iff_ne.mpr (by omega)) rfl).fb fb2 (fun a k h3 => scR_out (by unfold isWc at h3; omega)) (fun _ _ => rfl) rfl
end CAL
