/-! THE CLASS fills in what no statement told -/
def CE (M : sMem) (D : Nat) (d : Ds) (cf : Nat → List Nat) : Prop := TA M D d ∧ M.2.1 D 0 = d.1.1 ∧ M.2.1 D 9 = d.1.2 ∧ ∀ wh, wh < 3 → Pc M (pr3 D wh) (cf wh)
def fcd (d : Ds) (wh : Nat) : List Nat := (d.2.2 wh).getD (dfl wh)
def ucf (cf : Nat → List Nat) (wh : Nat) (c : List Nat) : Nat → List Nat := fun k => if k = wh then c else cf k
section CFL
variable {b : Nat → Int32} {n e t D kd wh : Nat} {T : Tk} {sa sz : Nat → Nat} {M N O : sMem} {s : Cs} {d : Ds} {cf : Nat → List Nat}
theorem pc_fp {p p' : Nat} {cs : List Nat} (hA : PA M) (hp : p ∈ prgL) (hp' : p' ∈ prgL) (hne : p' ≠ p) (hF : FP p M N) (h : Pc M p' cs) : Pc N p' cs := by
  obtain ⟨q2, n2, p1, p2, p3, p4, p5⟩ := h
  have hq := (hA.2.1 _ hp').q1 hp' p1
  have hb := prg_lt hp'
  have hd := hA.2.2 _ hp _ hp' (fun z => hne z.symm)
  have hb2 := prg_lt hp
  have hl := hA.1
  refine ⟨q2, n2, ?_, hF.1 _ _ p2, ?_, p4, fun i hi => ?_⟩
  · rw [hF.2.2.2.1 _ _ (by omega) (fun z => hne z.1)]; exact p1
  · rw [hF.2.1 _ _ (by omega) (tp_out (by omega)) hne (fun z => ?_)]
    · exact p3
    · have := (hA.2.1 _ hp).q1 hp z
      exact this.2.2.1 hp'
  · rw [hF.2.1 _ _ hq.2.1 (tp_out (by omega)) (fun z => hq.2.2.1 (by rw [z]; exact hp)) (fun z => hd (by rw [z, p1]))]
    exact p5 i hi
theorem ce_fp {c' : List Nat} (hD : D = 10 ∨ D = 32) (hw : wh < 3) (hA : PA M) (hF : FP (pr3 D wh) M N) (h : CE M D d cf) (hc : Pc N (pr3 D wh) c') : CE N D d (ucf cf wh c') := by
  have hp := pr3_in (D := D) hD hw
  have hl := hA.1
  have mx := fun kd (hk : kd < 5) => mx_le hk
  have out : ∀ a k, a < 187 → tpX a k = false → a ≠ pr3 D wh → a ≠ pr3 D wh + 1 → N.2.1 a k = M.2.1 a k := fun a k h1 h2 h3 h4 => hF.2.1 a k (by omega) h2 h3 (fun z => by have := (hA.2.1 _ hp).q1 hp z; omega)
  refine ⟨fun kd hk => (h.1 kd hk).of hk (fun a i h1 h2 => out _ i ?_ (tp_out ?_) ?_ ?_), ?_, ?_, fun w hw2 => ?_⟩
  iterate 4 (have := mx kd hk; (try unfold pr3); omega)
  · rw [out D 0 (by omega) (tp_out (by omega)) (by unfold pr3; omega) (by unfold pr3; omega)]; exact h.2.1
  · rw [out D 9 (by omega) (tp_out (by omega)) (by unfold pr3; omega) (by unfold pr3; omega)]; exact h.2.2.1
  · unfold ucf
    by_cases q : w = wh
    · rw [if_pos q, q]; exact hc
    · rw [if_neg q]
      exact pc_fp hA hp (pr3_in hD hw2) (by unfold pr3; omega) hF (h.2.2.2 w hw2)
/-- a step of filling: what it keeps, and what it makes of codes -/
def FL (b : Nat → Int32) (n : Nat) (T : Tk) (e D : Nat) (M N : sMem) (wh : Nat) (cs : List Nat) : Prop := SF D M N ∧ GA b n T e D N ∧ (∀ k, N.2.1 1 k = M.2.1 1 k) ∧ ∀ d cf, CE M D d cf → cf wh = [] → CE N D d (ucf cf wh cs)
theorem fl_add (hD : D = 10 ∨ D = 32) (hw : wh < 3) {cs : List Nat} {c : Nat} (hl : cs.length < 1600) (h : FL b n T e D M N wh cs) {v : Int32} (hv : v = trn c) : ∃ O, f_X6_add (pr3 D wh) v N = some O ∧ FL b n T e D M O wh (cs ++ [c]) := by
  obtain ⟨h1, h2, h3, h4⟩ := h
  have hp := pr3_in (D := D) hD hw
  obtain ⟨O, a1, a2, a3, a4, a5⟩ := c_add h2.2.2.1 hp v
  refine ⟨O, a1, h1.tr (SF.fp hD h2.2.2.1.1 hw a2), h2.fp hD hw a3 a2, fun k => (a4 k).trans (h3 k), fun d cf hc h0 => ?_⟩
  have hN := h4 d cf hc h0
  have hpc := hN.2.2.2 wh hw
  have e1 : ucf cf wh cs wh = cs := if_pos rfl
  rw [e1] at hpc
  have := ce_fp hD hw h2.2.2.1 a2 hN (a5 cs c hpc hl hv)
  have e2 : ucf (ucf cf wh cs) wh (cs ++ [c]) = ucf cf wh (cs ++ [c]) := by
    funext k; unfold ucf; by_cases q : k = wh
    · rw [if_pos q, if_pos q]
    · rw [if_neg q, if_neg q, if_neg q]
  rw [e2] at this; exact this
theorem fl_rf (h : GA b n T e D M) : FL b n T e D M M wh [] := ⟨SF.rf, h, fun _ => rfl, fun d cf hc h0 => by
  have : ucf cf wh [] = cf := by
    funext k; unfold ucf; by_cases q : k = wh
    · rw [if_pos q, q, h0]
    · rw [if_neg q]
  rw [this]; exact hc⟩
/-- what one rule's filling does -/
def FW (b : Nat → Int32) (n : Nat) (T : Tk) (e D : Nat) (M N : sMem) (wh : Nat) : Prop := SF D M N ∧ GA b n T e D N ∧ (∀ k, N.2.1 1 k = M.2.1 1 k) ∧ ∀ d cf, GdC d → CE M D d cf → cf wh = (d.2.2 wh).getD [] → CE N D d (ucf cf wh (fcd d wh))
theorem fw_y (hD : D = 10 ∨ D = 32) (hw : wh < 3) (hA : GA b n T e D M) (h0 : M.2.1 (pr3 D wh) 1 = 0) (h : FL b n T e D M N wh (dfl wh)) : FW b n T e D M N wh := by
  obtain ⟨h1, h2, h3, h4⟩ := h
  refine ⟨h1, h2, h3, fun d cf hg hc hcf => ?_⟩
  have hp := pr3_in (D := D) hD hw
  obtain ⟨_, q, n', s, a1, a2, a3, a4, a5, a6⟩ := hA.2.2.1.2.1 _ hp
  obtain ⟨q2, n2, p1, p2, p3, p4, p5⟩ := hc.2.2.2 wh hw
  obtain rfl := Option.some.inj (a1.symm.trans p1)
  have hn : n' ≤ 2048 := by
    obtain ⟨j, j1, j2⟩ := a3
    rw [j2]
    have : 2 ^ j ≤ 2 ^ 5 := Nat.pow_le_pow_right (by decide) j1
    omega
  have hnn : n' = n2 := by have := a2.symm.trans p2; simpa using this
  rw [h0, show (0 : Int32) = nI 0 from rfl, nI_eq (by omega) (by omega)] at p3
  have hnil : cf wh = [] := List.eq_nil_of_length_eq_zero p3.symm
  have hnone : d.2.2 wh = none := by
    cases z : d.2.2 wh with
    | none => rfl
    | some c =>
      rw [z, Option.getD_some, hnil] at hcf
      exact absurd hcf.symm (ty_ne (hg wh hw c z).1)
  have e1 : fcd d wh = dfl wh := by unfold fcd; rw [hnone]; rfl
  rw [e1]
  exact h4 d cf hc hnil
theorem fw_n (hw : wh < 3) (hA : GA b n T e D M) (h0 : M.2.1 (pr3 D wh) 1 ≠ 0) : FW b n T e D M M wh := by
  refine ⟨SF.rf, hA, fun _ => rfl, fun d cf hg hc hcf => ?_⟩
  have : ucf cf wh (fcd d wh) = cf := by
    funext k; unfold ucf; by_cases q : k = wh
    · rw [if_pos q, q, hcf]
      unfold fcd
      cases z : d.2.2 wh with
      | some c => rfl
      | none =>
        rw [z, Option.getD_none] at hcf
        obtain ⟨q2, n2, p1, p2, p3, p4, p5⟩ := hc.2.2.2 wh hw
        rw [hcf] at p3
        exact absurd p3 h0
    · rw [if_neg q]
  rw [this]; exact hc
theorem FW.tr {w1 w2 w3 : Nat} (hne : w1 ≠ w2 ∧ w1 ≠ w3 ∧ w2 ≠ w3) {M1 M2 M3 : sMem} (h1 : FW b n T e D M M1 w1) (h2 : FW b n T e D M1 M2 w2) (h3 : FW b n T e D M2 M3 w3) : SF D M M3 ∧ GA b n T e D M3 ∧ (∀ k, M3.2.1 1 k = M.2.1 1 k) ∧ ∀ d, GdC d → CD M D d → CE M3 D d (ucf (ucf (ucf (fun wh => (d.2.2 wh).getD []) w1 (fcd d w1)) w2 (fcd d w2)) w3 (fcd d w3)) := by
  refine ⟨(h1.1.tr h2.1).tr h3.1, h3.2.1, fun k => ((h3.2.2.1 k).trans (h2.2.2.1 k)).trans (h1.2.2.1 k), fun d hg hc => ?_⟩
  refine h3.2.2.2 d _ hg (h2.2.2.2 d _ hg (h1.2.2.2 d _ hg hc rfl) ?_) ?_
  · unfold ucf; rw [if_neg (fun z => hne.1 z.symm)]
  · unfold ucf; rw [if_neg (fun z => hne.2.2 z.symm), if_neg (fun z => hne.2.1 z.symm)]
theorem c_fill (hD : D = 10 ∨ D = 32) (hA : GA b n T e D M) : ∃ N, f_X1_fillIn D M = some N ∧ SF D M N ∧ GA b n T e D N ∧ (∀ k, N.2.1 1 k = M.2.1 1 k) ∧ ∀ d, GdC d → CD M D d → CE N D d (fcd d) := by
  have gP : ∀ (M : sMem), GA b n T e D M → gR 1 10 6 M D = some (pr3 D 0) ∧ gR 1 10 7 M D = some (pr3 D 1) ∧ gR 1 10 8 M D = some (pr3 D 2) := fun M h => gR_pr h.2.1.1 hD
  have gS : ∀ (M : sMem) (wh : Nat), wh < 3 → GA b n T e D M → gI 6 2 1 M (pr3 D wh) = some (M.2.1 (pr3 D wh) 1) := fun M wh hw h => gI_of (h.2.2.1.2.1 _ (pr3_in hD hw)).1
  have k2 : ∀ M : sMem, GA b n T e D M → ∃ N, f_X1_fillIn_B93 D M = some N ∧ FW b n T e D M N 2 := by
    intro M hA
    unfold f_X1_fillIn_B93
    rw [(gP M hA).2.2, Option.bind_some, gS M 2 (by decide) hA, Option.bind_some]
    by_cases q : M.2.1 (pr3 D 2) 1 = 0
    · rw [if_pos q, Option.bind_some]
      obtain ⟨O, o1, o2⟩ := fl_add (c := 47) (v := 10022) hD (show 2 < 3 by decide) (by decide) (fl_rf hA) (by decide)
      rw [o1]
      exact ⟨O, rfl, fw_y hD (by decide) hA q o2⟩
    · rw [if_neg q]; exact ⟨M, rfl, fw_n (by decide) hA q⟩
  have k1 : ∀ M : sMem, GA b n T e D M → ∃ N1 N, f_X1_fillIn_B73 D M = some N ∧ FW b n T e D M N1 1 ∧ FW b n T e D N1 N 2 := by
    intro M hA
    unfold f_X1_fillIn_B73
    rw [(gP M hA).2.1, Option.bind_some, gS M 1 (by decide) hA, Option.bind_some]
    by_cases q : M.2.1 (pr3 D 1) 1 = 0
    · rw [if_pos q, Option.bind_some]
      obtain ⟨O, o1, o2⟩ := fl_add (c := 45) (v := 10015) hD (show 1 < 3 by decide) (by decide) (fl_rf hA) (by decide)
      obtain ⟨N, n1, n2⟩ := k2 O o2.2.1
      rw [o1, Option.bind_some, n1]
      exact ⟨O, N, rfl, fw_y hD (by decide) hA q o2, n2⟩
    · rw [if_neg q]
      obtain ⟨N, n1, n2⟩ := k2 M hA
      exact ⟨M, N, n1, fw_n (by decide) hA q, n2⟩
  have fin : ∀ M1 N1 N, FW b n T e D M M1 0 → FW b n T e D M1 N1 1 → FW b n T e D N1 N 2 → SF D M N ∧ GA b n T e D N ∧ (∀ k, N.2.1 1 k = M.2.1 1 k) ∧ ∀ d, GdC d → CD M D d → CE N D d (fcd d) := by
    intro M1 N1 N f0 f1 f2
    obtain ⟨c1, c2, c3, c4⟩ := FW.tr (by decide) f0 f1 f2
    refine ⟨c1, c2, c3, fun d hg hc => ?_⟩
    obtain ⟨z1, z2, z3, z4⟩ := c4 d hg hc
    refine ⟨z1, z2, z3, fun wh hw => ?_⟩
    have := z4 wh hw
    match wh, hw, this with
    | 0, _, this => exact this
    | 1, _, this => exact this
    | 2, _, this => exact this
  unfold f_X1_fillIn
  rw [srD hA.2.1.1 hD, (gP M hA).1, Option.bind_some, gS M 0 (by decide) hA, Option.bind_some]
  by_cases q : M.2.1 (pr3 D 0) 1 = 0
  · obtain ⟨O1, a1, b1⟩ := fl_add (c := 40) (v := 10018) hD (show 0 < 3 by decide) (by decide) (fl_rf hA) (by decide)
    obtain ⟨O2, a2, b2⟩ := fl_add (c := 1003) (v := 3) hD (show 0 < 3 by decide) (by decide) b1 (by decide)
    obtain ⟨O3, a3, b3⟩ := fl_add (c := 7) (v := -3) hD (show 0 < 3 by decide) (by decide) b2 (by decide)
    obtain ⟨O4, a4, b4⟩ := fl_add (c := 41) (v := 10019) hD (show 0 < 3 by decide) (by decide) b3 (by decide)
    obtain ⟨O5, a5, b5⟩ := fl_add (c := 1001) (v := 1) hD (show 0 < 3 by decide) (by decide) b4 (by decide)
    obtain ⟨O6, a6, b6⟩ := fl_add (c := 7) (v := -3) hD (show 0 < 3 by decide) (by decide) b5 (by decide)
    obtain ⟨O7, a7, b7⟩ := fl_add (c := 10) (v := -2) hD (show 0 < 3 by decide) (by decide) b6 (by decide)
    obtain ⟨N1, N, n1, n2, n3⟩ := k1 O7 b7.2.1
    rw [if_pos q, Option.bind_some, a1, Option.bind_some, (gP O1 b1.2.1).1, Option.bind_some, a2, Option.bind_some, (gP O2 b2.2.1).1, Option.bind_some, a3, Option.bind_some, (gP O3 b3.2.1).1, Option.bind_some, a4, Option.bind_some, (gP O4 b4.2.1).1, Option.bind_some, a5, Option.bind_some, (gP O5 b5.2.1).1, Option.bind_some, a6, Option.bind_some, (gP O6 b6.2.1).1, Option.bind_some, a7, Option.bind_some, n1]
    exact ⟨N, rfl, fin O7 N1 N (fw_y hD (by decide) hA q b7) n2 n3⟩
  · rw [if_neg q]
    obtain ⟨N1, N, n1, n2, n3⟩ := k1 M hA
    rw [n1]
    exact ⟨N, rfl, fin M N1 N (fw_n (by decide) hA q) n2 n3⟩
end CFL
