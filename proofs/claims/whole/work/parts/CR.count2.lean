/-! HOW MANY LATENESSES CLOSE A GATE: all that fits -/
section CN2
variable {M N : sMem} {D Do G P E C W k e c g m s n pc pn l r sc : Nat} {c0 c1 c2 : List Nat} {w : Nat → Int32} {u : Nat → Nat → Int32} {sm sg sf : Nat → Nat}
/-- all that fits is counted -/
theorem c_countS (h : KI M D G P E C W c0 c1 c2) (he : e < E) {fl : List Nat} (hfl : fl.length ≤ 100) (hfl2 : ∀ i, i < fl.length → fl.getD i 0 < 100) (h90 : ∀ i, i < fl.length → M.2.1 90 i = nI (fl.getD i 0)) (h88 : ∀ g j, g < 6 → j < 256 → rb (M.2.2.1 88) g j = clS (uR M) c0 G E (LF (M.2.1 140)) e (upF (M.2.1 140) G) g j) : ∃ N, f_X11_countShut 0 (nI e) (nI fl.length) M = some N ∧ FrB scC scQ rRow M N ∧ RowsI (uR M) N G c0 ∧ ∀ g m, g < G → m < 200 → N.2.1 91 (200 * g + m) = nI (fl.countP fun l => cbS (uR M) c0 E (LF (M.2.1 140)) (upF (M.2.1 140) G) e l g m) := by
  have hc := h.hc
  have hb := h.n.2
  have hl : 187 ≤ M.1.length := h.cv.ln
  have hw := h.2.2.2.2.1.2
  obtain ⟨A, a1, a2, a3⟩ := fillI (cs91 hc) (by decide) (0 : Int32)
  have FA : FrB scC scQ rRow M A := (a2.fb (R := rNo)).mono (fun a k z => imF (fun y => by unfold scC; simp only [Bool.or_eq_true, beq_iff_eq] at y ⊢; omega) z) (fun _ _ _ => rfl) (fun _ _ _ => rfl)
  have RA : RowsI (uR M) A G c0 := h.2.2.2.1.1.fr hc (a2.fb (R := rNo)) (fun _ => rfl) (fun _ _ _ => rfl) (fun _ => rfl)
  unfold f_X11_countShut f_X11_countShut_L10
  rw [sr0 hc, gr0_15 hc, Option.bind_some, a1, Option.bind_some]
  obtain ⟨N, b1, b2⟩ := itr_g (f := fun a : (Int32 × sMem) => f_X11_countShut_K10 0 (nI e) (nI fl.length) a.1 a.2) (fun j (N : sMem) => (nI j, N)) (fun j N => FrB scC scQ rRow M N ∧ RowsI (uR M) N G c0 ∧ (∀ i, i < fl.length → N.2.1 90 i = nI (fl.getD i 0)) ∧ (∀ k, N.2.2.1 88 k = M.2.2.1 88 k) ∧ ∀ g m, g < G → m < 200 → N.2.1 91 (200 * g + m) = nI ((fl.take j).countP fun l => cbS (uR M) c0 E (LF (M.2.1 140)) (upF (M.2.1 140) G) e l g m)) (fun N => FrB scC scQ rRow M N ∧ RowsI (uR M) N G c0 ∧ ∀ g m, g < G → m < 200 → N.2.1 91 (200 * g + m) = nI (fl.countP fun l => cbS (uR M) c0 E (LF (M.2.1 140)) (upF (M.2.1 140) G) e l g m)) fl.length (by omega) (by
    rintro j N hj ⟨i1, i2, i3, i4, i5⟩
    dsimp only
    unfold f_X11_countShut_K10 f_X11_countShut_L37
    by_cases q : j = fl.length
    · right
      subst q
      rw [if_pos (nI_le (Nat.le_refl _) (by omega))]
      rw [List.take_length] at i5
      exact ⟨N, rfl, i1, i2, i5⟩
    · left
      refine ⟨by omega, ?_⟩
      obtain ⟨kN, eu⟩ := h.cls i1 i2
      have hcN := kN.hc
      have hlN : 187 ≤ N.1.length := kN.cv.ln
      obtain ⟨r, N', r1, r2, r3, r4, r5, r6⟩ := c_row (e := e) (l := fl.getD j 0) kN.cv kN.2.1 kN.2.2.2.1.1 he (hfl2 j (by omega))
      rw [eu] at r3 r6
      have F' : FrB scC scQ rRow M N' := i1.tr (r2.mono (fun _ _ z => row_sc z) (fun a k z => imF (fun y => by unfold qRow at y; unfold scQ; simp only [Bool.or_eq_true, beq_iff_eq, decide_eq_true_eq] at y ⊢; omega) z) (fun _ _ z => z))
      obtain ⟨k', eu'⟩ := h.cls F' r3
      have hc' := k'.hc
      have e140 : N'.2.1 140 = M.2.1 140 := funext fun k => F'.i (by omega) rfl
      have hV' := k'.2.2.2.2.1.1
      rw [e140] at hV'
      have e88 : N'.2.2.1 88 = M.2.2.1 88 := funext fun k => by rw [r2.j (by omega) (decide_eq_false (by decide))]; exact i4 k
      obtain ⟨N2, c1, c2, c3⟩ := c_rowN (u := uR M) (c0 := c0) (e := e) (l := fl.getD j 0) hc' k'.cv.ln hV' hw hb.1 (by rw [e88]; exact h88) r4 r6 (nI e) (nI fl.length) (nI j)
      have F2 : FrB scC scQ rRow N' N2 := c2.mono (fun a k z => imF (fun y => by unfold p91 at y; unfold scC; simp only [Bool.or_eq_true, beq_iff_eq] at y ⊢; omega) z) (fun _ _ _ => rfl) (fun _ _ _ => rfl)
      have hl' : 187 ≤ N'.1.length := k'.cv.ln
      rw [if_neg (nI_ge (by omega) (by omega)), gr0_9 hcN, Option.bind_some, gr67_1 hcN, Option.bind_some, gr0_14 hcN, Option.bind_some, ld90 hcN (by omega), Option.bind_some, i3 j (by omega), r1]
      dsimp only [Option.bind_some]
      rw [c1, Option.bind_some]
      unfold f_X11_countShut_B94
      rw [nI_1]
      refine ⟨N2, rfl, F'.tr F2, r3.fr hc' c2 (fun _ => rfl) (fun _ _ _ => rfl) (fun _ => rfl), fun i hi => ?_, fun k => ?_, fun g m hg hm => ?_⟩
      · rw [c2.i (by omega) rfl, r2.i (by omega) rfl]; exact i3 i hi
      · rw [c2.j (by omega) rfl, e88]
      · have hj' : j < fl.length := by omega
        have eg : fl.getD j 0 = fl[j] := by rw [List.getD_eq_getElem?_getD, List.getElem?_eq_getElem hj']; rfl
        rw [c3 g m (by omega) hm, r2.i (by omega) rfl, i5 g m hg hm, nI_add, List.take_succ, List.getElem?_eq_getElem hj', List.countP_append]
        congr 2
        show _ = List.countP _ [fl[j]]
        rw [List.countP_singleton, ← eg]
        unfold on1
        by_cases y : cbS (uR M) c0 E (LF (M.2.1 140)) (upF (M.2.1 140) G) e (fl.getD j 0) g m = true
        · rw [if_pos ⟨hg, y⟩, if_pos y]
        · rw [if_neg (fun z => y z.2), if_neg y]) (i := 0) (s := A) (by omega) ⟨FA, RA, fun i hi => by rw [a2.i rfl]; exact h90 i hi, fun k => a2.j rfl, fun g m hg hm => by rw [a3 _ (by omega), List.take_zero, List.countP_nil]; rfl⟩
  replace b1 : sItr (fun a : (Int32 × sMem) => f_X11_countShut_K10 0 (nI e) (nI fl.length) a.1 a.2) sFuel (0, A) = some N := b1
  rw [b1]
  exact ⟨N, rfl, b2⟩
end CN2
