/-! LOOPS, in general -/
theorem itr_g {α β σ : Type} {f : α → Option (α ⊕ β)} (mk : Nat → σ → α) (I : Nat → σ → Prop) (P : β → Prop) (n : Nat) (hn : n < 900000)
    (hs : ∀ k s, k ≤ n → I k s → (k < n ∧ ∃ s', f (mk k s) = some (.inl (mk (k + 1) s')) ∧ I (k + 1) s') ∨ ∃ b, f (mk k s) = some (.inr b) ∧ P b) {i : Nat} {s : σ} (hi : i ≤ n) (h : I i s) : Ok (sItr f sFuel (mk i s)) P := by
  have key : ∀ (fu k : Nat) (s : σ), k ≤ n → n - k < fu → I k s → Ok (sItr f fu (mk k s)) P := by
    intro fu
    induction fu with
    | zero => intro k s _ h; omega
    | succ fu ih =>
      intro k s hk hf hI
      rcases hs k s hk hI with ⟨hlt, s', h1, h2⟩ | ⟨b, h1, h2⟩
      · obtain ⟨b, h3, h4⟩ := ih (k + 1) s' hlt (by omega) h2
        exact ⟨b, by show (f (mk k s)).bind _ = some b; rw [h1]; exact h3, h4⟩
      · exact ⟨b, by show (f (mk k s)).bind _ = some b; rw [h1]; rfl, h2⟩
  exact key sFuel i s hi (by rw [sFuel_v]; omega) h
/-! THE REFERENCE lays when gates are shut -/
def pLay : Nat → Nat → Bool := fun a k => pSh a k || a == 144
theorem lay_sh {a k : Nat} (h : pLay a k = false) : pSh a k = false := by unfold pLay at h; revert h; cases pSh a k <;> simp
section LY
variable {u : Nat → Nat → Int32} {M N : sMem} {D G P E C W g k e c l m but : Nat} {c0 c1 c2 : List Nat} {L : Nat → Nat}
theorem RV.fr {P Q : Nat → Nat → Bool} (h : RV u M) (hF : Fr P Q M N) (hP : ∀ a k, 130 ≤ a → a ≤ 139 → P a k = false) : RV u N := ⟨hF.hs h.1, fun a k h1 h2 => by rw [hF.i (hP a k h1 h2)]; exact h.2 a k h1 h2⟩
theorem sh_130 {a k : Nat} (h : 130 ≤ a) (h2 : a ≤ 140) : pLay a k = false := by
  have h1 : (a == 94) = false := beq_eq_false_iff_ne.mpr (by omega)
  have h2 : (a == 144) = false := beq_eq_false_iff_ne.mpr (by omega)
  unfold pLay pSh; rw [h1, h2]; rfl
theorem r_many (hs : RefS M.1 M.2.2.2) : f_X12_gateMany 94 M = some (M.2.1 131 5) ∧ f_X12_placeMany 94 M = some (M.2.1 131 6) ∧ f_X12_eraMany 94 M = some (M.2.1 131 7) ∧ f_X12_carMany 94 M = some (M.2.1 131 8) ∧ f_X12_roadMany 94 M = some (M.2.1 131 9) := by
  unfold f_X12_gateMany f_X12_placeMany f_X12_eraMany f_X12_carMany f_X12_roadMany
  refine ⟨?_, ?_, ?_, ?_, ?_⟩ <;> simp (disch := first | assumption | (simp only [wrI_sh, wrI_rf, wrJ_sh, wrJ_rf]; assumption) | omega | rfl | decide) only [gi94, gj94, pi94, pj94, pr94, sr94, gr94_0, gr94_9, gr94_11, gr94_12, gr94_13, gr94_14, gr94_15, gr94_16, gr94_17, gr94_18, gr94_19, gr94_20, gr94_21, gr94_22, gr94_23, gr94_24, gr94_25, gr94_26, gr94_27, gr94_28, gr94_29, gr94_30, gr94_31, gr94_32, gr94_33, gr94_34, gr94_35, gr94_36, gr94_37, gr94_38, gr94_39, gr94_40, gr94_41, gr94_42, gr94_43, gr94_45, gr94_46, gr94_47, gr94_48, gr94_49, gr94_50, gr94_51, gr94_52, gr94_53, gr94_54, gr94_59, gr94_60, gr94_66, gr94_67, gr94_68, gr94_69, gr94_73, gr94_74, gr94_75, gr94_76, gr94_77, gr94_78, gr94_79, gr94_81, gr94_82, gr94_84, gr94_88, gr94_89, gr94_90, gr94_91, gr94_92, gr94_93, gr94_94, gr94_95, gr94_96, gr94_97, gr94_98, gr94_99, gr94_100, gr94_101, gr94_102, gr94_103, gr94_104, gr94_105, gr94_106, gr94_107, gr94_108, gr94_109, gr94_110, gr94_111, gr94_112, gr94_113, gr94_114, gr94_115, gr94_117, gr94_121, gr94_125, ld131, st131, al131, nlit, nneg, nI_add, pk_mul, nsub, Option.bind_some, if_true, if_false, Nat.reduceEqDiff, Nat.reduceLeDiff, Nat.reduceLT, Nat.reduceAdd, Nat.reduceMul, Nat.reduceSub]
theorem any_mono {f : Nat → Bool} {n k : Nat} (h : n ≤ k) (hf : (List.range n).any f = true) : (List.range k).any f = true := by
  rw [List.any_eq_true] at hf ⊢
  obtain ⟨x, h1, h2⟩ := hf
  exact ⟨x, List.mem_range.mpr (by have := List.mem_range.mp h1; omega), h2⟩
/-- one gate, one minute -/
theorem r_lay1 (hR : RV u M) (hu : DU u G P E C W c0 c1 c2) (hL : ∀ e, e < E → M.2.1 140 (7 + e) = nI (L e) ∧ L e < 100) (hbut : but = 99 ∨ but < 5) (hg : g < G) (hm : m < 200) :
    ∃ N, f_X12_laysShutBut_L25 94 (bI0 but) (nI g) (nI m) 0 (nI 0) M = some (.inl (nI (m + 1), N)) ∧ Fr pLay qR2 M N ∧ N.2.1 144 (200 * g + m) = bI (anS u c0 E L but g m = true) ∧ ∀ j, j ≠ 200 * g + m → N.2.1 144 j = M.2.1 144 j := by
  have hb := hu.2.1
  unfold f_X12_laysShutBut_L25 f_X12_laysShutBut_B75
  obtain ⟨⟨x, N⟩, h1, h2, h3⟩ := itr_g (f := fun a : (Int32 × Int32 × sMem) => f_X12_laysShutBut_K25 94 (bI0 but) (nI g) (nI m) a.1 a.2.1 a.2.2) (fun k (s : Int32 × sMem) => (s.1, nI k, s.2))
    (fun i s => Fr pSh qR2 M s.2 ∧ s.1 = bI (anS u c0 i L but g m = true)) (fun b => Fr pSh qR2 M b.2 ∧ b.1 = bI (anS u c0 E L but g m = true)) E (by omega) (i := 0) (s := ((0 : Int32), M)) (by
      rintro i ⟨x, N⟩ hi ⟨hF, hv⟩
      dsimp only at hF hv ⊢
      have hRN : RV u N := hR.fr hF (fun a k h1 h2 => lay_sh (sh_130 h1 (by omega)))
      have hs := hRN.1
      have step : anS u c0 (i + 1) L but g m = (anS u c0 i L but g m || (decide (i ≠ but) && shutS u c0 i g (nI (L i)) (nI m))) := any_succ _ i
      unfold f_X12_laysShutBut_K25 f_X12_laysShutBut_B66 f_X12_laysShutBut_B67
      rw [(r_many hs).2.2.1, Option.bind_some, hRN.2 131 _ (by decide) (by decide), hu.1.2.2.1]
      by_cases hiE : E ≤ i
      · right
        obtain rfl : i = E := by omega
        exact ⟨_, by rw [if_pos (nI_le hiE (by omega))], hF, hv⟩
      · rw [if_neg (nI_ge (by omega) (by omega))]
        by_cases hx : x = 0
        · left
          refine ⟨by omega, ?_⟩
          rw [if_pos hx]
          have hfa : ¬ anS u c0 i L but g m = true := by rw [hx] at hv; exact bI_0.mp hv.symm
          have hfa' : anS u c0 i L but g m = false := by cases q : anS u c0 i L but g m with | false => rfl | true => exact absurd q hfa
          rw [hfa', Bool.false_or] at step
          by_cases hib : i = but
          · rw [if_pos ((bI0_eq (by omega) hbut).mpr hib), nl 1, nI_add]
            refine ⟨(0, N), rfl, hF, ?_⟩
            dsimp only
            rw [step, decide_eq_false (show ¬ i ≠ but by omega), Bool.false_and, bI_f (by decide)]
          · rw [decide_eq_true (show i ≠ but from hib), Bool.true_and] at step
            have hLi := hL i (by omega)
            rw [if_neg (fun z => hib ((bI0_eq (by omega) hbut).mp z)), r_lateOf hs (by omega), Option.bind_some, hF.i (lay_sh (sh_130 (by decide) (by decide))), hLi.1]
            obtain ⟨N2, d1, d2⟩ := r_doesShut hRN hu (e := i) (g := g) (l := L i) (m := m) (by omega) hg hLi.2 hm
            rw [d1]
            dsimp only [Option.bind_some]
            by_cases hsh : shutS u c0 i g (nI (L i)) (nI m) = true
            · rw [bI_t hsh, if_neg (by decide), nl 1, nI_add]
              exact ⟨(nI 1, N2), rfl, hF.tr d2, by dsimp only; rw [step, bI_t hsh]; rfl⟩
            · rw [bI_f hsh, if_pos rfl, nl 1, nI_add]
              exact ⟨(0, N2), rfl, hF.tr d2, by dsimp only; rw [step, bI_f hsh]⟩
        · right
          rw [if_neg hx]
          refine ⟨_, rfl, hF, ?_⟩
          dsimp only
          have hta : anS u c0 i L but g m = true := by
            cases q : anS u c0 i L but g m with
            | true => rfl
            | false => rw [q] at hv; exact absurd hv hx
          rw [hv, bI_t hta, bI_t (show anS u c0 E L but g m = true from any_mono (by omega) hta)]) (by omega) ⟨Fr.rf, by dsimp only; rw [show anS u c0 0 L but g m = false from rfl, bI_f (by decide)]⟩
  try dsimp only at h1 h2 h3
  rw [h1, Option.bind_some]
  dsimp only
  have hs : RefS N.1 N.2.2.2 := h2.hs hR.1
  rw [gr94_68 hs, Option.bind_some, nl 200, pk_mul, nI_add, st144 hs (by omega) (by rw [h3]; exact bI_01), Option.bind_some, nl 1, nI_add]
  refine ⟨_, rfl, (h2.mono (fun a k z => lay_sh z) (fun _ _ z => z)).wi (by unfold pLay; simp), by rw [wrI_eq, h3], fun j hj => ?_⟩
  rw [wrI_ne (by omega), h2.i rfl]
theorem r_lays (hR : RV u M) (hu : DU u G P E C W c0 c1 c2) (hL : ∀ e, e < E → M.2.1 140 (7 + e) = nI (L e) ∧ L e < 100) (hbut : but = 99 ∨ but < 5) :
    ∃ N, f_X12_laysShutBut 94 (bI0 but) M = some N ∧ Fr pLay qR2 M N ∧ ∀ g m, g < G → m < 200 → N.2.1 144 (200 * g + m) = bI (anS u c0 E L but g m = true) := by
  have hb := hu.2.1
  unfold f_X12_laysShutBut f_X12_laysShutBut_L2
  rw [sr94 hR.1]
  obtain ⟨N, h1, h2, h3⟩ := itr_g (f := fun a : (Int32 × sMem) => f_X12_laysShutBut_K2 94 (bI0 but) a.1 a.2) (fun k (s : sMem) => (nI k, s))
    (fun i N => Fr pLay qR2 M N ∧ ∀ g m, g < i → m < 200 → N.2.1 144 (200 * g + m) = bI (anS u c0 E L but g m = true)) (fun N => Fr pLay qR2 M N ∧ ∀ g m, g < G → m < 200 → N.2.1 144 (200 * g + m) = bI (anS u c0 E L but g m = true)) G (by omega) (i := 0) (s := M) (by
      rintro i N hi ⟨hF, hv⟩
      have hRN : RV u N := hR.fr hF (fun a k h1 h2 => sh_130 h1 (by omega))
      have hs := hRN.1
      dsimp only
      unfold f_X12_laysShutBut_K2
      rw [(r_many hs).1, Option.bind_some, hRN.2 131 _ (by decide) (by decide), hu.1.1]
      by_cases hiG : G ≤ i
      · right
        obtain rfl : i = G := by omega
        exact ⟨N, by rw [if_pos (nI_le hiG (by omega))], hF, hv⟩
      · left
        refine ⟨by omega, ?_⟩
        rw [if_neg (nI_ge (by omega) (by omega))]
        unfold f_X12_laysShutBut_L12 f_X12_laysShutBut_B95
        obtain ⟨N2, k1, k2, k3, k4⟩ := itr_g (f := fun a : (Int32 × sMem) => f_X12_laysShutBut_K12 94 (bI0 but) (nI i) a.1 a.2) (fun k (s : sMem) => (nI k, s))
          (fun j N2 => Fr pLay qR2 M N2 ∧ (∀ g m, g < i → m < 200 → N2.2.1 144 (200 * g + m) = bI (anS u c0 E L but g m = true)) ∧ ∀ m, m < j → N2.2.1 144 (200 * i + m) = bI (anS u c0 E L but i m = true))
          (fun N2 => Fr pLay qR2 M N2 ∧ (∀ g m, g < i → m < 200 → N2.2.1 144 (200 * g + m) = bI (anS u c0 E L but g m = true)) ∧ ∀ m, m < 200 → N2.2.1 144 (200 * i + m) = bI (anS u c0 E L but i m = true)) 200 (by omega) (i := 0) (s := N) (by
            rintro j N2 hj ⟨gF, g1, g2⟩
            dsimp only
            unfold f_X12_laysShutBut_K12
            by_cases hj2 : 200 ≤ j
            · right
              obtain rfl : j = 200 := by omega
              exact ⟨N2, by rw [if_pos (by decide)], gF, g1, g2⟩
            · left
              refine ⟨by omega, ?_⟩
              rw [if_neg (by rw [nl 200, cle (by omega) (by omega)]; omega)]
              obtain ⟨N3, d1, d2, d3, d4⟩ := r_lay1 (g := i) (m := j) (hR.fr gF (fun a k h1 h2 => sh_130 h1 (by omega))) hu (fun e he => by rw [gF.i (sh_130 (by decide) (by decide))]; exact hL e he) hbut (by omega) (by omega)
              rw [nl 0] at *
              refine ⟨N3, d1, gF.tr d2, fun g m hg hm => ?_, fun m hm => ?_⟩
              · rw [d4 _ (by omega)]; exact g1 g m hg hm
              · by_cases hmj : m = j
                · rw [hmj]; exact d3
                · rw [d4 _ (by omega)]; exact g2 m (by omega)) (by omega) ⟨hF, hv, fun m hm => by omega⟩
        try dsimp only at k1
        rw [nl 0, k1, Option.bind_some, nl 1, nI_add]
        refine ⟨N2, rfl, k2, fun g m hg hm => ?_⟩
        by_cases hgi : g = i
        · rw [hgi]; exact k4 m hm
        · exact k3 g m (by omega) hm) (by omega) ⟨Fr.rf, fun g m hg => by omega⟩
  try dsimp only at h1
  rw [nl 0, h1, Option.bind_some]
  exact ⟨N, rfl, h2, h3⟩
theorem r_laysShut (hR : RV u M) (hu : DU u G P E C W c0 c1 c2) (hL : ∀ e, e < E → M.2.1 140 (7 + e) = nI (L e) ∧ L e < 100) :
    ∃ N, f_X12_laysShut 94 M = some N ∧ Fr pLay qR2 M N ∧ ∀ g m, g < G → m < 200 → N.2.1 144 (200 * g + m) = bI (anS u c0 E L 99 g m = true) := by
  obtain ⟨N, h1, h2, h3⟩ := r_lays hR hu hL (but := 99) (Or.inl rfl)
  unfold f_X12_laysShut
  rw [sr94 hR.1, show (-1 : Int32) = bI0 99 from rfl, h1, Option.bind_some]
  exact ⟨N, rfl, h2, h3⟩
end LY
