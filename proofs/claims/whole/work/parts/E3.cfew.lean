/-! THE CLASS counts its keepers -/
section CFE
variable {M N : sMem} {n : Nat} {vF vL vM : Nat → Int32}
theorem less1k {a : Nat} (h : 1 ≤ a) (h2 : a < 1000) : nI a + (-1 : Int32) = nI (a - 1) := by
  apply Int32.toInt_inj.mp
  rw [Int32.toInt_add, nI_i (by omega), nI_i (by omega), show (-1 : Int32).toInt = -1 from rfl, b32 (by omega) (by omega)]
  omega
theorem c_fewest (hc : ClsS M.1 M.2.2.2) (hD : KDk n vF vL vM M) : ∃ N, f_X3_fewest 82 M = some (nI (n - ndK n (RelK vF vL vM) n), N) ∧ Fr pKt q0 M N := by
  have hn := hD.1
  obtain ⟨M7, f1, f2, f3⟩ := fillI (M := M) (a := 86) (n0 := 40) (cs86 hc) (by decide) (-1)
  have F7 : Fr pKt q0 M M7 := f2.mono (fun a k z => imF (fun y => by unfold pKt; rw [Bool.or_eq_true]; exact Or.inl y) z) (fun _ _ z => z)
  have hc7 := F7.hc hc
  obtain ⟨b, b1, b2, b3⟩ := itr_g (f := fun a : (Int32 × Int32 × sMem) => f_X3_fewest_K15 82 a.1 a.2.1 a.2.2) (fun k (N : sMem) => (nI (n - ndK n (RelK vF vL vM) k), nI k, N)) (fun k N => Fr pKt q0 M N ∧ ∃ b, (∀ j, j < n → N.2.1 86 j = oI (b j)) ∧ MTk n (RelK vF vL vM) b (SgK n (RelK vF vL vM) k) ∧ cntN (fun j => (b j).isSome) n ≤ k) (fun r => r.1 = nI (n - ndK n (RelK vF vL vM) n) ∧ Fr pKt q0 M r.2) n (by omega) (i := 0) (s := M7) (by
    rintro k N hk ⟨i1, b, i2, i3, i4⟩
    have hcN := i1.hc hc
    have hDN := hD.fr i1
    dsimp only
    unfold f_X3_fewest_K15
    rw [gi82 hcN, Option.bind_some, hDN.2.1]
    by_cases q : k = n
    · right
      subst q
      rw [if_pos (nI_le (Nat.le_refl _) (by omega))]
      exact ⟨_, rfl, rfl, i1⟩
    · left
      have hkn : k < n := by omega
      refine ⟨hkn, ?_⟩
      obtain ⟨N3, g1, g2, g3⟩ := fillI (M := N) (a := 87) (n0 := 40) (cs87 hcN) (by decide) 0
      have G3 : Fr pKt q0 N N3 := g2.mono (fun a k z => imF (fun y => by unfold pKt; rw [Bool.or_eq_true]; exact Or.inr y) z) (fun _ _ z => z)
      have hc3 := G3.hc hcN
      have hD3 := hDN.fr G3
      have hK3 : KCk n b (fun _ => false) N3 := fun j hj => ⟨by rw [g2.i (beq_eq_false_iff_ne.mpr (by decide))]; exact i2 j hj, by rw [g3 j (by omega)]; exact (bI_f (fun z => by cases z)).symm⟩
      have hcu : cnU n b (fun _ => false) ≤ k := by
        have : cnU n b (fun _ => false) = cntN (fun j => (b j).isSome) n := by
          unfold cnU
          exact cntN_cong (fun i _ => by rw [Bool.not_false, Bool.and_true])
        omega
      have hnd := nd_le (n := n) (R := RelK vF vL vM) k
      obtain ⟨r, N5, h1, h2, h3⟩ := c_goes (n := n) 64 k 0 N3 b (fun _ => false) hc3 hD3 hK3 hkn (mt_psc i3) (by omega) (by omega)
      replace h1 : F_goes 64 82 (nI k) 0 N3 = some (r, N5) := h1
      rw [if_neg (nI_ge (by omega) (by omega)), gr82_4 hcN, Option.bind_some, g1, Option.bind_some, h1]
      dsimp only [Option.bind_some]
      unfold f_X3_fewest_B43
      rw [nI_1]
      rcases h3 with ⟨rfl, T', e1, e2, e3, e4⟩ | ⟨rfl, b', T', e1, e2⟩
      · rw [if_pos rfl]
        obtain ⟨m1, m2⟩ := sg_n (V := fun j => T' j = true) i3 ⟨e3, fun j hj hV => e4 j hj hV rfl⟩
        rw [m2]
        exact ⟨N5, rfl, (i1.tr G3).tr h2, b, fun j hj => (e1 j hj).1, m1, by omega⟩
      · rw [if_neg (by decide), less1k (by omega) (by omega)]
        obtain ⟨m1, m2⟩ := sg_y (mt_asc i3 e2)
        obtain ⟨_, _, _, _, f, f1, f2, f3⟩ := e2
        have hct : cntN (fun j => (b' j).isSome) n = cntN (fun j => (b j).isSome) n + 1 := cntN_off (w := f) f1 (by rw [f3, decide_eq_true (show f = f from rfl), Bool.or_true]) (by rw [f2]; rfl) (fun i hi => by rw [f3, decide_eq_false hi, Bool.or_false])
        rw [m2, Nat.sub_add_eq]
        exact ⟨N5, rfl, (i1.tr G3).tr h2, b', fun j hj => (e1 j hj).1, m1, by omega⟩) (by omega) ⟨F7, fun _ => none, fun j hj => by rw [f3 j (by omega)]; rfl, ⟨fun j i _ e => (by cases e), fun j j' i _ _ e => (by cases e), fun i => ⟨fun z => False.elim z, fun ⟨j, _, e⟩ => by cases e⟩⟩, by
      have : cntN (fun j : Nat => ((fun _ => none : Nat → Option Nat) j).isSome) n = 0 := by
        have h0 := cntN_mono (f := fun j : Nat => ((fun _ => none : Nat → Option Nat) j).isSome) (g := fun _ => false) (n := n) (fun i _ z => by cases z)
        have h1 : ∀ m, cntN (fun _ => false) m = 0 := fun m => by
          induction m with
          | zero => rfl
          | succ m ih =>
            show cntN (fun _ => false) m + _ = 0
            rw [ih]; rfl
        rw [h1] at h0
        omega
      exact Nat.le_of_eq this⟩
  refine ⟨b.2, ?_, b3⟩
  unfold f_X3_fewest f_X3_fewest_L15
  replace b1 : sItr (fun a : (Int32 × Int32 × sMem) => f_X3_fewest_K15 82 a.1 a.2.1 a.2.2) sFuel (nI n, 0, M7) = some b := b1
  rw [sr82 hc, gr82_3 hc, Option.bind_some, f1, Option.bind_some, gi82 hc7, Option.bind_some, (hD.fr F7).2.1, b1, Option.bind_some, ← b2]
end CFE
