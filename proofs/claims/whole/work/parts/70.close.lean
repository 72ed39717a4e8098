/-! THE CLASS: when gates are closed -/
/-- by eras but one, when a gate is shut, were it down -/
def anS (u : Nat → Nat → Int32) (c0 : List Nat) (E : Nat) (L : Nat → Nat) (but g m : Nat) : Bool := (List.range E).any fun e => decide (e ≠ but) && shutS u c0 e g (nI (L e)) (nI m)
def upb (up g : Nat) : Bool := decide (up / 2 ^ g % 2 = 1)
def clS (u : Nat → Nat → Int32) (c0 : List Nat) (G E : Nat) (L : Nat → Nat) (but up g m : Nat) : Bool := decide (g < G ∧ m < 200) && anS u c0 E L but g m && !upb up g
/-- a State's cells -/
def StS (M : sMem) (s : Nat) : Prop := (M.1[s]? = some (8, 8) ∧ M.1[s + 1]? = some (14, 5) ∧ M.1[s + 2]? = some (14, 5) ∧ M.1[s + 3]? = some (14, 5) ∧ M.1[s + 4]? = some (14, 5) ∧ M.1[s + 5]? = some (14, 120)) ∧ M.2.2.2 s 2 = some (s + 1) ∧ M.2.2.2 s 3 = some (s + 2) ∧ M.2.2.2 s 4 = some (s + 3) ∧ M.2.2.2 s 5 = some (s + 4) ∧ M.2.2.2 s 6 = some (s + 5)
theorem StS.fr {P Q R : Nat → Nat → Bool} {M N : sMem} {s : Nat} (h : StS M s) (hF : FrA P Q R M N) (hR : ∀ k, R s k = false) : StS N s := by
  obtain ⟨⟨a1, a2, a3, a4, a5, a6⟩, b1, b2, b3, b4, b5⟩ := h
  have hl := lt_of_sh a1
  exact ⟨⟨hF.1 _ _ a1, hF.1 _ _ a2, hF.1 _ _ a3, hF.1 _ _ a4, hF.1 _ _ a5, hF.1 _ _ a6⟩, by rw [hF.2.2.2 _ _ hl (hR 2)]; exact b1, by rw [hF.2.2.2 _ _ hl (hR 3)]; exact b2, by rw [hF.2.2.2 _ _ hl (hR 4)]; exact b3, by rw [hF.2.2.2 _ _ hl (hR 5)]; exact b4, by rw [hF.2.2.2 _ _ hl (hR 6)]; exact b5⟩
theorem upb_of {up g : Nat} (hu : up < 1000000) (hg : g < 32) : (((nI up >>> (nI g &&& 31)) &&& (1 : Int32)) = 1 ↔ upb up g = true) := by
  have h31 : ((nI g &&& 31).toBitVec.smod 32).toNat = g := by
    have : ∀ g, g < 32 → ((nI g &&& 31).toBitVec.smod 32).toNat = g := by decide
    exact this g hg
  rw [pk_shrN (by omega) (nI g &&& 31) g h31]
  have hlt : up / 2 ^ g ≤ up := Nat.div_le_self _ _
  rw [pk_andN (by omega) 1 (by decide), show (1 : Int32) = nI 1 from rfl, nI_eq (by omega) (by omega)]
  unfold upb
  rw [decide_eq_true_eq]
section CL
variable {u : Nat → Nat → Int32} {M N : sMem} {D G P E C W g k e c l m s up but into : Nat} {c0 c1 c2 : List Nat} {L : Nat → Nat}
def bI0 (but : Nat) : Int32 := if but = 99 then -1 else nI but
theorem bI0_eq {e but : Nat} (he : e < 5) (hb : but = 99 ∨ but < 5) : (nI e = bI0 but) ↔ e = but := by
  unfold bI0
  rcases hb with rfl | hb
  · rw [if_pos rfl]
    constructor
    · intro h; exact (by rw [show (-1 : Int32) = mI from rfl, cneg (by omega)] at h; exact h.elim)
    · intro h; omega
  · rw [if_neg (by omega), nI_eq (by omega) (by omega)]
/-- a row is joined -/
theorem c_join {r : Nat} (hr : M.1[r]? = some (15, 24)) (hi : M.1[into]? = some (15, 24)) (hne : r ≠ into) (v0 v1 : Nat) (v2 v3 v5 : Int32) :
    ∃ N, f_X4_close_L48 v0 v1 v2 v3 into v5 r (nI 0) M = some (.inl (v5 + 1, N)) ∧ Fr q0 (fun a _ => a == into) M N ∧ ∀ g j, g < 6 → j < 256 → rb (N.2.2.1 into) g j = (rb (M.2.2.1 into) g j || rb (M.2.2.1 r) g j) := by
  unfold f_X4_close_L48 f_X4_close_B83
  obtain ⟨N, k1, k2, k3⟩ := itr_up (f := fun a : (Int32 × sMem) => f_X4_close_K48 v0 v1 v2 v3 into v5 r a.1 a.2)
    (fun i N => Fr q0 (fun a _ => a == into) M N ∧ ∀ k, k < 24 → N.2.2.1 into k = if k < i then M.2.2.1 into k ||| M.2.2.1 r k else M.2.2.1 into k)
    (fun N => Fr q0 (fun a _ => a == into) M N ∧ ∀ k, k < 24 → N.2.2.1 into k = M.2.2.1 into k ||| M.2.2.1 r k) 24 (by omega) (i := 0) (s := M) (by
      rintro i N hi2 ⟨hF, hv⟩
      dsimp only
      unfold f_X4_close_K48
      rw [aL_of (by rw [hF.1]; exact hr), Option.bind_some]
      by_cases hi3 : 24 ≤ i
      · right
        refine ⟨N, by rw [if_pos (nI_le hi3 (by omega))], hF, fun k hk => ?_⟩
        rw [hv k hk, if_pos (by omega)]
      · left
        refine ⟨by omega, _, by rw [if_neg (nI_ge (by omega) (by omega)), aL_of (by rw [hF.1]; exact hi), Option.bind_some, if_neg (nI_ge (by omega) (by omega)), ldJ_n (by rw [hF.1]; exact hi) (by omega) (by omega), Option.bind_some, ldJ_n (by rw [hF.1]; exact hr) (by omega) (by omega), Option.bind_some, stJ_n (by rw [hF.1]; exact hi) (by omega) (by omega), Option.bind_some, nl 1, nI_add], hF.wj (by simp), fun k hk => ?_⟩
        rw [wrJ_get]
        by_cases hki : k = i
        · subst hki
          rw [if_pos ⟨rfl, rfl⟩, if_pos (by omega), hv k hk, if_neg (by omega), hF.j (beq_eq_false_iff_ne.mpr hne)]
        · rw [if_neg (fun z => hki z.2), hv k hk]
          by_cases hk3 : k < i
          · rw [if_pos hk3, if_pos (by omega)]
          · rw [if_neg hk3, if_neg (by omega)]) (by omega) ⟨Fr.rf, fun k hk => by rw [if_neg (by omega)]⟩
  rw [k1, Option.bind_some]
  refine ⟨N, rfl, k2, fun g j hg hj => ?_⟩
  unfold rb
  rw [k3 _ (by omega), or_bit]
/-- gates that are up are left out -/
theorem c_ups (hi : M.1[into]? = some (15, 24)) (hup : up < 64) :
    ∃ N, f_X4_close_L92 (nI up) into (nI 0) M = some N ∧ Fr q0 (fun a _ => a == into) M N ∧ ∀ g j, g < 6 → j < 256 → rb (N.2.2.1 into) g j = (rb (M.2.2.1 into) g j && !upb up g) := by
  unfold f_X4_close_L92
  obtain ⟨N, k1, k2, k3⟩ := itr_up (f := fun a : (Int32 × sMem) => f_X4_close_K92 (nI up) into a.1 a.2)
    (fun i N => Fr q0 (fun a _ => a == into) M N ∧ ∀ k, k < 24 → N.2.2.1 into k = if k < i ∧ upb up (k / 4) = true then 0 else M.2.2.1 into k)
    (fun N => Fr q0 (fun a _ => a == into) M N ∧ ∀ k, k < 24 → N.2.2.1 into k = if upb up (k / 4) = true then 0 else M.2.2.1 into k) 24 (by omega) (i := 0) (s := M) (by
      rintro i N hi2 ⟨hF, hv⟩
      dsimp only
      unfold f_X4_close_K92 f_X4_close_B118
      rw [aL_of (by rw [hF.1]; exact hi), Option.bind_some]
      by_cases hi3 : 24 ≤ i
      · right
        refine ⟨N, by rw [if_pos (nI_le hi3 (by omega))], hF, fun k hk => ?_⟩
        rw [hv k hk]
        by_cases q : upb up (k / 4) = true
        · rw [if_pos q, if_pos ⟨by omega, q⟩]
        · rw [if_neg q, if_neg (fun z => q z.2)]
      · left
        refine ⟨by omega, ?_⟩
        rw [if_neg (nI_ge (by omega) (by omega)), nl 4, pk_div (by omega) (by omega) (by omega)]
        by_cases q : upb up (i / 4) = true
        · rw [if_pos ((upb_of (by omega) (by omega)).mpr q), stJ_n (by rw [hF.1]; exact hi) (by omega) (by omega), Option.bind_some, nl 1, nI_add]
          refine ⟨_, rfl, hF.wj (by simp), fun k hk => ?_⟩
          rw [wrJ_get]
          by_cases hki : k = i
          · subst hki
            rw [if_pos ⟨rfl, rfl⟩, if_pos ⟨by omega, q⟩]
          · rw [if_neg (fun z => hki z.2), hv k hk]
            by_cases z : upb up (k / 4) = true
            · by_cases hk3 : k < i
              · rw [if_pos ⟨hk3, z⟩, if_pos ⟨by omega, z⟩]
              · rw [if_neg (fun y => hk3 y.1), if_neg (by omega)]
            · rw [if_neg (fun y => z y.2), if_neg (fun y => z y.2)]
        · rw [if_neg (fun z => q ((upb_of (by omega) (by omega)).mp z)), nl 1, nI_add]
          refine ⟨N, rfl, hF, fun k hk => ?_⟩
          rw [hv k hk]
          by_cases z : upb up (k / 4) = true
          · have : k ≠ i := fun y => q (by rw [← y]; exact z)
            by_cases hk3 : k < i
            · rw [if_pos ⟨hk3, z⟩, if_pos ⟨by omega, z⟩]
            · rw [if_neg (fun y => hk3 y.1), if_neg (by omega)]
          · rw [if_neg (fun y => z y.2), if_neg (fun y => z y.2)]) (by omega) ⟨Fr.rf, fun k hk => by rw [if_neg (by omega)]⟩
  rw [k1, Option.bind_some]
  refine ⟨N, rfl, k2, fun g j hg hj => ?_⟩
  unfold rb
  rw [k3 _ (by omega), show (4 * g + j / 64) / 4 = g by omega]
  by_cases q : upb up g = true
  · rw [if_pos q, q, zero_bit]; simp
  · rw [if_neg q]; simp [q]
theorem any_succ (f : Nat → Bool) (n : Nat) : (List.range (n + 1)).any f = ((List.range n).any f || f n) := by
  rw [List.range_succ, List.any_append]; simp
def qCl (into : Nat) : Nat → Nat → Bool := fun a k => qRow a k || a == into
/-- when gates are closed, into a row -/
theorem c_close (h : CV u M D G P E C W c0 c1 c2) (hu : DU u G P E C W c0 c1 c2) (hI : RowsI u M G c0) (hS : StS M s) (hs : s = 54 ∨ s = 60) (hL : ∀ e, e < E → M.2.1 (s + 1) e = nI (L e) ∧ L e < 100) (hup : up < 64) (hbut : but = 99 ∨ but < 5) (hi : into = 73 ∨ into = 88) :
    ∃ N, f_X4_close 76 s (nI up) (bI0 but) into M = some N ∧ FrB pRow (qCl into) rRow M N ∧ RowsI u N G c0 ∧ ∀ g j, g < 6 → j < 256 → rb (N.2.2.1 into) g j = clS u c0 G E L but up g j := by
  have hc := h.hc
  have hb := hu.2.1
  have hish : M.1[into]? = some (15, 24) := by rcases hi with rfl | rfl; exact cs73 hc; exact cs88 hc
  unfold f_X4_close
  rw [sr76 hc]
  obtain ⟨M1, a1, a2, a3⟩ := fillJ hish (by decide) 0
  rw [a1, Option.bind_some, nl 0]
  have q1 : ∀ a k, qCl into a k = false → (a == into) = false := fun a k z => by unfold qCl at z; revert z; cases (a == into) <;> simp
  have q2 : ∀ a k, qCl into a k = false → qRow a k = false := fun a k z => by unfold qCl at z; revert z; cases (qRow a k) <;> simp
  have f1 : FrB pRow (qCl into) rRow M M1 := a2.fb.mono (fun _ _ _ => rfl) (fun a k z => q1 a k z) (fun _ _ z => z)
  have into187 : ∀ a k, 187 ≤ a → (fun b (_ : Nat) => b == into) a k = false := fun a k ha => beq_eq_false_iff_ne.mpr (by omega)
  have hI1 : RowsI u M1 G c0 := hI.fr (R := fun _ _ => false) hc a2.fb (fun _ => rfl) into187 (fun _ => rfl)
  unfold f_X4_close_L9 f_X4_close_B89
  obtain ⟨N, k1, k2, k3, k4⟩ := itr_up (f := fun a : (Int32 × sMem) => f_X4_close_K9 76 s (nI up) (bI0 but) into a.1 a.2)
    (fun i N => FrB pRow (qCl into) rRow M N ∧ RowsI u N G c0 ∧ ∀ g j, g < 6 → j < 256 → rb (N.2.2.1 into) g j = (decide (g < G ∧ j < 200) && anS u c0 i L but g j))
    (fun N => FrB pRow (qCl into) rRow M N ∧ RowsI u N G c0 ∧ ∀ g j, g < 6 → j < 256 → rb (N.2.2.1 into) g j = (decide (g < G ∧ j < 200) && anS u c0 E L but g j)) E (by omega) (i := 0) (s := M1) (by
      rintro i N hi2 ⟨hF, hIN, hv⟩
      dsimp only
      have hN : CV u N D G P E C W c0 c1 c2 := h.fb hF offD_row offR_row
      have hSN : StS N s := hS.fr hF.1 (fun k => by unfold rRow; exact beq_eq_false_iff_ne.mpr (by omega))
      have hls := lt_of_sh hS.1.2.1
      unfold f_X4_close_K9
      rw [hN.p76, Option.bind_some, hN.g4, Option.bind_some, hN.nE, Option.bind_some]
      by_cases hiE : E ≤ i
      · right
        obtain rfl : i = E := by omega
        exact ⟨N, by rw [if_pos (nI_le hiE (by omega))], hF, hIN, hv⟩
      · left
        refine ⟨by omega, ?_⟩
        rw [if_neg (nI_ge (by omega) (by omega))]
        have step : ∀ g j, anS u c0 (i + 1) L but g j = (anS u c0 i L but g j || (decide (i ≠ but) && shutS u c0 i g (nI (L i)) (nI j))) := fun g j => any_succ _ i
        by_cases hib : i = but
        · rw [if_pos ((bI0_eq (by omega) hbut).mpr hib)]
          refine ⟨N, by unfold f_X4_close_B83; rw [nl 1, nI_add], hF, hIN, fun g j hg hj => ?_⟩
          rw [hv g j hg hj, step, decide_eq_false (show ¬ i ≠ but by omega), Bool.false_and, Bool.or_false]
        · rw [if_neg (fun z => hib ((bI0_eq (by omega) hbut).mp z)), gR_of hSN.1.1 hSN.2.1, Option.bind_some, ldI_n hSN.1.2.1 (by omega) (by omega), Option.bind_some]
          have hLi := hL i (by omega)
          have p78 : pRow (s + 1) i = false := by rcases hs with rfl | rfl <;> rfl
          rw [hF.i hls p78, hLi.1]
          obtain ⟨r, N2, b1, b2, b3, b4, b5, b6⟩ := c_row hN hu hIN (e := i) (l := L i) (by omega) hLi.2
          rw [b1]
          dsimp only [Option.bind_some]
          have hish2 : N2.1[into]? = some (15, 24) := b2.sh (hF.sh hish)
          obtain ⟨N3, d1, d2, d3⟩ := c_join b4 hish2 (by omega) 76 s (nI up) (bI0 but) (nI i)
          rw [nl 0, d1]
          have e2 : N2.2.2.1 into = N.2.2.1 into := funext fun k => b2.j (lt_of_sh (hF.sh hish)) (by unfold qRow; exact decide_eq_false (by omega))
          have fN3 : FrB pRow (qCl into) rRow M N3 := (hF.tr (b2.mono (fun _ _ z => z) (fun a k z => q2 a k z) (fun _ _ z => z))).tr (d2.fb.mono (fun _ _ _ => rfl) (fun a k z => q1 a k z) (fun _ _ z => z))
          refine ⟨N3, by rw [nl 1, nI_add], fN3, b3.fr (R := fun _ _ => false) (b2.hc offR_row.1 hN.hc) d2.fb (fun _ => rfl) into187 (fun _ => rfl), fun g j hg hj => ?_⟩
          rw [d3 g j hg hj, e2, hv g j hg hj, b6 g j hg hj, step, decide_eq_true (show i ≠ but from hib), Bool.true_and]
          unfold rowS
          rw [← Bool.and_or_distrib_left]) (by omega) ⟨f1, hI1, fun g j hg hj => by
        rw [show anS u c0 0 L but g j = false from rfl, Bool.and_false]
        unfold rb; rw [a3 _ (by omega)]; exact zero_bit _⟩
  rw [k1, Option.bind_some, nl 0]
  obtain ⟨N3, d1, d2, d3⟩ := c_ups (up := up) (k2.sh hish) hup
  refine ⟨N3, d1, k2.tr (d2.fb.mono (fun _ _ _ => rfl) (fun a k z => q1 a k z) (fun _ _ z => z)), k3.fr (R := fun _ _ => false) (k2.hc offR_row.1 hc) d2.fb (fun _ => rfl) into187 (fun _ => rfl), fun g j hg hj => ?_⟩
  rw [d3 g j hg hj, k4 g j hg hj]
  rfl
end CL
