/-! HOW LATE IT WAS: was -/
def cbS (u : Nat → Nat → Int32) (c0 : List Nat) (E : Nat) (L : Nat → Nat) (up e l g m : Nat) : Bool := !upb up g && (anS u c0 E L e g m || shutS u c0 e g (nI l) (nI m))
def fitS (cb : Nat → Nat → Nat → Bool) (sc : Nat) (sm sg sf : Nat → Nat) (l : Nat) : Bool := (List.range sc).all fun i => cb l (sg i) (sm i) == decide (sf i = 1)
def flS (fit : Nat → Bool) : Nat → List Nat
  | 0 => []
  | n + 1 => if fit n = true then flS fit n ++ [n] else flS fit n
theorem flS_le (fit : Nat → Bool) : ∀ n, (flS fit n).length ≤ n
  | 0 => Nat.le_refl _
  | n + 1 => by
    have := flS_le fit n
    show (if fit n = true then flS fit n ++ [n] else flS fit n).length ≤ n + 1
    split
    · rw [List.length_append]; show (flS fit n).length + 1 ≤ n + 1; omega
    · omega
theorem flS_mem {fit : Nat → Bool} : ∀ {n x : Nat}, x ∈ flS fit n → x < n ∧ fit x = true
  | 0, x, h => absurd h List.not_mem_nil
  | n + 1, x, h => by
    have h' : x ∈ (if fit n = true then flS fit n ++ [n] else flS fit n) := h
    by_cases q : fit n = true
    · rw [if_pos q] at h'
      rcases List.mem_append.mp h' with z | z
      · have := flS_mem z; exact ⟨by omega, this.2⟩
      · have : x = n := by simpa using z
        rw [this]; exact ⟨by omega, q⟩
    · rw [if_neg q] at h'
      have := flS_mem h'; exact ⟨by omega, this.2⟩
theorem all_iff {f : Nat → Bool} {n : Nat} : (List.range n).all f = true ↔ ∀ i, i < n → f i = true := by
  rw [List.all_eq_true]
  exact ⟨fun h i hi => h i (List.mem_range.mpr hi), fun h i hi => h i (List.mem_range.mp hi)⟩
section WAS
variable {M N : sMem} {D Do G P E C W k e c g m s n pc pn l r sc : Nat} {c0 c1 c2 : List Nat} {w : Nat → Int32} {u : Nat → Nat → Int32} {sm sg sf : Nat → Nat}
theorem bI0_n (h : e < 5) : bI0 e = nI e := by unfold bI0; rw [if_neg (by omega)]
/-- what was seen, in both -/
def SnS (M : sMem) (G sc : Nat) (sm sg sf : Nat → Nat) : Prop := sc ≤ 16 ∧ M.2.1 0 13 = nI sc ∧ M.2.1 94 80 = nI sc ∧ ∀ i, i < sc → (sm i < 200 ∧ sg i < G ∧ sf i ≤ 1) ∧ (M.2.1 153 (3 * i) = nI (sm i) ∧ M.2.1 153 (3 * i + 1) = nI (sg i) ∧ M.2.1 153 (3 * i + 2) = nI (sf i)) ∧ M.2.1 89 (3 * i) = nI (sm i) ∧ M.2.1 89 (3 * i + 1) = nI (sg i) ∧ M.2.1 89 (3 * i + 2) = nI (sf i)
theorem I_sn.fn (h : I_sn M G) (hG : G ≤ 6) : ∃ sc sm sg sf, SnS M G sc sm sg sf := by
  obtain ⟨sc, a1, a2, a3, a4⟩ := h
  refine ⟨sc, fun i => (M.2.1 153 (3 * i)).toInt.toNat, fun i => (M.2.1 153 (3 * i + 1)).toInt.toNat, fun i => (M.2.1 153 (3 * i + 2)).toInt.toNat, a1, a2, a3, fun i hi => ?_⟩
  obtain ⟨m, g, f, b1, b2, b3, ⟨b4, b5, b6⟩, b7, b8, b9⟩ := a4 i hi
  have em : (M.2.1 153 (3 * i)).toInt.toNat = m := by rw [b4, nI_i (by omega)]; rfl
  have ef : (M.2.1 153 (3 * i + 2)).toInt.toNat = f := by rw [b6, nI_i (by omega)]; rfl
  have eg : (M.2.1 153 (3 * i + 1)).toInt.toNat = g := by rw [b5, nI_i (by omega)]; rfl
  dsimp only
  rw [em, eg, ef]
  exact ⟨⟨b1, b2, b3⟩, ⟨b4, b5, b6⟩, b7, b8, b9⟩
/-- the class: whether a lateness is as seen -/
theorem c_asSeen (hc : ClsS N.1 N.2.2.2) (hV : SV w N 54 G E C) (hw : WG w G P E C) (hG : G ≤ 6) (h13 : N.2.1 0 13 = nI sc) (hsc : sc ≤ 16) (hsn : ∀ i, i < sc → (sm i < 200 ∧ sg i < G ∧ sf i ≤ 1) ∧ N.2.1 89 (3 * i) = nI (sm i) ∧ N.2.1 89 (3 * i + 1) = nI (sg i) ∧ N.2.1 89 (3 * i + 2) = nI (sf i)) (h88 : ∀ g j, g < 6 → j < 256 → rb (N.2.2.1 88) g j = clS u c0 G E (LF w) e (upF w G) g j) (hr : N.1[r]? = some (15, 24)) (hrow : ∀ g j, g < 6 → j < 256 → rb (N.2.2.1 r) g j = rowS u c0 G e l g j) :
    f_X11_isAsSeen 0 r N = some (bI (fitS (fun l g m => cbS u c0 E (LF w) (upF w G) e l g m) sc sm sg sf l = true)) := by
  unfold f_X11_isAsSeen f_X11_isAsSeen_L2
  rw [sr0 hc]
  obtain ⟨b, b1, b2⟩ := itr_up0 (f := fun a : (Int32) => f_X11_isAsSeen_K2 0 r a N) (fun j => ∀ i, i < j → (cbS u c0 E (LF w) (upF w G) e l (sg i) (sm i) == decide (sf i = 1)) = true) (fun b => b = bI (fitS (fun l g m => cbS u c0 E (LF w) (upF w G) e l g m) sc sm sg sf l = true)) sc (by omega) (by
    intro j hj hI
    unfold f_X11_isAsSeen_K2 f_X11_isAsSeen_B70 f_X11_isAsSeen_B66 f_X11_isAsSeen_B71 f_X11_isAsSeen_B94
    rw [gi0 hc, Option.bind_some, h13]
    by_cases q : j = sc
    · right
      subst q
      rw [if_pos (nI_le (Nat.le_refl _) (by omega))]
      exact ⟨_, rfl, (bI_t (all_iff.mpr hI)).symm⟩
    · obtain ⟨⟨s1, s2, s3⟩, s4, s5, s6⟩ := hsn j (by omega)
      have x3 : nI j * (3 : Int32) = nI (3 * j) := by rw [show (3 : Int32) = nI 3 from rfl, pk_mul, Nat.mul_comm]
      have e88 := h88 (sg j) (sm j) (by omega) (by omega)
      have er := hrow (sg j) (sm j) (by omega) (by omega)
      unfold rb at e88 er
      rw [if_neg (nI_ge (by omega) (by omega)), gr0_12 hc, Option.bind_some, x3, ld89 hc (by omega), Option.bind_some, s4, Option.bind_some, show nI (3 * j) + (1 : Int32) = nI (3 * j + 1) from nI_1 _, ld89 hc (by omega), Option.bind_some, s5, gr0_4 hc, Option.bind_some, c_isUp (StS54 hc) hV hw hG (by omega), Option.bind_some, gr0_11 hc, Option.bind_some, b_isMarked (cs88 hc) (by omega) (by omega), Option.bind_some, b_isMarked hr (by omega) (by omega), Option.bind_some, e88, er, Option.bind_some, show nI (3 * j) + (2 : Int32) = nI (3 * j + 2) from nI_add _ 2, ld89 hc (by omega), Option.bind_some, s6, nI_1]
      have u1 := upb_w hw hG (show sg j < 6 by omega)
      have ec : cbS u c0 E (LF w) (upF w G) e l (sg j) (sm j) = if w (1 + sg j) = 0 then (clS u c0 G E (LF w) e (upF w G) (sg j) (sm j) || rowS u c0 G e l (sg j) (sm j)) else false := by
        unfold cbS clS rowS
        rw [decide_eq_true (⟨s2, s1⟩ : sg j < G ∧ sm j < 200), Bool.true_and, Bool.true_and]
        rcases w01 hw (show sg j < 6 by omega) with z | z
        · have : upb (upF w G) (sg j) = false := Bool.eq_false_iff.mpr (fun y => by have := u1.mp y; rw [z] at this; exact absurd this (by decide))
          rw [if_pos z, this, Bool.not_false, Bool.true_and, Bool.and_true]
        · rw [if_neg (by rw [z]; decide), u1.mpr z]; rfl
      -- what is compared
      have fin : ∀ v : Bool, cbS u c0 E (LF w) (upF w G) e l (sg j) (sm j) = v → (j < sc ∧ (if nI (sf j) = (1 : Int32) then (if (if v = true then (1 : Int32) else 0) = 1 then (some (Sum.inl (nI (j + 1))) : Option (Int32 ⊕ Int32)) else some (Sum.inr 0)) else (if (if v = true then (1 : Int32) else 0) = 0 then some (Sum.inl (nI (j + 1))) else some (Sum.inr 0))) = some (Sum.inl (nI (j + 1))) ∧ ∀ i, i < j + 1 → (cbS u c0 E (LF w) (upF w G) e l (sg i) (sm i) == decide (sf i = 1)) = true) ∨ ∃ b, (if nI (sf j) = (1 : Int32) then (if (if v = true then (1 : Int32) else 0) = 1 then (some (Sum.inl (nI (j + 1))) : Option (Int32 ⊕ Int32)) else some (Sum.inr 0)) else (if (if v = true then (1 : Int32) else 0) = 0 then some (Sum.inl (nI (j + 1))) else some (Sum.inr 0))) = some (Sum.inr b) ∧ b = bI (fitS (fun l g m => cbS u c0 E (LF w) (upF w G) e l g m) sc sm sg sf l = true) := by
        intro v hv
        have good : v = decide (sf j = 1) → ∀ i, i < j + 1 → (cbS u c0 E (LF w) (upF w G) e l (sg i) (sm i) == decide (sf i = 1)) = true := fun hvv i hi => by
          by_cases y : i = j
          · subst y; rw [hv, hvv]; exact beq_self_eq_true _
          · exact hI i (by omega)
        have badd : v ≠ decide (sf j = 1) → bI (fitS (fun l g m => cbS u c0 E (LF w) (upF w G) e l g m) sc sm sg sf l = true) = 0 := fun hvv => bI_f (fun y => by
          have := all_iff.mp y j (by omega)
          dsimp only at this
          rw [hv] at this
          exact hvv (beq_iff_eq.mp this))
        rcases (show sf j = 0 ∨ sf j = 1 by omega) with z | z
        · rw [if_neg (show ¬ nI (sf j) = (1 : Int32) from (by rw [z]; decide))]
          cases v with
          | true => right; rw [if_neg (by decide)]; exact ⟨0, rfl, (badd (by rw [z]; decide)).symm⟩
          | false => left; rw [if_pos (by decide)]; exact ⟨by omega, rfl, good (by rw [z]; decide)⟩
        · rw [if_pos (show nI (sf j) = (1 : Int32) from (by rw [z]; rfl))]
          cases v with
          | true => left; rw [if_pos (by decide)]; exact ⟨by omega, rfl, good (by rw [z]; decide)⟩
          | false => right; rw [if_neg (by decide)]; exact ⟨0, rfl, (badd (by rw [z]; decide)).symm⟩
      by_cases z : w (1 + sg j) = 0
      · rw [if_pos z] at ec
        rw [if_pos z]
        cases c1 : clS u c0 G E (LF w) e (upF w G) (sg j) (sm j) with
        | true =>
          rw [c1, Bool.true_or] at ec
          rw [bI_t rfl, if_neg (by decide), Option.bind_some, ld89 hc (by omega), Option.bind_some, s6]
          exact fin true ec
        | false =>
          rw [c1, Bool.false_or] at ec
          rw [bI_f (by decide), if_pos rfl]
          cases c2 : rowS u c0 G e l (sg j) (sm j) with
          | true =>
            rw [c2] at ec
            rw [bI_t rfl, if_neg (by decide), Option.bind_some, ld89 hc (by omega), Option.bind_some, s6]
            exact fin true ec
          | false =>
            rw [c2] at ec
            rw [bI_f (by decide), if_pos rfl]
            exact fin false ec
      · rw [if_neg z] at ec
        rw [if_neg z]
        exact fin false ec) (i := 0) (by omega) (fun i hi => by omega)
  replace b1 : sItr (fun a : (Int32) => f_X11_isAsSeen_K2 0 r a N) sFuel 0 = some b := b1
  rw [b1, Option.bind_some, b2]
/-- the class finds the latenesses -/
theorem c_finds (h : KI M D G P E C W c0 c1 c2) (hS : SnS M G sc sm sg sf) (he : e < E) : ∃ N, f_X11_findLates 0 (nI e) M = some (nI (flS (fitS (fun l g m => cbS (uR M) c0 E (LF (M.2.1 140)) (upF (M.2.1 140) G) e l g m) sc sm sg sf) 100).length, N) ∧ FrB scC scQ rRow M N ∧ RowsI (uR M) N G c0 ∧ (∀ g j, g < 6 → j < 256 → rb (N.2.2.1 88) g j = clS (uR M) c0 G E (LF (M.2.1 140)) e (upF (M.2.1 140) G) g j) ∧ ∀ i, i < (flS (fitS (fun l g m => cbS (uR M) c0 E (LF (M.2.1 140)) (upF (M.2.1 140) G) e l g m) sc sm sg sf) 100).length → N.2.1 90 i = nI ((flS (fitS (fun l g m => cbS (uR M) c0 E (LF (M.2.1 140)) (upF (M.2.1 140) G) e l g m) sc sm sg sf) 100).getD i 0) := by
  have hc := h.hc
  have hb := h.n.2
  have hl : 187 ≤ M.1.length := h.cv.ln
  obtain ⟨hV, hw⟩ := h.2.2.2.2.1
  obtain ⟨fit, hfit⟩ : ∃ fit, fit = fitS (fun l g m => cbS (uR M) c0 E (LF (M.2.1 140)) (upF (M.2.1 140) G) e l g m) sc sm sg sf := ⟨_, rfl⟩
  rw [← hfit]
  obtain ⟨A, a1, a2, a3, a4⟩ := c_close (s := 54) (up := upF (M.2.1 140) G) (but := e) (into := 88) (L := LF (M.2.1 140)) h.cv h.2.1 h.2.2.2.1.1 (StS54 hc) (Or.inl rfl) (fun e he => by rw [hV.2.2.1 e he]; exact hw.2.2.1 e he) (upF_lt64 hb.1) (Or.inr (by omega)) (Or.inr rfl)
  rw [bI0_n (by omega)] at a1
  have FA : FrB scC scQ rRow M A := a2.mono (fun _ _ z => row_sc z) (fun _ _ z => cl_sc z) (fun _ _ z => z)
  unfold f_X11_findLates f_X11_findLates_L30
  rw [sr0 hc, gr0_9 hc, Option.bind_some, gr67_1 hc, Option.bind_some, gr0_4 hc, Option.bind_some, Option.bind_some, gi54 hc, Option.bind_some, gr0_11 hc, Option.bind_some, hV.2.1, a1, Option.bind_some]
  obtain ⟨b, b1, b2⟩ := itr_g (f := fun a : (Int32 × Int32 × sMem) => f_X11_findLates_K30 0 (nI e) a.1 a.2.1 a.2.2) (fun j (N : sMem) => (nI (flS fit j).length, nI j, N)) (fun j N => FrB scC scQ rRow M N ∧ RowsI (uR M) N G c0 ∧ (∀ g j, g < 6 → j < 256 → rb (N.2.2.1 88) g j = clS (uR M) c0 G E (LF (M.2.1 140)) e (upF (M.2.1 140) G) g j) ∧ ∀ i, i < (flS fit j).length → N.2.1 90 i = nI ((flS fit j).getD i 0)) (fun b => b.1 = nI (flS fit 100).length ∧ FrB scC scQ rRow M b.2 ∧ RowsI (uR M) b.2 G c0 ∧ (∀ g j, g < 6 → j < 256 → rb (b.2.2.2.1 88) g j = clS (uR M) c0 G E (LF (M.2.1 140)) e (upF (M.2.1 140) G) g j) ∧ ∀ i, i < (flS fit 100).length → b.2.2.1 90 i = nI ((flS fit 100).getD i 0)) 100 (by decide) (by
    rintro j N hj ⟨i1, i2, i3, i4⟩
    dsimp only
    unfold f_X11_findLates_K30 f_X11_findLates_B65
    by_cases q : j = 100
    · right
      subst q
      rw [if_pos (by decide)]
      exact ⟨_, rfl, rfl, i1, i2, i3, i4⟩
    · left
      refine ⟨by omega, ?_⟩
      obtain ⟨kN, eu⟩ := h.cls i1 i2
      have hcN := kN.hc
      obtain ⟨r, N', r1, r2, r3, r4, r5, r6⟩ := c_row (e := e) (l := j) kN.cv kN.2.1 kN.2.2.2.1.1 he (by omega)
      rw [eu] at r3 r6
      have F' : FrB scC scQ rRow M N' := i1.tr (r2.mono (fun _ _ z => row_sc z) (fun a k z => imF (fun y => by unfold qRow at y; unfold scQ; simp only [Bool.or_eq_true, beq_iff_eq, decide_eq_true_eq] at y ⊢; omega) z) (fun _ _ z => z))
      obtain ⟨k', eu'⟩ := h.cls F' r3
      have hc' := k'.hc
      have e140 : N'.2.1 140 = M.2.1 140 := funext fun k => F'.i (by omega) rfl
      have hV' := k'.2.2.2.2.1.1
      rw [e140] at hV'
      have hlN : 187 ≤ N.1.length := kN.cv.ln
      have i3' : ∀ g j, g < 6 → j < 256 → rb (N'.2.2.1 88) g j = clS (uR M) c0 G E (LF (M.2.1 140)) e (upF (M.2.1 140) G) g j := fun g j hg hj => by
        rw [show N'.2.2.1 88 = N.2.2.1 88 from funext fun k => r2.j (by omega) (decide_eq_false (by decide))]; exact i3 g j hg hj
      have as := c_asSeen (N := N') (u := uR M) (c0 := c0) (e := e) (l := j) (r := r) (sc := sc) (sm := sm) (sg := sg) (sf := sf) hc' hV' hw hb.1 (by rw [F'.i (by omega) rfl]; exact hS.2.1) hS.1 (fun i hi => ⟨(hS.2.2.2 i hi).1, by rw [F'.i (by omega) rfl, F'.i (by omega) rfl, F'.i (by omega) rfl]; exact (hS.2.2.2 i hi).2.2⟩) i3' r4 r6
      rw [← hfit] at as
      have hle := flS_le fit j
      have i4' : ∀ i, i < (flS fit j).length → N'.2.1 90 i = nI ((flS fit j).getD i 0) := fun i hi => by rw [r2.i (by omega) rfl]; exact i4 i hi
      rw [if_neg (by rw [show (100 : Int32) = nI 100 from rfl, cle (by decide) (by omega)]; omega), gr0_9 hcN, Option.bind_some, gr67_1 hcN, Option.bind_some, r1]
      dsimp only [Option.bind_some]
      rw [as, Option.bind_some]
      by_cases z : fit j = true
      · have efl : flS fit (j + 1) = flS fit j ++ [j] := if_pos z
        rw [if_neg (bI_y z), gr0_14 hc', Option.bind_some, st90 hc' (by omega), Option.bind_some, nI_1, nI_1, efl, List.length_append]
        refine ⟨_, rfl, F'.wi rfl, r3.fr hc' (FrB.rf.wi (P := fun a _ => a == 90) (Q := q0) (R := fun _ _ => false) rfl) (fun _ => rfl) (fun _ _ _ => rfl) (fun _ => rfl), i3', fun i hi => ?_⟩
        have hi' : i < (flS fit j).length + 1 := hi
        by_cases y : i = (flS fit j).length
        · subst y
          rw [wrI_eq]
          congr 1
          simp [List.getD]
        · rw [wrI_ne (by omega), i4' i (by omega), List.getD_eq_getElem?_getD, List.getD_eq_getElem?_getD, List.getElem?_append_left (by omega)]
      · have efl : flS fit (j + 1) = flS fit j := if_neg z
        rw [if_pos (bI_0.mpr z), nI_1, efl]
        exact ⟨N', rfl, F', r3, i3', i4'⟩) (i := 0) (s := A) (by decide) ⟨FA, a3, a4, fun i hi => absurd hi (Nat.not_lt_zero i)⟩
  replace b1 : sItr (fun a : (Int32 × Int32 × sMem) => f_X11_findLates_K30 0 (nI e) a.1 a.2.1 a.2.2) sFuel (0, 0, A) = some b := b1
  rw [b1, Option.bind_some]
  obtain ⟨x, N⟩ := b
  obtain ⟨b2, b3⟩ := b2
  dsimp only at b2 b3
  subst b2
  exact ⟨N, rfl, b3⟩
end WAS
