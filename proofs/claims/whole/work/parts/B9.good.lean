/-! WHAT STATEMENTS TELL is good -/
def rwG (d : Ds) (kd : Nat) (l : List Int32) : Prop :=
  (kd = 0 → ∃ v, v ≤ 60 ∧ l = [nI v, 0, 0, 0]) ∧ (kd = 1 → l = [0, 0, 0, 0]) ∧ (kd = 2 → ∃ x y z, (1 ≤ x ∧ x ≤ 30) ∧ (1 ≤ y ∧ y ≤ 9) ∧ z ≤ 99 ∧ l = [nI x, nI y, nI z, 0]) ∧
  (kd = 3 → ∃ x y z, x < (d.2.1 1).length ∧ y < (d.2.1 1).length ∧ x ≠ y ∧ z ≤ 99 ∧ l = [nI x, nI y, nI z, 0]) ∧
  (kd = 4 → ∃ x y z g, (x < (d.2.1 1).length ∧ y < (d.2.1 1).length ∧ x ≠ y) ∧ (1 ≤ z ∧ z ≤ 60) ∧ l = [nI x, nI y, nI z, g] ∧ (g = mI ∨ ∃ k, k < (d.2.1 0).length ∧ g = nI k))
def cdL (d : Ds) : Nat := ((d.2.2 0).getD []).length + ((d.2.2 1).getD []).length + ((d.2.2 2).getD []).length
def GF (d : Ds) (t : Nat) : Prop := GdD d ∧ GdC d ∧ (∃ m p, d.1 = (nI m, nI p) ∧ m ≤ 60 ∧ p ≤ 100) ∧ (∀ kd, kd < 5 → ∀ r ∈ d.2.1 kd, rwG d kd r.2) ∧ cdL d ≤ t
def d00 : Ds := ((0, 0), fun _ => [], fun _ => none)
section GDS
variable {b : Nat → Int32} {n e t t' D kd wh : Nat} {T : Tk} {sa sz : Nat → Nat} {d d' : Ds} {L : List Nat} {l : List Int32} {at' : Int32} {v : Int32}
theorem num_gd (hL : Lex b n T e sa sz) (ht : t ≤ e) {lo hi : Nat} (hlo : lo < 2147483648) (hhi : hi < 2147483648) (h : numR T (nI lo) (nI hi) t = .inr (v, t')) : ∃ m, lo ≤ m ∧ m ≤ hi ∧ v = nI m ∧ t' = t + 1 ∧ t < e := by
  unfold numR at h
  by_cases h1 : T 3 t = 2
  · rw [if_pos h1] at h
    obtain ⟨m, m1, m2⟩ := hL.R.2 t ht h1
    by_cases h2 : T 5 t - T 4 t ≤ 4
    · rw [if_pos h2] at h
      by_cases h3 : nI lo ≤ T 6 t ∧ T 6 t ≤ nI hi
      · rw [if_pos h3] at h
        obtain ⟨rfl, rfl⟩ := Prod.mk.inj (Sum.inr.inj h)
        rw [m2, cle hlo (by omega), cle (by omega) hhi] at h3
        exact ⟨m, h3.1, h3.2, m2, rfl, hL.ne ht (by rw [h1]; decide)⟩
      · rw [if_neg h3] at h; cases h
    · rw [if_neg h2] at h; cases h
  · rw [if_neg h1] at h; cases h
theorem od_gd (hL : Lex b n T e sa sz) (ht : t ≤ e) {rows : List Row} {but : Int32} (h : odR b T sa sz rows but t = .inr (v, t')) : ∃ i, i < rows.length ∧ v = nI i ∧ v ≠ but ∧ t' = t + 1 ∧ t < e := by
  unfold odR at h
  obtain ⟨L, t1, h1, h2⟩ := sb_ex h
  obtain ⟨g1, g2, g3⟩ := nameR_gd hL ht h1
  by_cases q : fdI rows L = -1 ∨ fdI rows L = but
  · rw [if_pos q] at h2; cases h2
  · rw [if_neg q] at h2
    obtain ⟨rfl, rfl⟩ := Prod.mk.inj (Sum.inr.inj h2)
    have q1 : fdI rows L ≠ -1 := fun z => q (Or.inl z)
    have q2 : fdI rows L ≠ but := fun z => q (Or.inr z)
    cases z : fnd rows L with
    | none => exact absurd (by unfold fdI; rw [z]) q1
    | some i =>
      refine ⟨i, ?_, by unfold fdI; rw [z], q2, g2, g3⟩
      unfold fnd at z
      rw [List.findIdx?_eq_some_iff_getElem] at z
      exact z.1
theorem nw_gd (hL : Lex b n T e sa sz) (ht : t ≤ e) (h : nwR b T sa sz d t = .inr (L, t')) : (GdN L ∧ ∀ k, k < 4 → fnd (d.2.1 k) L = none) ∧ t' = t + 1 ∧ t < e := by
  unfold nwR at h
  obtain ⟨L1, t1, h1, h2⟩ := sb_ex h
  obtain ⟨g1, g2, g3⟩ := nameR_gd hL ht h1
  by_cases q : fnd (d.2.1 0) L1 = none ∧ fnd (d.2.1 1) L1 = none ∧ fnd (d.2.1 2) L1 = none ∧ fnd (d.2.1 3) L1 = none
  · rw [if_pos q] at h2
    obtain ⟨rfl, rfl⟩ := Prod.mk.inj (Sum.inr.inj h2)
    refine ⟨⟨g1, fun k hk => ?_⟩, g2, g3⟩
    match k, hk with
    | 0, _ => exact q.1
    | 1, _ => exact q.2.1
    | 2, _ => exact q.2.2.1
    | 3, _ => exact q.2.2.2
  · rw [if_neg q] at h2; cases h2
theorem aW_gd (hL : Lex b n T e sa sz) (ht : t ≤ e) {w : Nat} {u : Unit} (h : aW T w t = .inr (u, t')) : t' = t + 1 ∧ t < e := by
  unfold aW at h
  by_cases q : T 3 t = 1 ∧ T 6 t = nI w
  · rw [if_pos q] at h
    exact ⟨(Prod.mk.inj (Sum.inr.inj h)).2.symm, hL.ne ht (by rw [q.1]; decide)⟩
  · rw [if_neg q] at h; cases h
theorem full_gd {u : Unit} (hd : GdD d) (hk : kd < 5) (h : fullR d kd at' t = .inr (u, t')) : (d.2.1 kd).length < mxK kd ∧ t' = t := by
  unfold fullR at h
  have := hd.2.2 kd hk
  by_cases q : (d.2.1 kd).length = mxK kd
  · rw [if_pos q] at h; cases h
  · rw [if_neg q] at h
    exact ⟨by omega, (Prod.mk.inj (Sum.inr.inj h)).2.symm⟩
theorem rwG.up {r : Row} (h : rwG d kd l) {k : Nat} : rwG (addD d k r) kd l := by
  have up : ∀ j, (d.2.1 j).length ≤ ((addD d k r).2.1 j).length := fun j => by
    show _ ≤ (if j = k then d.2.1 j ++ [r] else d.2.1 j).length
    by_cases q : j = k
    · rw [if_pos q, List.length_append]; omega
    · rw [if_neg q]; omega
  have u0 := up 0
  have u1 := up 1
  obtain ⟨h0, h1, h2, h3, h4⟩ := h
  refine ⟨h0, h1, h2, fun z => ?_, fun z => ?_⟩
  · obtain ⟨x, y, w, a, b, c⟩ := h3 z
    exact ⟨x, y, w, by omega, by omega, c⟩
  · obtain ⟨x, y, w, g, ⟨a1, a2, a3⟩, b, c, e⟩ := h4 z
    refine ⟨x, y, w, g, ⟨by omega, by omega, a3⟩, b, c, ?_⟩
    rcases e with e | ⟨k, e1, e2⟩
    · exact Or.inl e
    · exact Or.inr ⟨k, by omega, e2⟩
theorem gf_add (h : GF d t) (hk : kd < 5) (hl : (d.2.1 kd).length < mxK kd) (hn : kd < 4 → GdN L ∧ fnd (d.2.1 kd) L = none) (hr : rwG d kd l) (ht : t ≤ t') : GF (addD d kd (L, l)) t' := by
  obtain ⟨⟨g1, g2, g3⟩, c1, m1, r1, k1⟩ := h
  have ea : ∀ k, (addD d kd (L, l)).2.1 k = if k = kd then d.2.1 k ++ [(L, l)] else d.2.1 k := fun _ => rfl
  refine ⟨⟨fun k hk4 r hr' => ?_, fun k hk4 => ?_, fun k hk5 => ?_⟩, c1, m1, fun k hk5 r hr' => ?_, Nat.le_trans k1 ht⟩
  · rw [ea] at hr'
    by_cases q : k = kd
    · rw [if_pos q] at hr'
      rcases List.mem_append.mp hr' with z | z
      · exact g1 k hk4 r z
      · rw [List.mem_singleton.mp z]; exact (hn (by omega)).1
    · rw [if_neg q] at hr'; exact g1 k hk4 r hr'
  · rw [ea]
    by_cases q : k = kd
    · rw [if_pos q, List.map_append, List.nodup_append]
      refine ⟨g2 k hk4, by simp, fun a ha c hc => ?_⟩
      have hc' : c = L := by simpa using hc
      subst hc'
      obtain ⟨r, z1, z2⟩ := List.mem_map.mp ha
      have hf := (hn (by omega)).2
      unfold fnd at hf
      rw [List.findIdx?_eq_none_iff, ← q] at hf
      have := hf r z1
      rw [← z2]
      exact beq_eq_false_iff_ne.mp this
    · rw [if_neg q]; exact g2 k hk4
  · rw [ea]
    by_cases q : k = kd
    · rw [if_pos q, List.length_append, List.length_singleton, q]; exact hl
    · rw [if_neg q]; exact g3 k hk5
  · rw [ea] at hr'
    by_cases q : k = kd
    · rw [if_pos q] at hr'
      rcases List.mem_append.mp hr' with z | z
      · exact (r1 k hk5 r z).up
      · rw [List.mem_singleton.mp z, q]; exact hr.up
    · rw [if_neg q] at hr'; exact (r1 k hk5 r hr').up
/-- a statement tells good things -/
theorem sm_gd (hL : Lex b n T e sa sz) (ht : t ≤ e) {first : Bool} (hd : GF d t) (h : smR b T sa sz first d t = .inr (d', t')) : GF d' t' ∧ t < t' ∧ t' ≤ e ∧ (first = true → ∃ m, 5 ≤ m ∧ m ≤ 60 ∧ d'.1.1 = nI m) ∧ (first = false → d'.1.1 = d.1.1) := by
  have hd0 := hd
  obtain ⟨gd, gc, ⟨m, p, m1, m2, m3⟩, gr, gk⟩ := hd
  have hE := hL.1
  unfold smR at h
  by_cases h1 : T 3 t = 1 ∧ T 6 t ≠ -1 ∧ (first = true ↔ T 6 t = 0)
  · have hlt := hL.ne ht (by rw [h1.1]; decide)
    rw [if_pos h1] at h
    have nf : T 6 t ≠ 0 → first = true → ∃ m, 5 ≤ m ∧ m ≤ 60 ∧ d'.1.1 = nI m := fun z w => absurd (h1.2.2.mp w) z
    have cod : ∀ wh, wh < 3 → codeR T d wh (T 4 t) (t + 1) = .inr (d', t') → GF d' t' ∧ t < t' ∧ t' ≤ e ∧ d'.1.1 = d.1.1 := by
      intro wh hwh hc
      unfold codeR at hc
      by_cases q : (d.2.2 wh).isSome = true
      · rw [if_pos q] at hc; cases hc
      · rw [if_neg q] at hc
        have hnone : d.2.2 wh = none := Option.not_isSome_iff_eq_none.mp q
        match z : (if wh = 0 then pTest 0 T 6 (t + 1) else pSum wh T 6 (t + 1)) with
        | .inl w => rw [z] at hc; cases hc
        | .inr (cs, t2) =>
          rw [z] at hc
          dsimp only at hc
          obtain ⟨rfl, rfl⟩ := Prod.mk.inj (Sum.inr.inj hc)
          have ha : t + 1 < t2 ∧ t2 ≤ e ∧ cs.length + (t + 1) ≤ t2 := by
            by_cases q0 : wh = 0
            · rw [if_pos q0] at z; exact ptest_adv hE (t + 1) cs t2 (by omega) z
            · rw [if_neg q0] at z; exact psum_adv hE (t + 1) cs t2 (by omega) z
          have hty : tyA cs [] = some [wh == 0] ∧ ∀ x ∈ cs, okCode wh x = true := by
            by_cases q0 : wh = 0
            · rw [if_pos q0] at z; subst q0; exact gd_test0 hE hL.R (by omega) z
            · rw [if_neg q0] at z
              have := gd_sum0 hE hL.R (by omega) z
              rw [show (wh == 0) = false from beq_eq_false_iff_ne.mpr q0]
              exact this
          refine ⟨⟨gd, fun k hk c hcc => ?_, ⟨m, p, m1, m2, m3⟩, gr, ?_⟩, by omega, ha.2.1, rfl⟩
          · dsimp only at hcc
            by_cases q0 : k = wh
            · rw [if_pos q0] at hcc
              obtain rfl := Option.some.inj hcc
              rw [q0]; exact hty
            · rw [if_neg q0] at hcc; exact gc k hk c hcc
          · unfold cdL at gk ⊢
            dsimp only
            match wh, hwh with
            | 0, _ => rw [hnone] at gk; simp at gk ⊢; omega
            | 1, _ => rw [hnone] at gk; simp at gk ⊢; omega
            | 2, _ => rw [hnone] at gk; simp at gk ⊢; omega
    by_cases w0 : T 6 t = 0
    · rw [if_pos w0] at h
      obtain ⟨x, t1, a1, a2⟩ := sb_ex h
      obtain ⟨rfl, rfl⟩ := Prod.mk.inj (Sum.inr.inj a2)
      obtain ⟨k, k1, k2, k3, k4, k5⟩ := num_gd (lo := 5) (hi := 60) hL (show t + 1 ≤ e by omega) (by decide) (by decide) a1
      refine ⟨⟨gd, gc, ⟨k, p, ?_, k2, m3⟩, gr, Nat.le_trans gk (by omega)⟩, by omega, by omega, fun _ => ⟨k, k1, k2, k3⟩, fun z => ?_⟩
      · show (x, d.1.2) = _; rw [m1, k3]
      · have := h1.2.2.mpr w0; rw [z] at this; cases this
    · rw [if_neg w0] at h
      have wrap : (GF d' t' ∧ t < t' ∧ t' ≤ e ∧ d'.1.1 = d.1.1) → GF d' t' ∧ t < t' ∧ t' ≤ e ∧ (first = true → ∃ m, 5 ≤ m ∧ m ≤ 60 ∧ d'.1.1 = nI m) ∧ (first = false → d'.1.1 = d.1.1) := fun z => ⟨z.1, z.2.1, z.2.2.1, nf w0, fun _ => z.2.2.2⟩
      apply wrap
      by_cases w1 : T 6 t = 1
      · rw [if_pos w1] at h
        unfold gateR at h
        obtain ⟨_, t1, a1, h⟩ := sb_ex h
        obtain ⟨L, t2, a2, h⟩ := sb_ex h
        obtain ⟨_, t3, a3, h⟩ := sb_ex h
        obtain ⟨x, t4, a4, h⟩ := sb_ex h
        obtain ⟨rfl, rfl⟩ := Prod.mk.inj (Sum.inr.inj h)
        obtain ⟨f1, f2⟩ := full_gd gd (by decide) a1
        obtain ⟨n1, n2, n3⟩ := nw_gd hL (by omega) a2
        obtain ⟨p2, p3⟩ := aW_gd hL (by omega) a3
        rw [m1] at a4
        obtain ⟨k, k1, k2, k3, k4, k5⟩ := num_gd (lo := 0) (hi := m) hL (by omega) (by decide) (by omega) a4
        exact ⟨gf_add hd0 (by decide) f1 (fun _ => ⟨n1.1, n1.2 0 (by decide)⟩) ⟨fun _ => ⟨k, by omega, by rw [k3]⟩, fun z => by omega, fun z => by omega, fun z => by omega, fun z => by omega⟩ (by omega), by omega, by omega, rfl⟩
      · rw [if_neg w1] at h
        by_cases w3 : T 6 t = 3
        · rw [if_pos w3] at h
          unfold placeR at h
          obtain ⟨_, t1, a1, h⟩ := sb_ex h
          obtain ⟨L, t2, a2, h⟩ := sb_ex h
          obtain ⟨rfl, rfl⟩ := Prod.mk.inj (Sum.inr.inj h)
          obtain ⟨f1, f2⟩ := full_gd gd (by decide) a1
          obtain ⟨n1, n2, n3⟩ := nw_gd hL (by omega) a2
          exact ⟨gf_add hd0 (by decide) f1 (fun _ => ⟨n1.1, n1.2 1 (by decide)⟩) ⟨fun z => by omega, fun _ => rfl, fun z => by omega, fun z => by omega, fun z => by omega⟩ (by omega), by omega, by omega, rfl⟩
        · rw [if_neg w3] at h
          have way : ∀ ov, wayR b T sa sz d ov (T 4 t) (t + 1) = .inr (d', t') → GF d' t' ∧ t < t' ∧ t' ≤ e ∧ d'.1.1 = d.1.1 := by
            intro ov h
            unfold wayR at h
            obtain ⟨_, t1, a1, h⟩ := sb_ex h
            obtain ⟨x, t2, a2, h⟩ := sb_ex h
            obtain ⟨_, t3, a3, h⟩ := sb_ex h
            obtain ⟨y, t4, a4, h⟩ := sb_ex h
            obtain ⟨_, t5, a5, h⟩ := sb_ex h
            obtain ⟨s, t6, a6, h⟩ := sb_ex h
            obtain ⟨f1, f2⟩ := full_gd gd (by decide) a1
            obtain ⟨i, i1, i2, i3, i4, i5⟩ := od_gd hL (by omega) a2
            obtain ⟨p1, p2⟩ := aW_gd hL (by omega) a3
            obtain ⟨j, j1, j2, j3, j4, j5⟩ := od_gd hL (by omega) a4
            obtain ⟨q1, q2⟩ := aW_gd hL (by omega) a5
            obtain ⟨k, k1, k2, k3, k4, k5⟩ := num_gd (lo := 1) (hi := 60) hL (by omega) (by decide) (by decide) a6
            have hij : i ≠ j := fun z => j3 (by rw [j2, i2, z])
            cases ov
            · rw [if_neg (by decide)] at h
              obtain ⟨rfl, rfl⟩ := Prod.mk.inj (Sum.inr.inj h)
              exact ⟨gf_add hd0 (by decide) f1 (fun z => by omega) ⟨fun z => by omega, fun z => by omega, fun z => by omega, fun z => by omega, fun _ => ⟨i, j, k, -1, ⟨i1, j1, hij⟩, ⟨k1, k2⟩, by rw [i2, j2, k3], Or.inl rfl⟩⟩ (by omega), by omega, by omega, rfl⟩
            · rw [if_pos rfl] at h
              obtain ⟨_, t7, a7, h⟩ := sb_ex h
              obtain ⟨g, t8, a8, h⟩ := sb_ex h
              obtain ⟨rfl, rfl⟩ := Prod.mk.inj (Sum.inr.inj h)
              obtain ⟨r1, r2⟩ := aW_gd hL (by omega) a7
              obtain ⟨gg, g1, g2, g3, g4, g5⟩ := od_gd hL (by omega) a8
              exact ⟨gf_add hd0 (by decide) f1 (fun z => by omega) ⟨fun z => by omega, fun z => by omega, fun z => by omega, fun z => by omega, fun _ => ⟨i, j, k, g, ⟨i1, j1, hij⟩, ⟨k1, k2⟩, by rw [i2, j2, k3], Or.inr ⟨gg, g1, g2⟩⟩⟩ (by omega), by omega, by omega, rfl⟩
          by_cases w4 : T 6 t = 4
          · rw [if_pos w4] at h; exact way _ h
          · rw [if_neg w4] at h
            by_cases w7 : T 6 t = 7
            · rw [if_pos w7] at h; exact way _ h
            · rw [if_neg w7] at h
              by_cases w9 : T 6 t = 9
              · rw [if_pos w9] at h
                unfold eraR at h
                obtain ⟨_, t1, a1, h⟩ := sb_ex h
                obtain ⟨L, t2, a2, h⟩ := sb_ex h
                obtain ⟨_, t3, a3, h⟩ := sb_ex h
                obtain ⟨x, t4, a4, h⟩ := sb_ex h
                obtain ⟨_, t5, a5, h⟩ := sb_ex h
                obtain ⟨y, t6, a6, h⟩ := sb_ex h
                obtain ⟨_, t7, a7, h⟩ := sb_ex h
                obtain ⟨z, t8, a8, h⟩ := sb_ex h
                obtain ⟨rfl, rfl⟩ := Prod.mk.inj (Sum.inr.inj h)
                obtain ⟨f1, f2⟩ := full_gd gd (by decide) a1
                obtain ⟨n1, n2, n3⟩ := nw_gd hL (by omega) a2
                obtain ⟨p1, p2⟩ := aW_gd hL (by omega) a3
                obtain ⟨i, i1, i2, i3, i4, i5⟩ := num_gd (lo := 1) (hi := 30) hL (by omega) (by decide) (by decide) a4
                obtain ⟨q1, q2⟩ := aW_gd hL (by omega) a5
                obtain ⟨j, j1, j2, j3, j4, j5⟩ := num_gd (lo := 1) (hi := 9) hL (by omega) (by decide) (by decide) a6
                obtain ⟨r1, r2⟩ := aW_gd hL (by omega) a7
                obtain ⟨k, k1, k2, k3, k4, k5⟩ := num_gd (lo := 0) (hi := 99) hL (by omega) (by decide) (by decide) a8
                exact ⟨gf_add hd0 (by decide) f1 (fun _ => ⟨n1.1, n1.2 2 (by decide)⟩) ⟨fun z => by omega, fun z => by omega, fun _ => ⟨i, j, k, ⟨i1, i2⟩, ⟨j1, j2⟩, k2, by rw [i3, j3, k3]⟩, fun z => by omega, fun z => by omega⟩ (by omega), by omega, by omega, rfl⟩
              · rw [if_neg w9] at h
                by_cases w13 : T 6 t = 13
                · rw [if_pos w13] at h
                  unfold carR at h
                  obtain ⟨_, t1, a1, h⟩ := sb_ex h
                  obtain ⟨L, t2, a2, h⟩ := sb_ex h
                  obtain ⟨_, t3, a3, h⟩ := sb_ex h
                  obtain ⟨x, t4, a4, h⟩ := sb_ex h
                  obtain ⟨_, t5, a5, h⟩ := sb_ex h
                  obtain ⟨y, t6, a6, h⟩ := sb_ex h
                  obtain ⟨_, t7, a7, h⟩ := sb_ex h
                  obtain ⟨z, t8, a8, h⟩ := sb_ex h
                  obtain ⟨rfl, rfl⟩ := Prod.mk.inj (Sum.inr.inj h)
                  obtain ⟨f1, f2⟩ := full_gd gd (by decide) a1
                  obtain ⟨n1, n2, n3⟩ := nw_gd hL (by omega) a2
                  obtain ⟨p1, p2⟩ := aW_gd hL (by omega) a3
                  obtain ⟨i, i1, i2, i3, i4, i5⟩ := od_gd hL (by omega) a4
                  obtain ⟨q1, q2⟩ := aW_gd hL (by omega) a5
                  obtain ⟨j, j1, j2, j3, j4, j5⟩ := od_gd hL (by omega) a6
                  obtain ⟨r1, r2⟩ := aW_gd hL (by omega) a7
                  obtain ⟨k, k1, k2, k3, k4, k5⟩ := num_gd (lo := 0) (hi := 99) hL (by omega) (by decide) (by decide) a8
                  have hij : i ≠ j := fun z => j3 (by rw [j2, i2, z])
                  exact ⟨gf_add hd0 (by decide) f1 (fun _ => ⟨n1.1, n1.2 3 (by decide)⟩) ⟨fun z => by omega, fun z => by omega, fun z => by omega, fun _ => ⟨i, j, k, i1, j1, hij, k2, by rw [i2, j2, k3]⟩, fun z => by omega⟩ (by omega), by omega, by omega, rfl⟩
                · rw [if_neg w13] at h
                  by_cases w14 : T 6 t = 14
                  · rw [if_pos w14] at h; exact cod 0 (by decide) h
                  · rw [if_neg w14] at h
                    by_cases w15 : T 6 t = 15
                    · rw [if_pos w15] at h; exact cod 1 (by decide) h
                    · rw [if_neg w15] at h
                      by_cases w16 : T 6 t = 16
                      · rw [if_pos w16] at h; exact cod 2 (by decide) h
                      · rw [if_neg w16] at h
                        by_cases w17 : T 6 t = 17
                        · rw [if_pos w17] at h
                          obtain ⟨x, t1, a1, a2⟩ := sb_ex h
                          obtain ⟨rfl, rfl⟩ := Prod.mk.inj (Sum.inr.inj a2)
                          obtain ⟨k, k1, k2, k3, k4, k5⟩ := num_gd (lo := 0) (hi := 100) hL (show t + 1 ≤ e by omega) (by decide) (by decide) a1
                          refine ⟨⟨gd, gc, ⟨m, k, ?_, m2, k2⟩, gr, Nat.le_trans gk (by omega)⟩, by omega, by omega, rfl⟩
                          show (d.1.1, x) = _; rw [m1, k3]
                        · rw [if_neg w17] at h; cases h
  · rw [if_neg h1] at h; cases h
end GDS
