/-! ACTS: what holds behind one -/
def aX : Nat → Nat → Bool := fun a k => (decide (54 ≤ a) && decide (a ≤ 59)) || a == 69 || a == 72 || (a == 68 && k == 4) || a == 75 || a == 78 || a == 81 || (a == 0 && (k == 7 || k == 8 || k == 19)) || (a == 94 && (k == 58 || (decide (61 ≤ k) && decide (k ≤ 64)) || k == 71 || k == 122 || k == 85 || k == 86)) || a == 140 || a == 144 || a == 145 || a == 155
def aQ : Nat → Nat → Bool := fun a k => a == 73 || a == 185 || (a == 94 && (k == 65 || k == 87))
section ACB
variable {M N : sMem} {D Do G P E C W k e c g m s n pc pn : Nat} {c0 c1 c2 : List Nat} {w w' : Nat → Int32} {u : Nat → Nat → Int32}
theorem aX_n {a k : Nat} (h : ¬ ((54 ≤ a ∧ a ≤ 59) ∨ a = 69 ∨ a = 72 ∨ a = 68 ∨ a = 75 ∨ a = 78 ∨ a = 81 ∨ a = 0 ∨ a = 94 ∨ a = 140 ∨ a = 144 ∨ a = 145 ∨ a = 155)) : aX a k = false := Bool.eq_false_iff.mpr (fun z => by
  unfold aX at z
  simp only [Bool.or_eq_true, Bool.and_eq_true, beq_iff_eq, decide_eq_true_eq] at z
  omega)
/-- the class's view, its programs being where they were -/
theorem CV.gen (h : CV u M D G P E C W c0 c1 c2) (hcN : ClsS N.1 N.2.2.2) (hsh : ∀ (a : Nat) (q : Nat × Nat), M.1[a]? = some q → N.1[a]? = some q) (hl : 187 ≤ N.1.length) (hi : ∀ a k, 10 ≤ a → a ≤ 53 → N.2.1 a k = M.2.1 a k) (hp : ∀ p q k, p ∈ prgL → M.2.2.2 p 0 = some q → N.2.1 q k = M.2.1 q k) (hr : N.2.2.2 0 2 = M.2.2.2 0 2 ∧ N.2.2.2 67 3 = M.2.2.2 67 3 ∧ N.2.2.2 76 1 = M.2.2.2 76 1 ∧ N.2.2.2 80 1 = M.2.2.2 80 1) (hrp : ∀ p ∈ prgL, N.2.2.2 p 0 = M.2.2.2 p 0) : CV u N D G P E C W c0 c1 c2 := by
  have hD := h.hD
  obtain ⟨z1, ⟨a1, a2, a3, a4⟩, ⟨b1, b2, b3, b4, b5, b6, b7⟩, b8, b9, b10, b11, b12⟩ := h
  have prg : ∀ p cs, p ∈ prgL → 10 ≤ p → p ≤ 53 → (∃ q n, Prg M p q n cs ∧ (q = p + 1 ∨ 187 ≤ q)) → ∃ q n, Prg N p q n cs ∧ (q = p + 1 ∨ 187 ≤ q) := fun p cs hpp h1 h2 ⟨q, n, ⟨x1, x2, x3, x4, x5, x6, x7⟩, x8⟩ =>
    ⟨q, n, ⟨hsh _ _ x1, by rw [hrp p hpp]; exact x2, hsh _ _ x3, by rw [hi _ _ h1 h2]; exact x4, x5, x6, fun i hi => by rw [hp p q i hpp x2]; exact x7 i hi⟩, x8⟩
  have p0 : D + 16 ∈ prgL ∧ D + 18 ∈ prgL ∧ D + 20 ∈ prgL := by rcases hD with rfl | rfl <;> decide
  refine ⟨⟨hcN, hD, hl⟩, ⟨?_, ?_, ?_, ?_⟩, ⟨?_, ?_, ?_, ?_, ?_, ?_, ?_⟩, ?_, ?_, ?_, ?_, fun ht => ?_⟩
  · rw [hr.1]; exact a1
  · rw [hr.2.1]; exact a2
  · rw [hr.2.2.1]; exact a3
  · rw [hr.2.2.2]; exact a4
  · rw [hi _ _ (by omega) (by omega)]; exact b1
  · rw [hi _ _ (by omega) (by omega)]; exact b2
  · rw [hi _ _ (by omega) (by omega)]; exact b3
  · rw [hi _ _ (by omega) (by omega)]; exact b4
  · rw [hi _ _ (by omega) (by omega)]; exact b5
  · rw [hi _ _ (by omega) (by omega)]; exact b6
  · rw [hi _ _ (by omega) (by omega)]; exact b7
  · intro g hg; rw [hi _ _ (by omega) (by omega)]; exact b8 g hg
  · intro k j hk hj; rw [hi _ _ (by omega) (by omega)]; exact b9 k j hk hj
  · intro e j he hj; rw [hi _ _ (by omega) (by omega)]; exact b10 e j he hj
  · intro c j hc hj; rw [hi _ _ (by omega) (by omega)]; exact b11 c j hc hj
  · obtain ⟨d0, d1, d2⟩ := b12 ht
    exact ⟨prg _ _ p0.1 (by omega) (by omega) d0, prg _ _ p0.2.1 (by omega) (by omega) d1, prg _ _ p0.2.2 (by omega) (by omega) d2⟩
/-- a program's cells are no State's -/
theorem PA.nS (hA : PA M) {p q : Nat} (hp : p ∈ prgL) (hq : M.2.2.2 p 0 = some q) {x : Nat × Nat} (hx : M.1[q]? = some x) : ¬ shS x := fun z => by
  obtain ⟨_, q', m, s, a2, a3, ⟨j, _, a4⟩, _⟩ := hA.2.1 p hp
  obtain rfl := Option.some.inj (a2.symm.trans hq)
  obtain rfl := Option.some.inj (a3.symm.trans hx)
  unfold shS at z
  rcases z with z | z | z
  · have := congrArg Prod.fst z; simp at this
  · have := congrArg Prod.snd z
    have h2 : m = 5 := this
    omega
  · have := congrArg Prod.snd z
    have h2 : m = 120 := this
    omega
theorem IX.act (h : IX M D Do G P E C W c0 c1 c2 n pc pn)
    (hsh : ∀ (a : Nat) (q : Nat × Nat), M.1[a]? = some q → N.1[a]? = some q)
    (hi : ∀ a k, a < M.1.length → aX a k = false → ¬ (s ≤ a ∧ a ≤ s + 5) → N.2.1 a k = M.2.1 a k)
    (hj : ∀ a k, a < 187 → aQ a k = false → N.2.2.1 a k = M.2.2.1 a k)
    (hr : ∀ a k, a < M.1.length → a ≠ 77 → ¬ (a = 66 ∧ k = pn) → N.2.2.2 a k = M.2.2.2 a k)
    (hS : 187 ≤ s ∧ StS N s ∧ N.2.2.2 66 pn = some s) (hfr : ∀ j, j < 20 → j ≠ pn → M.2.2.2 66 j ≠ some s)
    (hPot : Pot N ≤ Pot M) (hR : RowsI (uR M) N G c0)
    (h7 : N.2.1 0 7 = nI (min 20 (pc + 1))) (h8 : N.2.1 0 8 = nI ((pn + 1) % 20)) (h85 : N.2.1 94 85 = nI (min 20 (pc + 1))) (h86 : N.2.1 94 86 = nI ((pn + 1) % 20))
    (h155 : ∀ i, i < 148 → N.2.1 155 (148 * ((pn + 1) % 20) + i) = M.2.1 140 i) (h155' : ∀ r i, r < 20 → r ≠ (pn + 1) % 20 → i < 148 → N.2.1 155 (148 * r + i) = M.2.1 155 (148 * r + i))
    (hcp : SV (M.2.1 140) N s G E C ∧ N.2.1 s 7 = M.2.1 54 7 ∧ ∀ k, k < 120 → N.2.1 (s + 5) k = M.2.1 59 k)
    (hV : SV (N.2.1 140) N 54 G E C) (hW : WG (N.2.1 140) G P E C) (hkc : ∃ kc, kc ≤ 40 ∧ N.2.1 140 27 = nI kc ∧ N.2.1 54 7 = nI kc) (hkp : I_kp N) (hsd : I_sd N) : IX N D Do G P E C W c0 c1 c2 n (min 20 (pc + 1)) ((pn + 1) % 20) := by
  obtain ⟨k, ⟨t1, t2, t3⟩, ⟨u1, u2⟩, t4, ⟨t5, t6, t7, t8⟩, ⟨⟨t9, t10, t11⟩, ⟨t12, t13⟩, t14, t15⟩⟩ := h
  have hl : 187 ≤ M.1.length := k.cv.ln
  have hb := k.n.2
  have hD := k.cv.hD
  have hc := k.hc
  have hs := k.1
  obtain ⟨s1, s2, s3⟩ := hS
  have is : ∀ a k, a < 187 → aX a k = false → N.2.1 a k = M.2.1 a k := fun a k h1 h2 => hi a k (by omega) h2 (by omega)
  have hlN : 187 ≤ N.1.length := by
    have := lt_of_sh (hsh 186 _ (rs186 hs))
    omega
  have hcN : ClsS N.1 N.2.2.2 := by
    refine ⟨fun q hq => hsh _ _ (hc.1 q hq), fun q hq => ?_⟩
    have hm : ∀ q ∈ clsRf, q.1 < 94 ∧ q.1 ≠ 66 ∧ q.1 ≠ 77 := by decide
    have h1 := hm q hq
    rw [hr _ _ (by omega) (by omega) (by omega)]
    exact hc.2 q hq
  have hsN : RefS N.1 N.2.2.2 := by
    refine ⟨fun q hq => hsh _ _ (hs.1 q hq), fun q hq => ?_⟩
    rw [hr _ _ (by omega) (by omega) (by omega)]
    exact hs.2 q hq
  have eu : uR N = uR M := uR_cong (fun a k q1 q2 => is _ _ (by omega) (aX_n (by omega)))
  have pq : ∀ p q k, p ∈ prgL → M.2.2.2 p 0 = some q → N.2.1 q k = M.2.1 q k := fun p q k hp hq => by
    obtain ⟨_, q', m, s', a2, a3, a4, a5, a6, a7⟩ := t10.2.1 p hp
    obtain rfl := Option.some.inj (a2.symm.trans hq)
    have hpl := (by decide : ∀ p ∈ prgL, 8 ≤ p ∧ p ≤ 52) p hp
    refine hi _ _ (lt_of_sh a3) (aX_n (by omega)) (fun z => ?_)
    obtain ⟨x, x1, x2⟩ := s2.shp (j := q' - s) (by omega)
    rw [show s + (q' - s) = q' by omega, hsh _ _ a3] at x1
    exact t10.nS hp a2 a3 (by rw [Option.some.inj x1]; exact x2)
  have rp : ∀ p ∈ prgL, N.2.2.2 p 0 = M.2.2.2 p 0 := fun p hp => by
    have hpl := (by decide : ∀ p ∈ prgL, 8 ≤ p ∧ p ≤ 52) p hp
    exact hr _ _ (by omega) (by omega) (by omega)
  have cvN : CV (uR N) N D G P E C W c0 c1 c2 := by
    rw [eu]
    exact k.cv.gen hcN hsh hlN (fun a k h1 h2 => is _ _ (by omega) (aX_n (by omega))) pq ⟨hr _ _ (by omega) (by decide) (by omega), hr _ _ (by omega) (by decide) (by omega), hr _ _ (by omega) (by decide) (by omega), hr _ _ (by omega) (by decide) (by omega)⟩ rp
  have kN : KI N D G P E C W c0 c1 c2 := ⟨hsN, by rw [eu]; exact k.2.1, cvN, ⟨by rw [eu]; exact hR, fun i hi => by rw [hj _ _ (by decide) rfl]; exact k.2.2.2.1.2 i hi⟩, ⟨hV, hW⟩, by rw [is _ _ (by decide) rfl]; exact k.2.2.2.2.2.1, hkc, by rw [eu, is _ _ (by decide) rfl]; exact k.2.2.2.2.2.2.2⟩
  -- what was remembered before
  have old : ∀ j s', j < 20 → j ≠ pn → M.2.2.2 66 j = some s' → N.2.2.2 66 j = some s' ∧ 187 ≤ s' ∧ StS N s' ∧ ∀ i k, i ≤ 5 → N.2.1 (s' + i) k = M.2.1 (s' + i) k := fun j s' hj hne hjs => by
    obtain ⟨x1, x2⟩ := u1.1 j s' hj hjs
    have x3 : StS N s' := x2.sm hsh (fun k => hr _ _ (lt_of_sh x2.1.1) (by omega) (by omega))
    refine ⟨by rw [hr _ _ (by omega) (by decide) (by omega)]; exact hjs, x1, x3, fun i k hi5 => ?_⟩
    obtain ⟨x, y1, y2⟩ := x2.shp hi5
    refine hi _ _ (lt_of_sh y1) (aX_n (by omega)) (fun z => ?_)
    exact StS.dj s2 x3 (fun w => hfr j hj hne (by rw [w]; exact hjs)) (i := s' + i - s) (j := i) (by omega) hi5 (by omega)
  obtain ⟨⟨v1, v2, v3, v4, v5, v6⟩, v7⟩ := u2
  obtain ⟨kc, kc1, kc2, kc3⟩ := k.2.2.2.2.2.2.1
  have hm : (pn + 1) % 20 < 20 := Nat.mod_lt _ (by decide)
  refine ⟨kN, ⟨t1.fr (is _ _ (by decide) rfl) (is _ _ (by decide) rfl) (fun i => is _ _ (by decide) rfl) (fun i => is _ _ (by decide) rfl), t2.fr (fun a k _ _ => is _ _ (by omega) (aX_n (by omega))) (fun k => hj _ _ (by decide) rfl), hkp⟩, ⟨⟨fun j s' hj hjs => ?_, fun j j' s' hj hj' x1 x2 => ?_⟩, ⟨⟨by omega, hm, h7, h8, h85, h86⟩, fun i hi2 => ?_⟩⟩, t4.fr (is _ _ (by decide) rfl) (is _ _ (by decide) rfl) (fun i => is _ _ (by decide) rfl) (fun i => is _ _ (by decide) rfl), ⟨hsd, t6.fr (fun i => is _ _ (by decide) rfl) (fun i => is _ _ (by decide) rfl), t7.fr (is _ _ (by decide) rfl) (is _ _ (by decide) rfl) (is _ _ (by decide) rfl) (is _ _ (by decide) rfl), t8.fr (is _ _ (by decide) rfl) (is _ _ (by decide) rfl) (fun i => is _ _ (by decide) rfl) (fun i => is _ _ (by decide) rfl)⟩, ⟨⟨t9.fr (fun c k hc => is _ _ (by unfold isWc at hc; omega) (aX_n (by unfold isWc at hc; omega))), ?_, Nat.le_trans hPot t11⟩, ⟨t12.fr (fun a k _ _ => is _ _ (by omega) (aX_n (by omega))), t13.fr (fun a k _ _ => is _ _ (by omega) (aX_n (by omega)))⟩, by rw [hr _ _ (by omega) (by decide) (by omega)]; exact t14, t15⟩⟩
  · by_cases q : j = pn
    · subst q
      rw [s3] at hjs
      obtain rfl := Option.some.inj hjs
      exact ⟨s1, s2⟩
    · rw [hr _ _ (by omega) (by decide) (by omega)] at hjs
      obtain ⟨_, y1, y2, _⟩ := old j s' hj q hjs
      exact ⟨y1, y2⟩
  · by_cases q : j = pn
    · by_cases q' : j' = pn
      · omega
      · subst q
        rw [s3] at x1
        rw [hr _ _ (by omega) (by decide) (by omega)] at x2
        exact absurd (x2.trans x1.symm) (by rw [x1]; exact fun _ => hfr j' hj' q' (by rw [x2, Option.some.inj x1]))
    · by_cases q' : j' = pn
      · subst q'
        rw [s3] at x2
        rw [hr _ _ (by omega) (by decide) (by omega)] at x1
        exact absurd x1 (fun _ => hfr j hj q (by rw [x1, Option.some.inj x2]))
      · rw [hr _ _ (by omega) (by decide) (by omega)] at x1 x2
        exact u1.2 j j' s' hj hj' x1 x2
  · by_cases q : i = 0
    · subst q
      have e1 : ((pn + 1) % 20 + 19 - 0) % 20 = pn := by omega
      have e2 : ((pn + 1) % 20 + 20 - 0) % 20 = (pn + 1) % 20 := by omega
      rw [e1, e2]
      refine ⟨s, s3, ⟨kc, kc1, by rw [h155 27 (by decide)]; exact kc2, by rw [hcp.2.1]; exact kc3, fun x hx => ?_⟩, hcp.1.cw hb.1 hb.2.2.1 hb.2.2.2.1 (fun i hi => h155 i (by omega)), k.2.2.2.2.1.2.cw hb.2.2.1 hb.2.2.2.1 (fun i hi => h155 i (by omega))⟩
      rw [h155 _ (by omega), hcp.2.2 x (by omega)]
      exact t3 kc x kc1 kc2 hx
    · have e1 : ((pn + 1) % 20 + 19 - i) % 20 = (pn + 19 - (i - 1)) % 20 := by omega
      have e2 : ((pn + 1) % 20 + 20 - i) % 20 = (pn + 20 - (i - 1)) % 20 := by omega
      rw [e1, e2]
      obtain ⟨s', a1, ⟨kc', b1, b2, b3, b4⟩, a3, a4⟩ := v7 (i - 1) (by omega)
      have hne : (pn + 19 - (i - 1)) % 20 ≠ pn := by omega
      have hre : (pn + 20 - (i - 1)) % 20 ≠ (pn + 1) % 20 := by omega
      have hrl : (pn + 20 - (i - 1)) % 20 < 20 := Nat.mod_lt _ (by decide)
      obtain ⟨o1, o2, o3, o4⟩ := old _ s' (Nat.mod_lt _ (by decide)) hne a1
      have e5 : ∀ x, x < 148 → N.2.1 155 (148 * ((pn + 20 - (i - 1)) % 20) + x) = M.2.1 155 (148 * ((pn + 20 - (i - 1)) % 20) + x) := fun x hx => h155' _ x hrl hre hx
      refine ⟨s', o1, ⟨kc', b1, by rw [e5 _ (by decide)]; exact b2, (o4 0 7 (by decide)).trans b3, fun x hx => by rw [e5 _ (by omega), o4 5 x (by decide)]; exact b4 x hx⟩, ?_, a4.cw hb.2.2.1 hb.2.2.2.1 (fun x hx => e5 x (by omega))⟩
      exact (a3.sm (fun _ => rfl) (fun j k hj => o4 j k (by omega))).cw hb.1 hb.2.2.1 hb.2.2.2.1 (fun x hx => e5 x (by omega))
  · refine ⟨hlN, fun p hp => ?_, fun p hp p' hp' hne => by rw [rp p hp, rp p' hp']; exact t10.2.2 p hp p' hp' hne⟩
    obtain ⟨a1, q, m, s', a2, a3, a4, a5, a6, a7⟩ := t10.2.1 p hp
    have hpl := (by decide : ∀ p ∈ prgL, 8 ≤ p ∧ p ≤ 52) p hp
    exact ⟨hsh _ _ a1, q, m, s', by rw [rp p hp]; exact a2, hsh _ _ a3, a4, by rw [is _ _ (by omega) (aX_n (by omega))]; exact a5, a6, a7⟩
end ACB
