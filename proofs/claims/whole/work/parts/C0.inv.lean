/-! WHAT HOLDS BETWEEN CALLS -/
/-- the tape -/
def I_tp (M : sMem) (n : Nat) : Prop := n ≤ 1600 ∧ M.2.1 1 1 = nI n ∧ M.2.1 94 1 = nI n ∧ ∀ i, i < n → M.2.1 2 i = M.2.1 95 i ∧ ∃ v, v < 256 ∧ M.2.1 95 i = nI v
/-- names -/
def I_nm (M : sMem) (D G P E C : Nat) : Prop := ∀ kd i, kd < 4 → i < [G, P, E, C].getD kd 0 → ∃ L, GdN L ∧ M.2.1 (D + ofK kd + 1) i = nI (nv L 6) ∧ (M.2.2.1 132 (32 + 8 * kd + i)).toInt = nv L L.length
/-- what is kept -/
def I_kp (M : sMem) : Prop := ∀ kc k, kc ≤ 40 → M.2.1 140 27 = nI kc → k < 3 * kc → M.2.1 59 k = M.2.1 140 (28 + k)
/-- what acts leave behind: slot j of the class's, row r of the reference's -/
def PastJ (M : sMem) (G P E C j r : Nat) : Prop := ∃ s, M.2.2.2 66 j = some s ∧ (∃ kc, kc ≤ 40 ∧ M.2.1 155 (148 * r + 27) = nI kc ∧ M.2.1 s 7 = nI kc ∧ ∀ k, k < 3 * kc → M.2.1 (s + 5) k = M.2.1 155 (148 * r + (28 + k))) ∧ SV (fun i => M.2.1 155 (148 * r + i)) M s G E C ∧ WG (fun i => M.2.1 155 (148 * r + i)) G P E C
def I_ps (M : sMem) : Prop := (∀ j s, j < 20 → M.2.2.2 66 j = some s → 187 ≤ s ∧ StS M s) ∧ ∀ j j' s, j < 20 → j' < 20 → M.2.2.2 66 j = some s → M.2.2.2 66 j' = some s → j = j'
def I_un (M : sMem) (G P E C pc pn : Nat) : Prop := (pc ≤ 20 ∧ pn < 20 ∧ M.2.1 0 7 = nI pc ∧ M.2.1 0 8 = nI pn ∧ M.2.1 94 85 = nI pc ∧ M.2.1 94 86 = nI pn) ∧ ∀ i, i < pc → PastJ M G P E C ((pn + 19 - i) % 20) ((pn + 20 - i) % 20)
/-- what was seen -/
def I_sn (M : sMem) (G : Nat) : Prop := ∃ sc, sc ≤ 16 ∧ M.2.1 0 13 = nI sc ∧ M.2.1 94 80 = nI sc ∧ ∀ i, i < sc → ∃ m g f, m < 200 ∧ g < G ∧ f ≤ 1 ∧ (M.2.1 153 (3 * i) = nI m ∧ M.2.1 153 (3 * i + 1) = nI g ∧ M.2.1 153 (3 * i + 2) = nI f) ∧ M.2.1 89 (3 * i) = nI m ∧ M.2.1 89 (3 * i + 1) = nI g ∧ M.2.1 89 (3 * i + 2) = nI f
def I_sd (M : sMem) : Prop := 0 ≤ (M.2.1 0 19).toInt ∧ M.2.2.1 94 87 = (M.2.1 0 19).toInt64
def I_rf (M : sMem) : Prop := ∀ k, k < 6 → M.2.1 93 k = M.2.1 96 k
def I_fl (M : sMem) : Prop := M.2.1 1 8 = M.2.1 94 7 ∧ M.2.1 1 9 = M.2.1 94 8
def I_im (M : sMem) : Prop := ∃ z, z ≤ 34 ∧ M.2.1 0 17 = nI z ∧ M.2.1 94 126 = nI z ∧ ∀ k, k < z → M.2.1 92 k = M.2.1 186 k
def I_tx (M : sMem) (D Do : Nat) : Prop := (RWd M ∧ PA M ∧ Pot M ≤ 100000) ∧ (TWa M 10 ∧ TWa M 32) ∧ M.2.2.2 0 3 = some Do ∧ ((D = 10 ∧ Do = 32) ∨ (D = 32 ∧ Do = 10))
def IX (M : sMem) (D Do G P E C W : Nat) (c0 c1 c2 : List Nat) (n pc pn : Nat) : Prop :=
  KI M D G P E C W c0 c1 c2 ∧ (I_tp M n ∧ I_nm M D G P E C ∧ I_kp M) ∧ (I_ps M ∧ I_un M G P E C pc pn) ∧ I_sn M G ∧ (I_sd M ∧ I_rf M ∧ I_fl M ∧ I_im M) ∧ I_tx M D Do
def Inv (M : sMem) : Prop := ∃ D Do G P E C W c0 c1 c2 n pc pn, IX M D Do G P E C W c0 c1 c2 n pc pn
section IVS
variable {M N : sMem} {D Do G P E C W n pc pn : Nat} {c0 c1 c2 : List Nat} {X Q R : Nat → Nat → Bool}
theorem I_tp.fr (h : I_tp M n) (h1 : N.2.1 1 1 = M.2.1 1 1) (h2 : N.2.1 94 1 = M.2.1 94 1) (h3 : ∀ i, N.2.1 2 i = M.2.1 2 i) (h4 : ∀ i, N.2.1 95 i = M.2.1 95 i) : I_tp N n := by
  obtain ⟨a1, a2, a3, a4⟩ := h
  exact ⟨a1, by rw [h1]; exact a2, by rw [h2]; exact a3, fun i hi => by rw [h3, h4]; exact a4 i hi⟩
theorem I_nm.fr (h : I_nm M D G P E C) (h1 : ∀ a k, D ≤ a → a ≤ D + 21 → N.2.1 a k = M.2.1 a k) (h2 : ∀ k, N.2.2.1 132 k = M.2.2.1 132 k) : I_nm N D G P E C := fun kd i hk hi => by
  obtain ⟨L, a1, a2, a3⟩ := h kd i hk hi
  refine ⟨L, a1, ?_, by rw [h2]; exact a3⟩
  rw [h1 _ _ (by omega) (by have : ofK kd ≤ 13 := (by match kd, hk with | 0, _ => decide | 1, _ => decide | 2, _ => decide | 3, _ => decide); omega)]
  exact a2
theorem I_kp.fr (h : I_kp M) (h1 : ∀ k, N.2.1 59 k = M.2.1 59 k) (h2 : ∀ k, N.2.1 140 k = M.2.1 140 k) : I_kp N := fun kc k a b c => by
  rw [h1, h2]; exact h kc k a (by rw [← h2]; exact b) c
theorem I_sn.fr (h : I_sn M G) (h1 : N.2.1 0 13 = M.2.1 0 13) (h2 : N.2.1 94 80 = M.2.1 94 80) (h3 : ∀ k, N.2.1 153 k = M.2.1 153 k) (h4 : ∀ k, N.2.1 89 k = M.2.1 89 k) : I_sn N G := by
  obtain ⟨sc, a1, a2, a3, a4⟩ := h
  refine ⟨sc, a1, by rw [h1]; exact a2, by rw [h2]; exact a3, fun i hi => ?_⟩
  obtain ⟨m, g, f, b1, b2, b3, b4, b5⟩ := a4 i hi
  exact ⟨m, g, f, b1, b2, b3, by rw [h3, h3, h3]; exact b4, by rw [h4, h4, h4]; exact b5⟩
theorem I_sd.fr (h : I_sd M) (h1 : N.2.1 0 19 = M.2.1 0 19) (h2 : N.2.2.1 94 87 = M.2.2.1 94 87) : I_sd N := by
  unfold I_sd at *; rw [h1, h2]; exact h
theorem I_rf.fr (h : I_rf M) (h1 : ∀ k, N.2.1 93 k = M.2.1 93 k) (h2 : ∀ k, N.2.1 96 k = M.2.1 96 k) : I_rf N := fun k hk => by rw [h1, h2]; exact h k hk
theorem I_fl.fr (h : I_fl M) (h1 : N.2.1 1 8 = M.2.1 1 8) (h2 : N.2.1 1 9 = M.2.1 1 9) (h3 : N.2.1 94 7 = M.2.1 94 7) (h4 : N.2.1 94 8 = M.2.1 94 8) : I_fl N := by
  unfold I_fl at *; rw [h1, h2, h3, h4]; exact h
theorem I_im.fr (h : I_im M) (h1 : N.2.1 0 17 = M.2.1 0 17) (h2 : N.2.1 94 126 = M.2.1 94 126) (h3 : ∀ k, N.2.1 92 k = M.2.1 92 k) (h4 : ∀ k, N.2.1 186 k = M.2.1 186 k) : I_im N := by
  obtain ⟨z, a1, a2, a3, a4⟩ := h
  exact ⟨z, a1, by rw [h1]; exact a2, by rw [h2]; exact a3, fun k hk => by rw [h3, h4]; exact a4 k hk⟩
theorem PA.fb (h : PA M) (hF : FrA X Q R M N) (hX : ∀ p ∈ prgL, X p 1 = false) (hR : ∀ p ∈ prgL, R p 0 = false) : PA N := by
  have rr : ∀ p ∈ prgL, N.2.2.2 p 0 = M.2.2.2 p 0 := fun p hp => hF.2.2.2 p 0 (lt_of_sh (h.2.1 p hp).1) (hR p hp)
  refine ⟨Nat.le_trans h.1 hF.len, fun p hp => ?_, fun p hp p' hp' hne => by rw [rr p hp, rr p' hp']; exact h.2.2 p hp p' hp' hne⟩
  obtain ⟨a1, q, m, s, a2, a3, a4, a5, a6, a7⟩ := h.2.1 p hp
  exact ⟨hF.1 _ _ a1, q, m, s, by rw [rr p hp]; exact a2, hF.1 _ _ a3, a4, by rw [hF.2.1 p 1 (lt_of_sh a1) (hX p hp)]; exact a5, a6, a7⟩
theorem sum_le {f g : Nat → Nat} : ∀ {l : List Nat}, (∀ p ∈ l, g p ≤ f p) → (l.map g).sum ≤ (l.map f).sum
  | [], _ => Nat.le_refl _
  | a :: l, h => by
    rw [List.map_cons, List.map_cons, List.sum_cons, List.sum_cons]
    have h1 := h a List.mem_cons_self
    have h2 := sum_le (l := l) (fun p hp => h p (List.mem_cons_of_mem _ hp))
    omega
theorem capP_fa (h : PA M) (hF : FrA X Q R M N) (hR : ∀ p ∈ prgL, R p 0 = false) {p : Nat} (hp : p ∈ prgL) : capP N p = capP M p := by
  obtain ⟨a1, q, m, s, a2, a3, _⟩ := h.2.1 p hp
  unfold capP
  rw [hF.2.2.2 p 0 (lt_of_sh a1) (hR p hp), a2]
  dsimp only
  rw [a3, hF.1 _ _ a3]
theorem Pot.fb (h : PA M) (hF : FrB X Q R M N) (hR : ∀ p ∈ prgL, R p 0 = false) : Pot N ≤ Pot M := by
  unfold Pot
  have h1 := hF.2
  have h2 : (prgL.map fun p => 2048 - capP N p).sum ≤ (prgL.map fun p => 2048 - capP M p).sum := sum_le (fun p hp => by rw [capP_fa h hF.1 hR hp]; exact Nat.le_refl _)
  omega
theorem TWa.fr (h : TWa M D) (h1 : ∀ a k, D ≤ a → a ≤ D + 21 → N.2.1 a k = M.2.1 a k) : TWa N D := fun kd hk => (h kd hk).of (fun i => by
  have : 1 ≤ ofK kd ∧ ofK kd ≤ 13 := (by match kd, hk with | 0, _ => decide | 1, _ => decide | 2, _ => decide | 3, _ => decide | 4, _ => decide)
  exact h1 _ _ (by omega) (by omega))
theorem RWd.fr (h : RWd M) (h1 : ∀ c k, isWc c → N.2.1 c k = M.2.1 c k) : RWd N := fun c hc i hi => by rw [h1 c i hc]; exact h c hc i hi
theorem I_tx.fb (h : I_tx M D Do) (hF : FrB X Q R M N) (hX : ∀ a k, (8 ≤ a ∧ a ≤ 53) ∨ isWc a → X a k = false) (hR : ∀ a, a ≤ 53 → R a 0 = false) (hR3 : R 0 3 = false) : I_tx N D Do := by
  obtain ⟨⟨a1, a2, a3⟩, ⟨a4, a5⟩, a6, a7⟩ := h
  have hl := a2.1
  have pl : ∀ p ∈ prgL, 8 ≤ p ∧ p ≤ 53 := by decide
  refine ⟨⟨a1.fr (fun c k hc => hF.i (by unfold isWc at hc; omega) (hX c k (Or.inr hc))), a2.fb hF.1 (fun p hp => hX p 1 (Or.inl (pl p hp))) (fun p hp => hR p (pl p hp).2), Nat.le_trans (Pot.fb a2 hF (fun p hp => hR p (pl p hp).2)) a3⟩, ⟨a4.fr (fun a k h1 h2 => hF.i (by omega) (hX a k (Or.inl (by omega)))), a5.fr (fun a k h1 h2 => hF.i (by omega) (hX a k (Or.inl (by omega))))⟩, ?_, a7⟩
  rw [hF.r (by omega) hR3]; exact a6
/-- shapes of a State's cells -/
def shS (q : Nat × Nat) : Prop := q = (8, 8) ∨ q = (14, 5) ∨ q = (14, 120)
theorem StS.shp {s j : Nat} (h : StS M s) (hj : j ≤ 5) : ∃ q, M.1[s + j]? = some q ∧ shS q := by
  obtain ⟨⟨a0, a1, a2, a3, a4, a5⟩, _⟩ := h
  match j, hj with
  | 0, _ => exact ⟨_, a0, Or.inl rfl⟩
  | 1, _ => exact ⟨_, a1, Or.inr (Or.inl rfl)⟩
  | 2, _ => exact ⟨_, a2, Or.inr (Or.inl rfl)⟩
  | 3, _ => exact ⟨_, a3, Or.inr (Or.inl rfl)⟩
  | 4, _ => exact ⟨_, a4, Or.inr (Or.inl rfl)⟩
  | 5, _ => exact ⟨_, a5, Or.inr (Or.inr rfl)⟩
theorem StS.sm {s : Nat} (h : StS M s) (h1 : ∀ (a : Nat) (q : Nat × Nat), M.1[a]? = some q → N.1[a]? = some q) (h2 : ∀ k, N.2.2.2 s k = M.2.2.2 s k) : StS N s := by
  obtain ⟨⟨a0, a1, a2, a3, a4, a5⟩, b1, b2, b3, b4, b5⟩ := h
  exact ⟨⟨h1 _ _ a0, h1 _ _ a1, h1 _ _ a2, h1 _ _ a3, h1 _ _ a4, h1 _ _ a5⟩, by rw [h2]; exact b1, by rw [h2]; exact b2, by rw [h2]; exact b3, by rw [h2]; exact b4, by rw [h2]; exact b5⟩
theorem I_ps.fr (h : I_ps M) (h1 : ∀ (a : Nat) (q : Nat × Nat), M.1[a]? = some q → N.1[a]? = some q) (h2 : ∀ j, N.2.2.2 66 j = M.2.2.2 66 j) (h3 : ∀ a k, 187 ≤ a → M.1[a]? = some (8, 8) → N.2.2.2 a k = M.2.2.2 a k) : I_ps N := by
  refine ⟨fun j s hj hs => ?_, fun j j' s hj hj' a b => h.2 j j' s hj hj' (by rw [← h2]; exact a) (by rw [← h2]; exact b)⟩
  rw [h2] at hs
  obtain ⟨a, b⟩ := h.1 j s hj hs
  exact ⟨a, b.sm h1 (fun k => h3 s k a b.1.1)⟩
theorem SV.sm {w w' : Nat → Int32} {s : Nat} (h : SV w M s G E C) (hw : ∀ i, w' i = w i) (h1 : ∀ j k, j ≤ 4 → N.2.1 (s + j) k = M.2.1 (s + j) k) : SV w' N s G E C := by
  have hww : w' = w := funext hw
  obtain ⟨a1, a2, a3, a4⟩ := h
  rw [hww]
  refine ⟨(h1 0 0 (by decide)).trans a1, (h1 0 1 (by decide)).trans a2, fun e he => by rw [h1 1 _ (by decide)]; exact a3 e he, fun c hc => ?_⟩
  rw [h1 2 _ (by decide), h1 3 _ (by decide), h1 4 _ (by decide)]
  exact a4 c hc
theorem PastJ.sm {j r : Nat} (h : PastJ M G P E C j r) (h0 : N.2.2.2 66 j = M.2.2.2 66 j) (h1 : ∀ k, N.2.1 155 k = M.2.1 155 k) (h2 : ∀ s i k, M.2.2.2 66 j = some s → i ≤ 5 → N.2.1 (s + i) k = M.2.1 (s + i) k) : PastJ N G P E C j r := by
  obtain ⟨s, a1, ⟨kc, b1, b2, b3, b4⟩, a3, a4⟩ := h
  have hw : (fun i => N.2.1 155 (148 * r + i)) = fun i => M.2.1 155 (148 * r + i) := funext fun i => h1 _
  refine ⟨s, by rw [h0]; exact a1, ⟨kc, b1, by rw [h1]; exact b2, ?_, fun k hk => ?_⟩, ?_, by rw [hw]; exact a4⟩
  · rw [show s = s + 0 from rfl, h2 s 0 7 a1 (by decide)]; exact b3
  · rw [h1, h2 s 5 k a1 (by decide)]; exact b4 k hk
  · exact a3.sm (fun i => h1 _) (fun i k hi => h2 s i k a1 (by omega))
theorem I_un.fr (h : I_un M G P E C pc pn) (hp : I_ps M) (h7 : N.2.1 0 7 = M.2.1 0 7) (h8 : N.2.1 0 8 = M.2.1 0 8) (h85 : N.2.1 94 85 = M.2.1 94 85) (h86 : N.2.1 94 86 = M.2.1 94 86) (h155 : ∀ k, N.2.1 155 k = M.2.1 155 k) (h66 : ∀ j, N.2.2.2 66 j = M.2.2.2 66 j) (hd : ∀ a k q, 187 ≤ a → M.1[a]? = some q → shS q → N.2.1 a k = M.2.1 a k) : I_un N G P E C pc pn := by
  obtain ⟨⟨a1, a2, a3, a4, a5, a6⟩, a7⟩ := h
  refine ⟨⟨a1, a2, by rw [h7]; exact a3, by rw [h8]; exact a4, by rw [h85]; exact a5, by rw [h86]; exact a6⟩, fun i hi => (a7 i hi).sm (h66 _) h155 (fun s i k hs hi => ?_)⟩
  obtain ⟨b1, b2⟩ := hp.1 _ s (Nat.mod_lt _ (by decide)) hs
  obtain ⟨q, q1, q2⟩ := b2.shp hi
  exact hd _ k q (by omega) q1 q2
/-- queries -/
theorem IX.q {M1 M2 : sMem} (h : IX M D Do G P E C W c0 c1 c2 n pc pn) (h1 : FrB scC scQ rRow M M1) (hI : RowsI (uR M) M1 G c0) (h2 : Fr scR scS M1 M2) : IX M2 D Do G P E C W c0 c1 c2 n pc pn := by
  obtain ⟨k, ⟨t1, t2, t3⟩, ⟨u1, u2⟩, t4, ⟨t5, t6, t7, t8⟩, t9⟩ := h
  obtain ⟨k1, _⟩ := k.cls h1 hI
  obtain ⟨k2, _⟩ := k1.ref h2
  have hl : 187 ≤ M.1.length := k.2.2.1.ln
  have fi : ∀ a k, a < 187 → scC a k = false → scR a k = false → M2.2.1 a k = M.2.1 a k := fun a k h3 h4 h5 => by rw [h2.i h5, h1.i (by omega) h4]
  have fj : ∀ a k, a < 187 → scQ a k = false → scS a k = false → M2.2.2.1 a k = M.2.2.1 a k := fun a k h3 h4 h5 => by rw [h2.j h5, h1.j (by omega) h4]
  have fr : ∀ a k, a < M.1.length → a ≠ 77 → M2.2.2.2 a k = M.2.2.2 a k := fun a k h3 h4 => by rw [h2.2.1, h1.r h3 (beq_eq_false_iff_ne.mpr h4)]
  have fb2 : FrB scR scS (fun _ _ => false) M1 M2 := h2.fb
  have hD : D = 10 ∨ D = 32 := k.2.2.1.hD
  have hi : ∀ a k, 187 ≤ a → a < M.1.length → M2.2.1 a k = M.2.1 a k := fun a k h3 h4 => by rw [h2.i (scR_out (by omega)), h1.i h4 (sc_out (by omega))]
  refine ⟨k2, ⟨t1.fr (fi _ _ (by decide) rfl rfl) (fi _ _ (by decide) rfl rfl) (fun i => fi _ _ (by decide) rfl rfl) (fun i => fi _ _ (by decide) rfl rfl), t2.fr (fun a k h3 h4 => fi _ _ (by omega) (sc_out (by omega)) (scR_out (by omega))) (fun k => fj _ _ (by decide) rfl rfl), t3.fr (fun k => fi _ _ (by decide) rfl rfl) (fun k => fi _ _ (by decide) rfl rfl)⟩, ⟨u1.fr (fun a q z => by rw [h2.1]; exact h1.sh z) (fun j => fr _ _ (by omega) (by decide)) (fun a k h3 h4 => fr _ _ (lt_of_sh h4) (by omega)), u2.fr u1 (fi _ _ (by decide) rfl rfl) (fi _ _ (by decide) rfl rfl) (fi _ _ (by decide) rfl rfl) (fi _ _ (by decide) rfl rfl) (fun k => fi _ _ (by decide) rfl rfl) (fun j => fr _ _ (by omega) (by decide)) (fun a k q h3 h4 _ => hi a k h3 (lt_of_sh h4))⟩, t4.fr (fi _ _ (by decide) rfl rfl) (fi _ _ (by decide) rfl rfl) (fun k => fi _ _ (by decide) rfl rfl) (fun k => fi _ _ (by decide) rfl rfl), ⟨t5.fr (fi _ _ (by decide) rfl rfl) (fj _ _ (by decide) rfl rfl), t6.fr (fun k => fi _ _ (by decide) rfl rfl) (fun k => fi _ _ (by decide) rfl rfl), t7.fr (fi _ _ (by decide) rfl rfl) (fi _ _ (by decide) rfl rfl) (fi _ _ (by decide) rfl rfl) (fi _ _ (by decide) rfl rfl), t8.fr (fi _ _ (by decide) rfl rfl) (fi _ _ (by decide) rfl rfl) (fun k => fi _ _ (by decide) rfl rfl) (fun k => fi _ _ (by decide) rfl rfl)⟩, ?_⟩
  exact (t9.fb h1 (fun a k h3 => sc_out (by unfold isWc at h3; omega)) (fun a h3 => beq_eq_false_iff_ne.mpr (by omega)) rfl).fb fb2 (fun a k h3 => scR_out (by unfold isWc at h3; omega)) (fun _ _ => rfl) rfl
end IVS
