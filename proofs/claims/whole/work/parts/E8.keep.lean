/-! KEEPERS, both -/
section OKK
variable {M N : sMem} {D Do G P E C W n pc pn : Nat} {c0 c1 c2 : List Nat} {cl : Nat → Nat → Bool} {o : Nat → Nat}
theorem mt_sc {a k : Nat} (h : scR a k = false) : pMt a k = false := imF (fun y => by
  unfold pMt at y
  unfold scR
  simp only [Bool.or_eq_true, Bool.and_eq_true, beq_iff_eq, decide_eq_true_eq] at y ⊢
  omega) h
theorem clg_of (h : CLA cl N o 0 G) : ∃ nn FF LL, CLG cl G o nn FF LL ∧ ∀ g i, g < G → i < nn g → N.2.1 146 (o g + i) = nI g ∧ N.2.1 147 (o g + i) = nI (FF g i) ∧ N.2.1 148 (o g + i) = nI (LL g i) := by
  have st : ∀ g, ∃ q : Nat × (Nat → Nat) × (Nat → Nat), g < G → o (g + 1) = o g + q.1 ∧ CLI (cl g) 200 q.1 q.2.1 q.2.2 ∧ ∀ i, i < q.1 → N.2.1 146 (o g + i) = nI g ∧ N.2.1 147 (o g + i) = nI (q.2.1 i) ∧ N.2.1 148 (o g + i) = nI (q.2.2 i) := fun g => by
    by_cases q : g < G
    · obtain ⟨n, F, L, h1, h2, h3⟩ := h.2 g (Nat.zero_le _) q
      exact ⟨(n, F, L), fun _ => ⟨h1, h2, h3⟩⟩
    · exact ⟨(0, fun _ => 0, fun _ => 0), fun z => absurd z q⟩
  obtain ⟨f, hf⟩ := Classical.skolem.mp st
  exact ⟨fun g => (f g).1, fun g => (f g).2.1, fun g => (f g).2.2, ⟨h.1, fun g hg => ⟨(hf g hg).1, (hf g hg).2.1⟩⟩, fun g i hg hi => (hf g hg).2.2 i hi⟩
theorem ok_keepers (h : IX M D Do G P E C W c0 c1 c2 n pc pn) : ∃ r M1 M2, f_X11_keepers 0 M = some (r, M1) ∧ f_X12_keepers 94 M1 = some (r, M2) ∧ Inv M2 := by
  have k := h.1
  have hc := k.hc
  have hb := k.n.2
  by_cases ht : 0 < (uR M 130 2).toInt
  · obtain ⟨N1, a1, a2, a3, k1, eu, e140, a4, a5⟩ := both_now k
    have hc1 := k1.hc
    obtain ⟨N1', hN1'⟩ : ∃ X, X = wrI N1 82 5 0 := ⟨_, rfl⟩
    have F1 : Fr pKz q0 N1 N1' := by rw [hN1']; exact Fr.rf.wi rfl
    have fcl : ∀ X, Fr pKz q0 N1 X → FrB scC scQ rRow M X ∧ RowsI (uR M) X G c0 := fun X hX => ⟨a2.tr (hX.fb.mono (fun _ _ z => kz_sc z) (fun _ _ _ => rfl) (fun _ _ z => z)), a3.fr k1.hc (hX.fb (R := fun _ _ => false)) (fun _ => rfl) (fun _ _ _ => rfl) (fun _ => rfl)⟩
    have hl : 187 ≤ M.1.length := k.cv.ln
    have kcl : ∀ X, Fr pKz q0 N1 X → KI X D G P E C W c0 c1 c2 ∧ uR X = uR M ∧ X.2.1 140 = M.2.1 140 := fun X hX => by
      obtain ⟨x1, x2⟩ := fcl X hX
      obtain ⟨x3, x4⟩ := k.cls x1 x2
      exact ⟨x3, x4, funext fun i => x1.i (by omega) rfl⟩
    obtain ⟨k1', eu', e140'⟩ := kcl N1' F1
    have hv2 : ∀ g, g ≤ G → (nI G - 1 < nI g ↔ G ≤ g) := fun g hg => by
      have e1 : (nI G - 1).toInt = (G : Int) - 1 := by rw [Int32.toInt_sub, nI_i (by omega), show (1 : Int32).toInt = 1 from rfl, b32 (by omega) (by omega)]
      rw [lt_i, e1, nI_i (by omega)]
      omega
    -- the class, by closings whatever
    have run : ∀ (X : sMem) (o : Nat → Nat), CLA (cw (uR M) c0 G E (M.2.1 140)) X o 0 G → ∃ M1, f_X11_keepers_L23 0 0 N1' = some (if o G ≤ 40 then nI (o G - ndK (o G) (RelK (fun i => X.2.1 147 i) (fun i => X.2.1 148 i) (fun i => uR M 133 (6 + (X.2.1 146 i).toInt.toNat))) (o G)) else -1, M1) ∧ Fr pKz q0 N1' M1 := fun X o hX => by
      obtain ⟨nn, FF, LL, g1, g2⟩ := clg_of hX
      refine c_keepK (u := uR M) (cl := cw (uR M) c0 G E (M.2.1 140)) (by rw [← eu']; exact k1'.cv) k.2.1 (fun g t hg ht => ?_) g1 (fun g i hg hi => ?_) (by rw [hN1', wrI_eq])
      · rw [show N1'.2.2.1 88 = N1.2.2.1 88 from funext fun i => F1.j rfl]
        exact a4 g t hg ht
      · obtain ⟨y1, y2, y3⟩ := g2 g i hg hi
        refine ⟨y2, y3, ?_⟩
        rw [y1, nI_i (by omega), Int.toNat_natCast]
    obtain ⟨X, o0, x1, x2, x3, x4, x5⟩ := r_clos k1' (a := 0) (b := G) (v2 := nI G - 1) (Nat.zero_le _) (Nat.le_refl _) hv2
    rw [eu', e140'] at x3
    obtain ⟨M1, m1, m2⟩ := run X o0 x3
    have FM := F1.tr m2
    obtain ⟨kM, euM, e140M⟩ := kcl M1 FM
    -- the reference
    obtain ⟨N2, o, b1, b2, b3, b4, b5⟩ := r_clos kM (a := 0) (b := G) (v2 := nI G - 1) (Nat.zero_le _) (Nat.le_refl _) hv2
    replace b1 : f_X12_laysClosings 94 0 (nI G - 1) M1 = some N2 := b1
    rw [euM, e140M] at b3
    obtain ⟨M1', q1, q2⟩ := run N2 o b3
    rw [m1] at q1
    have e1 := (Prod.mk.inj (Option.some.inj q1)).1
    rw [e1] at m1
    have hs2 := b2.hs kM.1
    have h57 : M1.2.1 94 57 = 1 := by rw [kM.2.2.2.2.2.2.2, euM, bI_t ht]
    obtain ⟨x1', x2'⟩ := fcl M1 FM
    -- the class's call
    have cls : f_X11_keepers 0 M = some (if o G ≤ 40 then nI (o G - ndK (o G) (RelK (fun i => N2.2.1 147 i) (fun i => N2.2.1 148 i) (fun i => uR M 133 (6 + (N2.2.1 146 i).toInt.toNat))) (o G)) else -1, M1) := by
      unfold f_X11_keepers
      rw [sr0 hc, c_isTold k, Option.bind_some, bI_t ht, if_neg (by decide), a1, Option.bind_some, gr0_10 hc1, Option.bind_some, pi82 hc1, Option.bind_some, ← hN1', m1]
    have rf0 : ∀ z, f_X12_keepers 94 M1 = z ↔ (if nI (o G) ≤ (40 : Int32) then f_X12_keepers_L33 94 0 N2 else some (-1, N2)) = z := fun z => by
      unfold f_X12_keepers
      rw [sr94 kM.1, gi94 kM.1, Option.bind_some, h57, if_neg (by decide), (r_many kM.1).1, Option.bind_some, kM.n.1.1, b1, Option.bind_some, gi94 hs2, Option.bind_some, b4]
    have hle : nI (o G) ≤ (40 : Int32) ↔ o G ≤ 40 := by
      rw [show (40 : Int32) = nI 40 from rfl, cle (by omega) (by decide)]
    by_cases q : o G ≤ 40
    · obtain ⟨nn, FF, LL, g1, g2⟩ := clg_of b3
      have hD : RDm (o G) (fun i => N2.2.1 147 i) (fun i => N2.2.1 148 i) (fun i => uR M 133 (6 + (N2.2.1 146 i).toInt.toNat)) N2 := ⟨q, b4, fun x hx => by
        obtain ⟨g, i, z1, z2, rfl⟩ := o_find g1 G (Nat.le_refl _) x hx
        obtain ⟨y1, y2, y3⟩ := g2 g i z1 z2
        have hm := k.2.1.2.2.2.1 g z1
        have hl := (g1.2 g z1).2.1 i z2
        refine ⟨⟨rfl, rfl, g, by omega, y1, ?_⟩, ?_⟩
        · dsimp only
          rw [y1, nI_i (by omega), Int.toNat_natCast, b2.i (scR_out (by omega)), ← euM]
          exact uR_eq (by decide) (by decide)
        · dsimp only
          rw [y1, y2, y3, nI_i (by omega), nI_i (by omega), nI_i (by omega), Int.toNat_natCast]
          omega⟩
      obtain ⟨N3, n1, n2⟩ := r_keepL hs2 hD
      refine ⟨_, M1, N3, cls, (rf0 _).mpr ?_, (h.q x1' x2' (b2.tr (n2.mono (fun _ _ z => mt_sc z) (fun _ _ _ => rfl)))).inv⟩
      rw [if_pos (hle.mpr q), if_pos q, n1]
    · refine ⟨_, M1, N2, cls, (rf0 _).mpr ?_, (h.q x1' x2' b2).inv⟩
      rw [if_neg (fun z => q (hle.mp z)), if_neg q]
  · refine ⟨-1, M, M, ?_, ?_, h.inv⟩
    · unfold f_X11_keepers
      rw [sr0 hc, c_isTold k, Option.bind_some, bI_f ht, if_pos rfl]
    · have e57 : M.2.1 94 57 = 0 := by rw [k.2.2.2.2.2.2.2, bI_f ht]
      unfold f_X12_keepers
      rw [sr94 k.1, gi94 k.1, Option.bind_some, e57, if_pos rfl]
end OKK
