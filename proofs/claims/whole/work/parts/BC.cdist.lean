/-! THE CLASS reads a district: the whole text -/
def aS (T : Tk) (c t : Nat) : Flt ⊕ (Unit × Nat) := if isS T t c = true then .inr ((), t + 1) else .inl (1, T 4 t)
def dsR (b : Nat → Int32) (T : Tk) (sa sz : Nat → Nat) : Nat → Ds → Nat → Flt ⊕ (Ds × Nat)
  | 0, d, t => if T 3 t = 0 then .inr (d, 80) else .inl (5, T 4 t)
  | f + 1, d, t => if T 3 t = 0 then .inr (d, 79 - f) else sb (smR b T sa sz false d t) fun d' t1 => sb (aS T 59 t1) fun _ t2 => dsR b T sa sz f d' t2
def diR (b : Nat → Int32) (T : Tk) (sa sz : Nat → Nat) : Flt ⊕ (Ds × Nat) := sb (smR b T sa sz true d00 0) fun d t1 => sb (aS T 59 t1) fun _ t2 => dsR b T sa sz 79 d t2
def rsR (b : Nat → Int32) (T : Tk) (sa sz : Nat → Nat) (k : Nat) (d : Ds) (t : Nat) : Flt ⊕ (Ds × Nat) := if k = 0 then diR b T sa sz else dsR b T sa sz (80 - k) d t
section CDS
variable {b : Nat → Int32} {n e t D kd wh : Nat} {T : Tk} {sa sz : Nat → Nat} {M N O : sMem} {s : Cs} {d : Ds}
theorem gf00 : GF d00 0 := by
  refine ⟨⟨fun _ _ r hr => absurd hr (by simp [d00]), fun _ _ => by simp [d00], fun kd hk => by simp [d00]⟩, fun _ _ c hc => absurd hc (by simp [d00]), ⟨0, 0, rfl, by decide, by decide⟩, fun _ _ r hr => absurd hr (by simp [d00]), by decide⟩
/-- what the loop keeps -/
def DI (b : Nat → Int32) (n : Nat) (T : Tk) (e D : Nat) (sa sz : Nat → Nat) (M : sMem) (k : Nat) (N : sMem) : Prop := SF D M N ∧ GA b n T e D N ∧ k ≤ 80 ∧ ((∃ q, diR b T sa sz = .inl q ∧ CS e N (.inl q) ∧ 1 ≤ k) ∨ ∃ d t, CS e N (.inr t) ∧ CD N D d ∧ GF d t ∧ (k = 0 → d = d00 ∧ t = 0) ∧ (1 ≤ k → 1 ≤ t ∧ ∃ m, 5 ≤ m ∧ m ≤ 60 ∧ d.1.1 = nI m) ∧ rsR b T sa sz k d t = diR b T sa sz)
theorem rs_step (hE : Ends T e) (k : Nat) (hk : k < 80) (h0 : k = 0 → d = d00 ∧ t = 0) (h3 : T 3 t ≠ 0) : rsR b T sa sz k d t = sb (smR b T sa sz (decide (k = 0)) d t) fun d' t1 => sb (aS T 59 t1) fun _ t2 => rsR b T sa sz (k + 1) d' t2 := by
  unfold rsR
  by_cases q : k = 0
  · obtain ⟨rfl, rfl⟩ := h0 q
    subst q
    rw [if_pos rfl]
    rfl
  · rw [if_neg q, show 80 - k = (79 - k) + 1 by omega, show decide (k = 0) = false from decide_eq_false q]
    have e1 : ∀ d' t2, (if k + 1 = 0 then diR b T sa sz else dsR b T sa sz (80 - (k + 1)) d' t2) = dsR b T sa sz (79 - k) d' t2 := fun d' t2 => by rw [if_neg (by omega), show 80 - (k + 1) = 79 - k by omega]
    simp only [e1]
    rw [dsR, if_neg h3]
theorem c_dloop (hL : Lex b n T e sa sz) (hD : D = 10 ∨ D = 32) (k : Nat) (N : sMem) (h : DI b n T e D sa sz M k N) : (k < 80 ∧ ∃ N', f_X5_readDistrict_K15 7 D (nI k) (nI k) N = some (.inl (nI (k + 1), nI (k + 1), N')) ∧ DI b n T e D sa sz M (k + 1) N') ∨ (f_X5_readDistrict_K15 7 D (nI k) (nI k) N = some (.inr (nI k, N)) ∧ (k = 80 ∨ f_X10_isOver 1 N = some 1)) := by
  obtain ⟨h1, h2, h3, h4⟩ := h
  have hE := hL.1
  have hR := hL.R
  have hc := h2.2.1.1
  unfold f_X5_readDistrict_K15
  by_cases q : k = 80
  · right
    rw [if_pos (by rw [q]; decide)]
    exact ⟨rfl, Or.inl q⟩
  · rw [if_neg (by rw [show (80 : Int32) = nI 80 from rfl, cle (by omega) (by omega)]; omega), gr7_0 hc, Option.bind_some]
    rcases h4 with ⟨w, w1, w2, w3⟩ | ⟨d, t, a1, a2, a3, a4, a5, a6⟩
    · right
      have ho : f_X10_isOver 1 N = some 1 := by rw [c_isOver h2.2.1 w2, bI_t (show T 3 (ps e (.inl w)) = 0 from hE.1)]
      rw [ho, Option.bind_some, if_neg (by decide)]
      exact ⟨rfl, Or.inr rfl⟩
    · by_cases z : T 3 t = 0
      · right
        have ho : f_X10_isOver 1 N = some 1 := by rw [c_isOver h2.2.1 a1, bI_t (show T 3 (ps e (.inr t)) = 0 from z)]
        rw [ho, Option.bind_some, if_neg (by decide)]
        exact ⟨rfl, Or.inr rfl⟩
      · left
        refine ⟨by omega, ?_⟩
        rw [c_isOver h2.2.1 a1, bI_f (show ¬ T 3 (ps e (.inr t)) = 0 from z), Option.bind_some, if_pos rfl]
        have e42 : (if nI k = 0 then f_X5_readDistrict_B42 7 D (nI k) (nI k) 7 D 1 N else f_X5_readDistrict_B42 7 D (nI k) (nI k) 7 D 0 N) = f_X5_readDistrict_B42 7 D (nI k) (nI k) 7 D (if decide (k = 0) then 1 else 0) N := by
          by_cases q0 : k = 0
          · rw [if_pos (by rw [q0]; rfl), if_pos (decide_eq_true q0)]
          · rw [if_neg (by rw [show (0 : Int32) = nI 0 from rfl, nI_eq (by omega) (by omega)]; exact q0), if_neg (by simp [q0])]
        rw [e42]
        unfold f_X5_readDistrict_B42
        obtain ⟨N1, b1, b2, b3, b4⟩ := c_stat hL hE hR hD h2 a2 a3.1 a3.2.1 a1 (decide (k = 0))
        rw [b1, Option.bind_some, gr7_0 b3.2.1.1, Option.bind_some, nI_1]
        have hst := rs_step (b := b) (sa := sa) (sz := sz) hE k (by omega) a4 z
        rw [a6] at hst
        match z1 : smR b T sa sz (decide (k = 0)) d t with
        | .inl w =>
          rw [z1] at b4 hst
          obtain ⟨N2, c1, c2, c3⟩ := c_needS (z := 59) (c := 59) b3.2.1 (show CS e N1 (.inl w) from b4) rfl
          rw [c1, Option.bind_some]
          exact ⟨N2, rfl, (h1.tr b2).tr (SF.fr (up_st c2)), b3.tp hD c2, by omega, Or.inl ⟨w, hst, c3, by omega⟩⟩
        | .inr (d', t1) =>
          rw [z1] at b4 hst
          rw [sb_r] at hst
          obtain ⟨N2, c1, c2, c3⟩ := c_needS (z := 59) (c := 59) b3.2.1 (show CS e N1 (.inr t1) from b4.2) rfl
          obtain ⟨g1, g2, g3, g4, g5⟩ := sm_gd hL a1.2.1 a3 z1
          rw [c1, Option.bind_some]
          refine ⟨N2, rfl, (h1.tr b2).tr (SF.fr (up_st c2)), b3.tp hD c2, by omega, ?_⟩
          have e5 : ndS T 59 (.inr t1) = if isS T t1 59 = true then .inr (t1 + 1) else .inl (1, T 4 t1) := rfl
          rw [e5] at c3
          by_cases y : isS T t1 59 = true
          · rw [if_pos y] at c3
            rw [show aS T 59 t1 = .inr ((), t1 + 1) from if_pos y, sb_r] at hst
            refine Or.inr ⟨d', t1 + 1, c3, b4.1.tp hD b3.2.2.1 c2, ⟨g1.1, g1.2.1, g1.2.2.1, g1.2.2.2.1, by have := g1.2.2.2.2; omega⟩, fun w => by omega, fun _ => ⟨by omega, ?_⟩, hst.symm⟩
            by_cases q0 : k = 0
            · exact g4 (decide_eq_true q0)
            · rw [g5 (decide_eq_false q0)]; exact (a5 (by omega)).2
          · rw [if_neg y] at c3
            rw [show aS T 59 t1 = .inl (1, T 4 t1) from if_neg y] at hst
            exact Or.inl ⟨_, hst, c3, by omega⟩
/-- what comes of a district's text -/
def DZ (b : Nat → Int32) (n : Nat) (T : Tk) (e D : Nat) (M N : sMem) (v : Int32) (R : Flt ⊕ (Ds × Nat)) : Prop := SF D M N ∧ GA b n T e D N ∧ match R with | .inl q => v = -1 ∧ CS e N (.inl q) | .inr (d, k) => v = nI k ∧ (1 ≤ k ∧ k ≤ 80) ∧ CS e N (.inr e) ∧ CE N D d (fcd d) ∧ GF d e ∧ ∃ m, 5 ≤ m ∧ m ≤ 60 ∧ d.1.1 = nI m
theorem c_dend (hL : Lex b n T e sa sz) (hD : D = 10 ∨ D = 32) (k : Nat) (N : sMem) (h : DI b n T e D sa sz M k N) (hx : k = 80 ∨ f_X10_isOver 1 N = some 1) : ∃ v O, f_X5_readDistrict_B63 7 D (nI k) N = some (v, O) ∧ DZ b n T e D M O v (diR b T sa sz) := by
  obtain ⟨h1, h2, h3, h4⟩ := h
  have hE := hL.1
  have hc := h2.2.1.1
  have over : ∀ N q, GA b n T e D N → CS e N (.inl q) → f_X10_isOver 1 N = some 1 := fun N q hA hs => by rw [c_isOver hA.2.1 hs, bI_t (show T 3 (ps e (.inl q)) = 0 from hE.1)]
  have bad : ∀ N q, SF D M N → GA b n T e D N → CS e N (.inl q) → diR b T sa sz = .inl q → ∃ v O, f_X5_readDistrict_B107 7 D (nI k) N = some (v, O) ∧ DZ b n T e D M O v (diR b T sa sz) := by
    intro N q hS hA hs hR
    obtain ⟨O, f1, f2, f3, f4, f5⟩ := c_fill hD hA
    have hs' := CS.eq hs f4
    unfold f_X5_readDistrict_B107
    rw [f1, Option.bind_some, gr7_0 f3.2.1.1, Option.bind_some, c_isGood f3.2.1 hs', Option.bind_some, hR]
    exact ⟨-1, O, rfl, hS.tr f2, f3, rfl, hs'⟩
  have bad2 : ∀ N q, SF D M N → GA b n T e D N → CS e N (.inl q) → diR b T sa sz = .inl q → ∃ v O, f_X5_readDistrict_B82 7 D (nI k) N = some (v, O) ∧ DZ b n T e D M O v (diR b T sa sz) := by
    intro N q hS hA hs hR
    unfold f_X5_readDistrict_B82
    rw [gr7_0 hA.2.1.1, Option.bind_some, over N q hA hs, Option.bind_some, if_neg (by decide)]
    exact bad N q hS hA hs hR
  unfold f_X5_readDistrict_B63
  rcases h4 with ⟨w, w1, w2, w3⟩ | ⟨d, t, a1, a2, a3, a4, a5, a6⟩
  · rw [if_neg (by rw [show (0 : Int32) = nI 0 from rfl, nI_eq (by omega) (by omega)]; omega)]
    exact bad2 N w h1 h2 w2 w1
  · by_cases q0 : k = 0
    · obtain ⟨rfl, rfl⟩ := a4 q0
      have ho : T 3 0 = 0 := by
        rcases hx with z | z
        · omega
        · rw [c_isOver h2.2.1 a1] at z
          by_cases y : T 3 0 = 0
          · exact y
          · rw [bI_f (show ¬ T 3 (ps e (.inr 0)) = 0 from y)] at z; cases z
      obtain ⟨O, f1, f2, f3⟩ := c_fail h2.2.1 a1 1 (T 4 0) (by decide)
      rw [if_pos (by rw [q0]; rfl), gr7_0 hc, Option.bind_some, Option.bind_some, c_place h2.2.1 a1, Option.bind_some, show T 4 (ps e (.inr 0)) = T 4 0 from rfl, f1, Option.bind_some]
      refine bad2 O (1, T 4 0) (h1.tr (SF.fr (up_st f2))) (h2.tp hD f2) f3 ?_
      unfold diR smR
      rw [if_neg (fun z => by rw [ho] at z; exact absurd z.1 (by decide))]
      rfl
    · rw [if_neg (by rw [show (0 : Int32) = nI 0 from rfl, nI_eq (by omega) (by omega)]; exact q0)]
      unfold f_X5_readDistrict_B82
      rw [gr7_0 hc, Option.bind_some, c_isOver h2.2.1 a1, Option.bind_some, show T 3 (ps e (.inr t)) = T 3 t from rfl]
      have er : rsR b T sa sz k d t = dsR b T sa sz (80 - k) d t := if_neg q0
      rw [er] at a6
      by_cases y : T 3 t = 0
      · rw [bI_t y, if_neg (by decide)]
        have hte : t = e := by
          by_cases z : t = e
          · exact z
          · have := a1.2.1
            obtain ⟨_, _, z3⟩ := hL.2.2.2.2.1 t (by omega)
            rcases z3 with z3 | z3 | z3
            · rcases z3.2.2.2.2.1 with z4 | z4 <;> (rw [y] at z4; exact absurd z4 (by decide))
            · rcases z3.2.2.2.2.1 with z4 | z4 <;> (rw [y] at z4; exact absurd z4 (by decide))
            · have z4 := z3.2.2.1; rw [y] at z4; exact absurd z4 (by decide)
        have hr : diR b T sa sz = .inr (d, k) := by
          rw [← a6]
          cases z : 80 - k with
          | zero => unfold dsR; rw [if_pos y, show k = 80 by omega]
          | succ f => unfold dsR; rw [if_pos y, show 79 - f = k by omega]
        obtain ⟨O, f1, f2, f3, f4, f5⟩ := c_fill hD h2
        have hs' := CS.eq a1 f4
        unfold f_X5_readDistrict_B107
        rw [f1, Option.bind_some, gr7_0 f3.2.1.1, Option.bind_some, c_isGood f3.2.1 hs', Option.bind_some, hr]
        refine ⟨nI k, O, rfl, h1.tr f2, f3, rfl, ⟨by omega, h3⟩, (show ∀ x, t = x → CS e O (.inr x) from fun x hx => by rw [← hx]; exact hs') e hte, f5 d a3.2.1 a2, hte ▸ a3, (a5 (by omega)).2⟩
      · rw [bI_f y, if_pos rfl]
        have h80 : k = 80 := by
          rcases hx with z | z
          · exact z
          · rw [c_isOver h2.2.1 a1, bI_f (show ¬ T 3 (ps e (.inr t)) = 0 from y)] at z; cases z
        obtain ⟨O, f1, f2, f3⟩ := c_fail h2.2.1 a1 5 (T 4 t) (by decide)
        rw [Option.bind_some, Option.bind_some, c_place h2.2.1 a1, Option.bind_some, show T 4 (ps e (.inr t)) = T 4 t from rfl, f1, Option.bind_some]
        refine bad O (5, T 4 t) (h1.tr (SF.fr (up_st f2))) (h2.tp hD f2) f3 ?_
        rw [← a6, h80, show 80 - 80 = 0 from rfl, dsR, if_neg y]
/-- readDistrict -/
theorem c_rdist (hC : CT b n M) (hA : PA M) (hD : D = 10 ∨ D = 32) (hW : TWa M D) : ∃ v N M1 e sa sz, f_X5_readDistrict 7 D M = some (v, N) ∧ Fr srX q0 M M1 ∧ Lex b n M1.2.1 e sa sz ∧ DZ b n M1.2.1 e D M1 N v (diR b M1.2.1 sa sz) := by
  obtain ⟨M1, e, sa, sz, a1, a2, a3, a4, a5⟩ := c_start hC
  have sr_out : ∀ a k, 7 ≤ a → srX a k = false := fun a k h => by
    unfold srX
    rw [decide_eq_false (show ¬ a ≤ 6 by omega), beq_eq_false_iff_ne.mpr (show a ≠ 1 by omega)]
    simp
  have hA1 : GA b n M1.2.1 e D M1 := ⟨hC.fr a2 rfl (fun i => rfl), a4, hA.fr a2 (by decide), fun kd hk => (hW kd hk).of (fun i => a2.i (sr_out _ _ (by omega)))⟩
  generalize hT : M1.2.1 = T at *
  obtain ⟨M2, b1, b2, b3, b4, b5⟩ := c_clear hD hA1
  have s2 := CS.eq a5 b4
  have h0 : DI b n T e D sa sz M1 0 M2 := ⟨b2, b3, by decide, Or.inr ⟨d00, 0, s2, b5, gf00, fun _ => ⟨rfl, rfl⟩, fun z => by omega, rfl⟩⟩
  unfold f_X5_readDistrict f_X5_readDistrict_L15
  rw [sr7 hC.1, gr7_0 hC.1, Option.bind_some, a1, Option.bind_some, b1, Option.bind_some]
  obtain ⟨r, r1, k, r2, r3, r4⟩ := itr_g (f := fun a : Int32 × Int32 × sMem => f_X5_readDistrict_K15 7 D a.1 a.2.1 a.2.2) (fun k s => (nI k, nI k, s)) (fun k s => DI b n T e D sa sz M1 k s) (fun r => ∃ k, r.1 = nI k ∧ DI b n T e D sa sz M1 k r.2 ∧ (k = 80 ∨ f_X10_isOver 1 r.2 = some 1)) 80 (by decide) (fun k s hk hI => by
    rcases c_dloop a3 hD k s hI with ⟨l, N', n1, n2⟩ | ⟨n1, n2⟩
    · exact Or.inl ⟨l, N', n1, n2⟩
    · exact Or.inr ⟨_, n1, k, rfl, hI, n2⟩) (i := 0) (s := M2) (by decide) h0
  replace r1 : sItr (fun a : Int32 × Int32 × sMem => f_X5_readDistrict_K15 7 D a.1 a.2.1 a.2.2) sFuel (0, 0, M2) = some r := r1
  rw [r1, Option.bind_some, r2]
  obtain ⟨v, O, o1, o2⟩ := c_dend a3 hD k r.2 r3 r4
  exact ⟨v, O, M1, e, sa, sz, o1, a2, by rw [hT]; exact a3, by rw [hT]; exact o2⟩
end CDS
