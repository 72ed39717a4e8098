/-! THE CLASS reads statements: rules, and which one it is -/
section CS5
variable {b : Nat → Int32} {n e t c D kd wh : Nat} {T : Tk} {sa sz : Nat → Nat} {M N O : sMem} {s : Cs} {d : Ds} {R : Flt ⊕ (Ds × Nat)}
theorem GA.fp (hD : D = 10 ∨ D = 32) (hw : wh < 3) (h : GA b n T e D M) (hA : PA N) (hF : FP (pr3 D wh) M N) : GA b n T e D N := by
  have hp := pr3_in (D := D) hD hw
  have hl := h.2.2.1.1
  have mx := fun kd (hk : kd < 5) => mx_le hk
  have out : ∀ a k, a < 187 → tpX a k = false → a ≠ pr3 D wh → a ≠ pr3 D wh + 1 → N.2.1 a k = M.2.1 a k := fun a k h1 h2 h3 h4 => hF.2.1 a k (by omega) h2 h3 (fun z => by have := (h.2.2.1.2.1 _ hp).q1 hp z; omega)
  refine ⟨⟨hF.hc hp h.1.1, ?_, h.1.2.2.1, fun i hi => ?_⟩, h.2.1.fp h.2.2.1 hp hF, hA, fun kd hk => (h.2.2.2 kd hk).of (fun i => out _ i ?_ (tp_out ?_) ?_ ?_)⟩
  · rw [out 1 1 (by omega) rfl (by unfold pr3; omega) (by unfold pr3; omega)]; exact h.1.2.1
  · rw [out 2 i (by omega) rfl (by unfold pr3; omega) (by unfold pr3; omega)]; exact h.1.2.2.2 i hi
  all_goals (have := mx kd hk; (try unfold pr3); omega)
theorem ty_ne {c : List Nat} {x : Bool} (h : tyA c [] = some [x]) : c ≠ [] := by
  intro z; rw [z] at h; cases h
theorem gR_pr (hc : ClsS M.1 M.2.2.2) (hD : D = 10 ∨ D = 32) : gR 1 10 6 M D = some (pr3 D 0) ∧ gR 1 10 7 M D = some (pr3 D 1) ∧ gR 1 10 8 M D = some (pr3 D 2) := ⟨grD_6 hc hD, grD_7 hc hD, grD_8 hc hD⟩
/-- is there such a rule already -/
theorem c_isNew (hD : D = 10 ∨ D = 32) (hw : wh < 3) (hF : Fr tpX q0 O M) (hA : GA b n T e D M) (hC : CD M D d) (hg : GdC d) (h : CS e M (.inr t)) (at' : Int32) : ∃ x N, f_X5_isNew 7 (pr3 D wh) at' M = some (x, N) ∧ (((d.2.2 wh).isSome = true ∧ x = 0 ∧ Fr tpX q0 O N ∧ GA b n T e D N ∧ CS e N (.inl (5, at'))) ∨ (d.2.2 wh = none ∧ x = 1 ∧ N = M)) := by
  have hp := pr3_in (D := D) hD hw
  obtain ⟨h1, q, n', s, a1, a2, a3, a4, a5, a6⟩ := hA.2.2.1.2.1 _ hp
  obtain ⟨q2, n2, p1, p2, p3, p4, p5⟩ := hC.2.2.2 wh hw
  obtain rfl := Option.some.inj (a1.symm.trans p1)
  have hn : n' ≤ 2048 := by
    obtain ⟨j, j1, j2⟩ := a3
    rw [j2]
    have : 2 ^ j ≤ 2 ^ 5 := Nat.pow_le_pow_right (by decide) j1
    omega
  have hnn : n' = n2 := by have := a2.symm.trans p2; simpa using this
  unfold f_X5_isNew f_X5_isNew_B16
  rw [sr7 hA.2.1.1, gI_of h1, Option.bind_some, p3]
  cases z : d.2.2 wh with
  | none =>
    rw [z] at p3
    rw [Option.getD_none, List.length_nil, if_pos (by decide), Option.bind_some, if_pos (by decide)]
    exact ⟨1, M, rfl, Or.inr ⟨rfl, rfl, rfl⟩⟩
  | some cs =>
    rw [z, Option.getD_some] at p3 p4
    have hne := ty_ne (hg wh hw cs z).1
    have hcl : 0 < cs.length := List.length_pos_iff.mpr hne
    obtain ⟨N, f1, f2, f3⟩ := c_fail hA.2.1 h 5 at' (by decide)
    rw [Option.getD_some, if_neg (by rw [show (0 : Int32) = nI 0 from rfl, cle (by omega) (by omega)]; omega), gr7_0 hA.2.1.1, Option.bind_some, f1, Option.bind_some]
    have hp8 := prg_lt hp
    rw [gI_of (show N.1[pr3 D wh]? = some (6, 2) by rw [f2.1]; exact h1), Option.bind_some, f2.i (tp_out (by omega)), p3, if_neg (by rw [show (0 : Int32) = nI 0 from rfl, nI_eq (by omega) (by omega)]; omega)]
    exact ⟨0, N, rfl, Or.inl ⟨rfl, rfl, hF.tr f2, hA.tp hD f2, f3⟩⟩
/-- the rule itself -/
theorem c_rule (hL : Lex b n T e sa sz) (hE : Ends T e) (hR : LexR T e) (hD : D = 10 ∨ D = 32) (hw : wh < 3) (hF : Fr tpX q0 O M) (hA : GA b n T e D M) (hC : CD M D d) (h : CS e M (.inr t)) (hn : d.2.2 wh = none) {f : sMem → Option sMem} (hf : CPR T e (pr3 D wh) f (if wh = 0 then pTest 0 T 6 else pSum wh T 6)) (at' : Int32) : ∃ N, f M = some N ∧ SQ b n T e D O N (codeR T d wh at' t) := by
  have hp := pr3_in (D := D) hD hw
  obtain ⟨N, a1, a2, a3, a4⟩ := (hf M hA.2.1 hA.2.2.1).2 t h
  have hl := hA.2.2.1.1
  refine ⟨N, a1, (SF.fr (up_st hF)).tr (SF.fp hD hl hw a2), hA.fp hD hw a3 a2, ?_⟩
  unfold codeR
  rw [hn, if_neg (by simp)]
  have e0 : (if wh = 0 then pTest 0 T 6 else pSum wh T 6) t = if wh = 0 then pTest 0 T 6 t else pSum wh T 6 t := by
    by_cases q : wh = 0
    · rw [if_pos q, if_pos q]
    · rw [if_neg q, if_neg q]
  rw [e0] at a4
  match z : (if wh = 0 then pTest 0 T 6 t else pSum wh T 6 t) with
  | .inl q => rw [z] at a4; exact a4
  | .inr (cs, t') =>
    rw [z] at a4
    obtain ⟨k1, k2⟩ := a4
    have mx := fun kd (hk : kd < 5) => mx_le hk
    have out : ∀ a k, a < 187 → tpX a k = false → a ≠ pr3 D wh → a ≠ pr3 D wh + 1 → N.2.1 a k = M.2.1 a k := fun a k h1 h2 h3 h4 => a2.2.1 a k (by omega) h2 h3 (fun z => by have := (hA.2.2.1.2.1 _ hp).q1 hp z; omega)
    refine ⟨⟨fun kd hk => (hC.1 kd hk).of hk (fun a i h1 h2 => out _ i ?_ (tp_out ?_) ?_ ?_), ?_, ?_, fun w hw2 => ?_⟩, k1⟩
    iterate 4 (have := mx kd hk; (try unfold pr3); omega)
    · rw [out D 0 (by omega) (tp_out (by omega)) (by unfold pr3; omega) (by unfold pr3; omega)]; exact hC.2.1
    · rw [out D 9 (by omega) (tp_out (by omega)) (by unfold pr3; omega) (by unfold pr3; omega)]; exact hC.2.2.1
    · dsimp only
      by_cases q : w = wh
      · subst q
        rw [if_pos rfl, Option.getD_some]
        have := k2 [] (by have := hC.2.2.2 w hw2; rw [hn] at this; exact this) (Nat.zero_le _)
        simpa using this
      · rw [if_neg q]
        have hp2 := pr3_in (D := D) hD hw2
        have hne : pr3 D w ≠ pr3 D wh := by unfold pr3; omega
        obtain ⟨q2, n2, p1, p2, p3, p4, p5⟩ := hC.2.2.2 w hw2
        have hq := (hA.2.2.1.2.1 _ hp2).q1 hp2 p1
        have hb := prg_lt hp2
        have hd := hA.2.2.1.2.2 _ hp _ hp2 (fun z => hne z.symm)
        have hb2 := prg_lt hp
        refine ⟨q2, n2, ?_, a2.1 _ _ p2, ?_, p4, fun i hi => ?_⟩
        · rw [a2.2.2.2.1 _ _ (by omega) (fun z => hne z.1)]; exact p1
        · rw [a2.2.1 _ _ (by omega) (tp_out (by omega)) hne (fun z => ?_)]
          · exact p3
          · have := (hA.2.2.1.2.1 _ hp).q1 hp z
            exact this.2.2.1 hp2
        · rw [a2.2.1 _ _ hq.2.1 (tp_out (by omega)) (fun z => hq.2.2.1 (by rw [z]; exact hp)) (fun z => hd (by rw [z, p1]))]
          exact p5 i hi
theorem c_thingB (hA : GA b n T e D M) (w at' : Int32) (h0 : w ≠ 0) (h1 : w ≠ 1) (h3 : w ≠ 3) (h4 : w ≠ 4) (h7 : w ≠ 7) (h9 : w ≠ 9) (h13 : w ≠ 13) (h17 : w ≠ 17) : f_X5_readThing 7 D w at' M = (f_X10_fail 1 1 at' M).bind fun M2 => some M2 := by
  unfold f_X5_readThing
  rw [sr7 hA.2.1.1]
  simp only [if_neg h0, if_neg h1, if_neg h3, if_neg h4, if_neg h7, if_neg h9, if_neg h13, if_neg h17, gr7_0 hA.2.1.1, Option.bind_some, ite_self]
/-- a statement -/
theorem c_stat (hL : Lex b n T e sa sz) (hE : Ends T e) (hR : LexR T e) (hD : D = 10 ∨ D = 32) (hA : GA b n T e D M) (hC : CD M D d) (hG : GdD d) (hg : GdC d) (h : CS e M (.inr t)) (first : Bool) : ∃ N, f_X5_readStatement 7 D (if first then 1 else 0) M = some N ∧ SQ b n T e D M N (smR b T sa sz first d t) := by
  have hc := hA.2.1.1
  have fl : ∀ M' : sMem, Fr tpX q0 M M' → GA b n T e D M' → ∀ s, CS e M' s → ∀ x p, x ≠ 0 → ∃ N, f_X10_fail 1 x p M' = some N ∧ SF D M N ∧ GA b n T e D N ∧ CS e N (cbd s fun _ => .inl (x, p)) := by
    intro M' hF hA' s hs x p hx
    obtain ⟨N, f1, f2, f3⟩ := c_fail hA'.2.1 hs x p hx
    exact ⟨N, f1, SF.fr (up_st (hF.tr f2)), hA'.tp hD f2, f3⟩
  unfold f_X5_readStatement smR
  rw [sr7 hc, gr7_0 hc, Option.bind_some, c_place hA.2.1 h, Option.bind_some, Option.bind_some, c_word hA.2.1 h, Option.bind_some]
  have ep : ps e (.inr t) = t := rfl
  rw [ep]
  have B37 : ∃ N, f_X5_readStatement_B37 7 (T 4 t) M = some N ∧ SQ b n T e D M N (.inl (1, T 4 t)) := by
    obtain ⟨N, f1, f2, f3, f4⟩ := fl M Fr.rf hA _ h 1 (T 4 t) (by decide)
    unfold f_X5_readStatement_B37
    rw [gr7_0 hc, Option.bind_some, f1]
    exact ⟨N, rfl, f2, f3, f4⟩
  by_cases h3 : T 3 t = 1
  · rw [if_pos h3]
    by_cases h6 : T 6 t = -1
    · rw [if_pos h6, if_neg (fun z => z.2.1 h6)]; exact B37
    · rw [if_neg h6]
      have e34 : (if T 6 t = 0 then f_X5_readStatement_B34 7 D (T 4 t) (T 6 t) (if first then 1 else 0) 1 M else f_X5_readStatement_B34 7 D (T 4 t) (T 6 t) (if first then 1 else 0) 0 M) = f_X5_readStatement_B34 7 D (T 4 t) (T 6 t) (if first then 1 else 0) (if T 6 t = 0 then 1 else 0) M := by
        by_cases q : T 6 t = 0
        · rw [if_pos q, if_pos q]
        · rw [if_neg q, if_neg q]
      rw [e34]
      unfold f_X5_readStatement_B34
      have eif : ((if first then (1 : Int32) else 0) = if T 6 t = 0 then 1 else 0) ↔ (first = true ↔ T 6 t = 0) := by
        by_cases q : T 6 t = 0
        · rw [if_pos q]; cases first <;> simp [q]
        · rw [if_neg q]; cases first <;> simp [q]
      by_cases hf : first = true ↔ T 6 t = 0
      · rw [if_pos (eif.mpr hf), if_pos ⟨h3, h6, hf⟩, gr7_0 hc, Option.bind_some]
        obtain ⟨M1, a1, a2, a3⟩ := c_needW hA.2.1 h (T 6 t)
        rw [a1, Option.bind_some]
        replace a3 : CS e M1 (.inr (t + 1)) := by
          have e0 : ndW T (T 6 t) (.inr t) = if T 3 t = 1 ∧ T 6 t = T 6 t then .inr (t + 1) else .inl (1, T 4 t) := rfl
          rw [e0, if_pos ⟨h3, rfl⟩] at a3; exact a3
        have hA1 := hA.tp hD a2
        have hC1 := hC.tp hD hA.2.2.1 a2
        have hc1 := hA1.2.1.1
        obtain ⟨g6, g7, g8⟩ := gR_pr hc1 hD
        have hB1 : GB b n T e D d M1 := ⟨hA1.1, hA1.2.1, hA1.2.2.2, hC1.1⟩
        generalize hw : T 6 t = w at *
        have thB : ∀ M', GA b n T e D M' → w = 14 ∨ w = 15 ∨ w = 16 → Fr tpX q0 M M' → CS e M' (.inl (5, T 4 t)) → ∃ N, f_X5_readStatement_B158 7 D (T 4 t) w M' = some N ∧ SQ b n T e D M N (.inl (5, T 4 t)) := by
          intro M' hA' hw' hF' hs'
          obtain ⟨N, f1, f2, f3, f4⟩ := fl M' hF' hA' _ hs' 1 (T 4 t) (by decide)
          unfold f_X5_readStatement_B158
          rw [c_thingB hA' w (T 4 t) (by rcases hw' with z | z | z <;> rw [z] <;> decide) (by rcases hw' with z | z | z <;> rw [z] <;> decide) (by rcases hw' with z | z | z <;> rw [z] <;> decide) (by rcases hw' with z | z | z <;> rw [z] <;> decide) (by rcases hw' with z | z | z <;> rw [z] <;> decide) (by rcases hw' with z | z | z <;> rw [z] <;> decide) (by rcases hw' with z | z | z <;> rw [z] <;> decide) (by rcases hw' with z | z | z <;> rw [z] <;> decide), f1]
          exact ⟨N, rfl, f2, f3, f4⟩
        have rul : ∀ wh, wh < 3 → d.2.2 wh = none → ∀ f, CPR T e (pr3 D wh) f (if wh = 0 then pTest 0 T 6 else pSum wh T 6) → ∃ N, f M1 = some N ∧ SQ b n T e D M N (codeR T d wh (T 4 t) (t + 1)) := fun wh hw2 hn f hf2 => c_rule hL hE hR hD hw2 a2 hA1 hC1 a3 hn hf2 (T 4 t)
        by_cases w14 : w = 14
        · rw [if_pos w14, g6, Option.bind_some]
          obtain ⟨x, N, n1, n2⟩ := c_isNew (wh := 0) hD (by decide) a2 hA1 hC1 hg a3 (T 4 t)
          rw [n1]
          dsimp only [Option.bind_some]
          have sp : (if w = 0 then sb (numR T 5 60 (t + 1)) fun v t => .inr (((v, d.1.2), d.2), t) else if w = 1 then gateR b T sa sz d (T 4 t) (t + 1) else if w = 3 then placeR b T sa sz d (T 4 t) (t + 1) else if w = 4 then wayR b T sa sz d false (T 4 t) (t + 1) else if w = 7 then wayR b T sa sz d true (T 4 t) (t + 1) else if w = 9 then eraR b T sa sz d (T 4 t) (t + 1) else if w = 13 then carR b T sa sz d (T 4 t) (t + 1) else if w = 14 then codeR T d 0 (T 4 t) (t + 1) else if w = 15 then codeR T d 1 (T 4 t) (t + 1) else if w = 16 then codeR T d 2 (T 4 t) (t + 1) else if w = 17 then sb (numR T 0 100 (t + 1)) fun v t => .inr (((d.1.1, v), d.2), t) else .inl (1, T 4 t)) = codeR T d 0 (T 4 t) (t + 1) := by rw [w14]; rfl
          rw [sp]
          rcases n2 with ⟨i1, x0, i2, i3, i4⟩ | ⟨i1, x1, rfl⟩
          · rw [x0, if_pos rfl]
            unfold f_X5_readStatement_B90 f_X5_readStatement_B124
            rw [if_neg (by rw [w14]; decide), if_neg (by rw [w14]; decide)]
            unfold codeR
            rw [if_pos i1]
            exact thB N i3 (Or.inl w14) i2 i4
          · rw [x1, if_neg (by decide), g6, Option.bind_some]
            obtain ⟨O, o1, o2⟩ := rul 0 (by decide) i1 _ (cp_test0 hE hR (pr3_in hD (by decide)) (wh := 0) (by decide))
            replace o1 : F_parser 64 0 7 (pr3 D 0) 1838080 0 0 N = some O := o1
            rw [o1]
            exact ⟨O, rfl, o2⟩
        · rw [if_neg w14]
          unfold f_X5_readStatement_B90
          by_cases w15 : w = 15
          · rw [if_pos w15, g7, Option.bind_some]
            obtain ⟨x, N, n1, n2⟩ := c_isNew (wh := 1) hD (by decide) a2 hA1 hC1 hg a3 (T 4 t)
            rw [n1]
            dsimp only [Option.bind_some]
            have sp : (if w = 0 then sb (numR T 5 60 (t + 1)) fun v t => .inr (((v, d.1.2), d.2), t) else if w = 1 then gateR b T sa sz d (T 4 t) (t + 1) else if w = 3 then placeR b T sa sz d (T 4 t) (t + 1) else if w = 4 then wayR b T sa sz d false (T 4 t) (t + 1) else if w = 7 then wayR b T sa sz d true (T 4 t) (t + 1) else if w = 9 then eraR b T sa sz d (T 4 t) (t + 1) else if w = 13 then carR b T sa sz d (T 4 t) (t + 1) else if w = 14 then codeR T d 0 (T 4 t) (t + 1) else if w = 15 then codeR T d 1 (T 4 t) (t + 1) else if w = 16 then codeR T d 2 (T 4 t) (t + 1) else if w = 17 then sb (numR T 0 100 (t + 1)) fun v t => .inr (((d.1.1, v), d.2), t) else .inl (1, T 4 t)) = codeR T d 1 (T 4 t) (t + 1) := by rw [w15]; rfl
            rw [sp]
            rcases n2 with ⟨i1, x0, i2, i3, i4⟩ | ⟨i1, x1, rfl⟩
            · rw [x0, if_pos rfl]
              unfold f_X5_readStatement_B124
              rw [if_neg (by rw [w15]; decide)]
              unfold codeR
              rw [if_pos i1]
              exact thB N i3 (Or.inr (Or.inl w15)) i2 i4
            · rw [x1, if_neg (by decide), g7, Option.bind_some]
              obtain ⟨O, o1, o2⟩ := rul 1 (by decide) i1 _ (cp_sum0 hE hR (pr3_in hD (by decide)) (wh := 1) (by decide))
              replace o1 : F_parser 64 3 7 (pr3 D 1) 6327296 0 0 N = some O := o1
              rw [o1]
              exact ⟨O, rfl, o2⟩
          · rw [if_neg w15]
            unfold f_X5_readStatement_B124
            by_cases w16 : w = 16
            · rw [if_pos w16, g8, Option.bind_some]
              obtain ⟨x, N, n1, n2⟩ := c_isNew (wh := 2) hD (by decide) a2 hA1 hC1 hg a3 (T 4 t)
              rw [n1]
              dsimp only [Option.bind_some]
              have sp : (if w = 0 then sb (numR T 5 60 (t + 1)) fun v t => .inr (((v, d.1.2), d.2), t) else if w = 1 then gateR b T sa sz d (T 4 t) (t + 1) else if w = 3 then placeR b T sa sz d (T 4 t) (t + 1) else if w = 4 then wayR b T sa sz d false (T 4 t) (t + 1) else if w = 7 then wayR b T sa sz d true (T 4 t) (t + 1) else if w = 9 then eraR b T sa sz d (T 4 t) (t + 1) else if w = 13 then carR b T sa sz d (T 4 t) (t + 1) else if w = 14 then codeR T d 0 (T 4 t) (t + 1) else if w = 15 then codeR T d 1 (T 4 t) (t + 1) else if w = 16 then codeR T d 2 (T 4 t) (t + 1) else if w = 17 then sb (numR T 0 100 (t + 1)) fun v t => .inr (((d.1.1, v), d.2), t) else .inl (1, T 4 t)) = codeR T d 2 (T 4 t) (t + 1) := by rw [w16]; rfl
              rw [sp]
              rcases n2 with ⟨i1, x0, i2, i3, i4⟩ | ⟨i1, x1, rfl⟩
              · rw [x0, if_pos rfl]
                unfold codeR
                rw [if_pos i1]
                exact thB N i3 (Or.inr (Or.inr w16)) i2 i4
              · rw [x1, if_neg (by decide), g8, Option.bind_some]
                obtain ⟨O, o1, o2⟩ := rul 2 (by decide) i1 _ (cp_sum0 hE hR (pr3_in hD (by decide)) (wh := 2) (by decide))
                replace o1 : F_parser 64 3 7 (pr3 D 2) 14680064 0 0 N = some O := o1
                rw [o1]
                exact ⟨O, rfl, o2⟩
            · rw [if_neg w16, if_neg w14, if_neg w15, if_neg w16]
              unfold f_X5_readStatement_B158
              have tbl : ∀ R f, (∃ N, f = some N ∧ SE e D M1 N R) → (∀ d' t', R = .inr (d', t') → d'.1 = d.1 ∧ d'.2.2 = d.2.2) → ∃ N, (f.bind fun M3 => some M3) = some N ∧ SQ b n T e D M N R := by
                rintro R f ⟨N, z1, z2⟩ hR'
                rw [z1]
                exact ⟨N, rfl, SE.sq hD a2 hA1 hC1 hR' z2⟩
              have bb : ∀ f : Option sMem, ((f.bind fun M2 => some M2).bind fun M3 => some M3) = f.bind fun M2 => some M2 := fun f => by cases f <;> rfl
              by_cases w0 : w = 0
              · rw [if_pos w0]
                unfold f_X5_readThing
                rw [sr7 hc1, if_pos w0, gr7_0 hc1, Option.bind_some]
                obtain ⟨N, k1, k2⟩ := c_dnum hD a2 hA1 hC1 a3 5 60 0 (Or.inl rfl)
                rw [k1]
                exact ⟨N, rfl, by simpa only [if_true] using k2⟩
              · rw [if_neg w0]
                by_cases w1 : w = 1
                · rw [if_pos w1]
                  unfold f_X5_readThing
                  rw [sr7 hc1, if_neg w0, if_pos w1, bb]
                  exact tbl _ _ (c_gate hL hD hG hB1 a3 hC1.2.1 _) (fun _ _ z => gateR_12 z)
                · rw [if_neg w1]
                  by_cases w3 : w = 3
                  · rw [if_pos w3]
                    unfold f_X5_readThing
                    rw [sr7 hc1, if_neg w0, if_neg w1, if_neg (by rw [w3]; decide), if_pos w3, bb]
                    exact tbl _ _ (c_place1 hL hD hG hB1 a3 _) (fun _ _ z => placeR_12 z)
                  · rw [if_neg w3]
                    by_cases w4 : w = 4
                    · rw [if_pos w4]
                      unfold f_X5_readThing
                      rw [sr7 hc1, if_neg w0, if_neg w1, if_neg (by rw [w4]; decide), if_neg w3, if_pos w4, bb]
                      exact tbl _ _ (c_way hL hD hG hB1 a3 false _) (fun _ _ z => wayR_12 z)
                    · rw [if_neg w4]
                      by_cases w7 : w = 7
                      · rw [if_pos w7]
                        unfold f_X5_readThing
                        rw [sr7 hc1, if_neg w0, if_neg w1, if_neg (by rw [w7]; decide), if_neg w3, if_neg w4, if_neg (by rw [w7]; decide), if_neg (by rw [w7]; decide), if_pos w7, bb]
                        exact tbl _ _ (c_way hL hD hG hB1 a3 true _) (fun _ _ z => wayR_12 z)
                      · rw [if_neg w7]
                        by_cases w9 : w = 9
                        · rw [if_pos w9]
                          unfold f_X5_readThing
                          rw [sr7 hc1, if_neg w0, if_neg w1, if_neg (by rw [w9]; decide), if_neg w3, if_neg w4, if_neg (by rw [w9]; decide), if_neg (by rw [w9]; decide), if_neg w7, if_neg (by rw [w9]; decide), if_pos w9, bb]
                          exact tbl _ _ (c_era hL hD hG hB1 a3 _) (fun _ _ z => eraR_12 z)
                        · rw [if_neg w9]
                          by_cases w13 : w = 13
                          · rw [if_pos w13]
                            unfold f_X5_readThing
                            rw [sr7 hc1, if_neg w0, if_neg w1, if_neg (by rw [w13]; decide), if_neg w3, if_neg w4, if_neg (by rw [w13]; decide), if_neg (by rw [w13]; decide), if_neg w7, if_neg (by rw [w13]; decide), if_neg w9, if_neg (by rw [w13]; decide), if_neg (by rw [w13]; decide), if_neg (by rw [w13]; decide), if_pos w13, bb]
                            exact tbl _ _ (c_car hL hD hG hB1 a3 _) (fun _ _ z => carR_12 z)
                          · rw [if_neg w13]
                            by_cases w17 : w = 17
                            · rw [if_pos w17]
                              unfold f_X5_readThing f_X5_readThing_B175
                              simp only [sr7 hc1, if_neg w0, if_neg w1, if_neg w3, if_neg w4, if_neg w7, if_neg w9, if_neg w13, if_pos w17, if_neg w14, if_neg w15, if_neg w16, if_neg (show ¬ w = 2 by rw [w17]; decide), if_neg (show ¬ w = 5 by rw [w17]; decide), if_neg (show ¬ w = 6 by rw [w17]; decide), if_neg (show ¬ w = 8 by rw [w17]; decide), if_neg (show ¬ w = 10 by rw [w17]; decide), if_neg (show ¬ w = 11 by rw [w17]; decide), if_neg (show ¬ w = 12 by rw [w17]; decide), gr7_0 hc1, Option.bind_some]
                              obtain ⟨N, k1, k2⟩ := c_dnum hD a2 hA1 hC1 a3 0 100 9 (Or.inr rfl)
                              rw [k1]
                              exact ⟨N, rfl, by simpa only [show ¬ (9 : Nat) = 0 by decide, if_false] using k2⟩
                            · rw [if_neg w17, c_thingB hA1 w (T 4 t) w0 w1 w3 w4 w7 w9 w13 w17]
                              obtain ⟨N, f1, f2, f3, f4⟩ := fl M1 a2 hA1 _ a3 1 (T 4 t) (by decide)
                              rw [f1]
                              exact ⟨N, rfl, f2, f3, f4⟩
      · rw [if_neg (fun z => hf (eif.mp z)), if_neg (fun z => hf z.2.2)]; exact B37
  · rw [if_neg h3, if_pos rfl, if_neg (fun z => h3 z.1)]; exact B37
end CS5
