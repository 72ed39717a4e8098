section CW
variable {M : sMem} {p q n : Nat} {cs : List Nat} {env : Nat → Int} {b : Bool}
theorem c_run (hc : ClsS M.1 M.2.2.2) (hp : Prg M p q n cs) (hq : q ≠ 72 ∧ q ≠ 68) (hpn : p ≠ 72 ∧ p ≠ 68)
    (he : Env env (shC M.2.1) (drC M.2.1) cs) (hv : ∀ c ∈ cs, 40 ≤ c → c < 53 → (M.2.1 69 (wd (c - 40))).toInt = env (c - 40)) (hty : tyA cs [] = some [b]) :
    ∃ r N, f_X2_run 68 p M = some (r, N) ∧ evA env (shC M.2.1) (drC M.2.1) cs [] = [r.toInt] ∧ Vok b r.toInt ∧ Fr pR1 q0 M N := by
  unfold f_X2_run f_X2_run_L7 f_X2_run_B162
  simp (disch := first | exact hs | exact hc | exact hD | omega | (simp only [wrI_sh, wrI_rf, wrJ_sh, wrJ_rf]; first | exact hs | exact hc)) only [gi68, gj68, pi68, pj68, pr68, sr68, gr68_0, gr68_1, gr68_2, gr68_3, nlit, nneg, nI_add, pk_mul, nsub, Option.bind_some, if_true, if_false, Nat.reduceEqDiff, Nat.reduceLeDiff, Nat.reduceLT, Nat.reduceAdd, Nat.reduceMul, Nat.reduceSub]
  have hlen := hp.2.2.2.2.1
  have hlen2 := hp.2.2.2.2.2.1
  obtain ⟨N, h1, h2, s, T, h3, h4, h5, h6, h7, h8⟩ := itr_up (f := fun a : (Int32 × sMem) => f_X2_run_K7 68 p a.1 a.2)
    (fun k N => Fr pR1 q0 M N ∧ ∃ (s : List Int) (T : List Bool), N.2.1 68 4 = nI s.length ∧ Stk (fun i => (N.2.1 72 i).toInt) s ∧ Tyd T s ∧ T.length ≤ 60 ∧ tyA (cs.drop k) T = some [b] ∧ evA env (shC M.2.1) (drC M.2.1) cs [] = evA env (shC M.2.1) (drC M.2.1) (cs.drop k) s)
    (fun N => Fr pR1 q0 M N ∧ ∃ (s : List Int) (T : List Bool), N.2.1 68 4 = nI s.length ∧ Stk (fun i => (N.2.1 72 i).toInt) s ∧ Tyd T s ∧ T.length ≤ 60 ∧ tyA [] T = some [b] ∧ evA env (shC M.2.1) (drC M.2.1) cs [] = evA env (shC M.2.1) (drC M.2.1) [] s)
    cs.length (by omega) (i := 0) (s := wrI M 68 4 (nI 0)) (by
      rintro k N hk ⟨hF, s, T, h1, h2, h3, h4, h5, h6⟩
      have hpN : Prg N p q n cs := by
        obtain ⟨a1, a2, a3, a4, a5, a6, a7⟩ := hp
        have z1 : pR1 p 1 = false := by unfold pR1; simp [hpn.1]
        have z2 : ∀ i, pR1 q i = false := fun i => by unfold pR1; simp [hq.1, hq.2]
        exact ⟨by rw [hF.1]; exact a1, by rw [hF.2.1]; exact a2, by rw [hF.1]; exact a3, by rw [hF.2.2.1 _ _ z1]; exact a4, a5, a6, fun i hi => by rw [hF.2.2.1 _ _ (z2 i)]; exact a7 i hi⟩
      have e1 : shC N.2.1 = shC M.2.1 := by funext v; unfold shC; rw [hF.2.2.1 70 _ rfl]
      have e2 : drC N.2.1 = drC M.2.1 := by funext v; unfold drC; rw [hF.2.2.1 71 _ rfl]
      rcases Nat.lt_or_ge k cs.length with hlt | hge
      · left
        refine ⟨hlt, ?_⟩
        have hd : cs.drop k = cs[k] :: cs.drop (k + 1) := List.drop_eq_getElem_cons hlt
        rw [hd] at h5 h6
        have h5' : (tyS cs[k] T).bind (fun T' => if T'.length ≤ 60 then tyA (cs.drop (k + 1)) T' else none) = some [b] := h5
        cases hty2 : tyS cs[k] T with
        | none => rw [hty2] at h5'; cases h5'
        | some T' =>
          rw [hty2, Option.bind_some] at h5'
          by_cases hl : T'.length ≤ 60
          · rw [if_pos hl] at h5'
            obtain ⟨N', g1, g2, g3, g4, g5⟩ := c_run_step (env := env) (hF.hc hc) hpN hq hpn hlt (by rw [e1, e2]; exact he) (fun c hc h40 h53 => by rw [hF.2.2.1 69 _ rfl]; exact hv c hc h40 h53) h1 h2 h3 h4 hty2 hl
            rw [e1, e2] at g3 g4 g5
            exact ⟨N', g1, hF.tr g2, _, T', g3, g4, g5, hl, h5', h6⟩
          · rw [if_neg hl] at h5'; cases h5'
      · right
        obtain rfl : k = cs.length := by omega
        refine ⟨N, ?_, hF, s, T, h1, h2, h3, h4, by rw [List.drop_length] at h5; exact h5, by rw [List.drop_length] at h6; exact h6⟩
        dsimp only
        unfold f_X2_run_K7
        rw [gI_of hpN.1, Option.bind_some, hpN.2.2.2.1, if_pos (by rw [cle (by omega) (by omega)]; omega)])
    (by omega) ⟨Fr.rf.wi rfl, [], [], wrI_eq, trivial, trivial, by decide, by rw [List.drop_zero]; exact hty, by rw [List.drop_zero]⟩
  rw [h1, Option.bind_some]
  obtain rfl := Option.some.inj h7
  match s, h5 with
  | [v], h5 =>
  have hpop := c_pop (h2.hc hc) h3 (by decide)
  rw [hpop]
  refine ⟨_, _, rfl, ?_, ?_, h2.wi rfl⟩
  · rw [h8]
    show [v] = [(N.2.1 72 0).toInt]
    rw [show (N.2.1 72 0).toInt = v from h4.1]
  · show Vok b (N.2.1 72 0).toInt
    rw [show (N.2.1 72 0).toInt = v from h4.1]
    exact h5.1
end CW
