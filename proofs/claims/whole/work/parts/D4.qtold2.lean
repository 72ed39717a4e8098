/-! THE REFERENCE tells a question: all of it -/
section RQW
variable {M : sMem} {cs : List Nat} {b : Bool} {car e : Nat} {wt : Int} {sh dr : Int → Int}
/-- a question is told -/
theorem r_qtold (hs : RefS M.1 M.2.2.2) (h58 : M.2.1 94 58 = 3) (hend : M.2.1 94 116 = nI cs.length) (hen : cs.length ≤ 1600) (hcode : ∀ (i : Nat) (h : i < cs.length), M.2.1 183 i = nI cs[i]) (hcar : car < 5)
    (hE : ∀ c ∈ cs, c = 42 ∨ c = 43 ∨ c = 45 → M.2.1 94 63 = nI e ∧ e < 5) (hwt : wt = (M.2.1 142 car).toInt) (he : Env (envR M.2.1 wt e car) sh dr cs) (hty : tyA cs [] = some [b])
    (hof : ∀ c ∈ cs, c = 60 ∨ c = 61 → ∀ (N : sMem), Fr pR2 qR2 M N → ∀ y : Int64, -1000000 ≤ y.toInt → y.toInt ≤ 1000000 → ∃ x, f_X12_qOf 94 (nI (c - 60)) y (nI car) N = some x ∧ x.toInt = if c = 60 then sh y.toInt else dr y.toInt) :
    ∃ x N, f_X12_qTold 94 (nI car) M = some (x, N) ∧ evA (envR M.2.1 wt e car) sh dr cs [] = [x.toInt] ∧ Vok b x.toInt ∧ Fr pR2 qR2 M N := by
  unfold f_X12_qTold f_X12_qTold_L7 f_X12_qTold_B168
  have f0 : Fr pR2 qR2 M (wrI M 94 122 (nI 0)) := Fr.rf.wi rfl
  rw [sr94 hs, pi94 hs, Option.bind_some]
  obtain ⟨N, h1, h2, s, T, h3, h4, h5, h6, h7, h8⟩ := itr_up (f := fun a : (Int32 × sMem) => f_X12_qTold_K7 94 (nI car) a.1 a.2)
    (fun k N => Fr pR2 qR2 M N ∧ N.2.1 94 58 = 3 ∧ ∃ (s : List Int) (T : List Bool), N.2.1 94 122 = nI s.length ∧ Stk (fun i => (N.2.2.1 185 i).toInt) s ∧ Tyd T s ∧ T.length ≤ 60 ∧ tyA (cs.drop (k)) T = some [b] ∧ evA (envR M.2.1 wt e car) sh dr cs [] = evA (envR M.2.1 wt e car) sh dr (cs.drop (k)) s)
    (fun N => Fr pR2 qR2 M N ∧ ∃ (s : List Int) (T : List Bool), N.2.1 94 122 = nI s.length ∧ Stk (fun i => (N.2.2.1 185 i).toInt) s ∧ Tyd T s ∧ T.length ≤ 60 ∧ tyA [] T = some [b] ∧ evA (envR M.2.1 wt e car) sh dr cs [] = evA (envR M.2.1 wt e car) sh dr [] s)
    cs.length (by omega) (i := 0) (s := wrI M 94 122 (nI 0)) (by
      rintro k N hk ⟨hF, hk58, s, T, h1, h2, h3, h4, h5, h6⟩
      rcases Nat.lt_or_ge k cs.length with hlt | hge
      · left
        refine ⟨hlt, ?_⟩
        have hlt' : k < cs.length := hlt
        have hd : cs.drop k = cs[k] :: cs.drop (k + 1) := by rw [List.drop_eq_getElem_cons hlt']
        rw [hd] at h5 h6
        have hm : cs[k] ∈ cs := mem_drop hlt'
        have h5' : (tyS cs[k] T).bind (fun T' => if T'.length ≤ 60 then tyA (cs.drop (k + 1)) T' else none) = some [b] := h5
        cases hty2 : tyS cs[k] T with
        | none => rw [hty2] at h5'; cases h5'
        | some T' =>
          rw [hty2, Option.bind_some] at h5'
          by_cases hl : T'.length ≤ 60
          · rw [if_pos hl] at h5'
            have hcd : N.2.1 183 k = nI cs[k] := by
              rw [hF.2.2.1 183 _ rfl]; exact hcode k hlt'
            have hpt : 40 ≤ cs[k] → cs[k] < 53 → ∃ x, f_X12_qPartOf 94 (nI (cs[k] - 40)) (nI car) N = some x ∧ x.toInt = envR M.2.1 wt e car (cs[k] - 40) := by
              intro a1 a2
              rw [← envR_cong (fun a k q => hF.2.2.1 a k (by unfold pR3 at q; unfold pR2; revert q; cases (a == 94) <;> cases (k == 122) <;> simp))]
              refine r_part (hF.hs hs) (by omega) hcar (fun q => ?_) (fun q => Or.inl ⟨hk58, by rw [hF.2.2.1 142 _ rfl]; exact hwt⟩)
              · rw [hF.2.2.1 94 63 rfl]
                exact hE _ hm (by omega)
            obtain ⟨N', g1, g2, g3, g4, g5⟩ := r_q_step (env := envR M.2.1 wt e car) (sh := sh) (dr := dr) (en := cs.length) (c := cs[k]) (hF.hs hs) (by rw [hF.2.2.1 94 116 rfl]; exact hend) hlt hen hcd hpt (fun c hc => he c (by rw [List.mem_singleton.mp hc]; exact hm)) h1 h2 h3 h4 hty2 hl (fun q => hof _ hm q N hF)
            exact ⟨N', g1, hF.tr g2, by rw [g2.2.2.1 94 58 rfl]; exact hk58, _, T', g3, g4, g5, hl, h5', h6⟩
          · rw [if_neg hl] at h5'; cases h5'
      · right
        obtain rfl : k = cs.length := by omega
        refine ⟨N, ?_, hF, s, T, h1, h2, h3, h4, by rw [List.drop_length] at h5; exact h5, by rw [List.drop_length] at h6; exact h6⟩
        dsimp only
        unfold f_X12_qTold_K7
        rw [gi94 (hF.hs hs), Option.bind_some, hF.2.2.1 94 116 rfl, hend, if_pos (by rw [cle (by omega) (by omega)]; omega)])
    (by omega) ⟨f0, by rw [wrI_ne (by omega)]; exact h58, [], [], wrI_eq, trivial, trivial, by decide, by rw [List.drop_zero]; exact hty, by rw [List.drop_zero]⟩
  rw [← nl 0] at h1
  rw [h1, Option.bind_some]
  obtain rfl := Option.some.inj h7
  match s, h5 with
  | [v], h5 =>
  have h41 : (N.2.2.1 185 0).toInt = v := h4.1
  rw [gr94_121 (h2.hs hs), Option.bind_some, nl 0, ld185 (h2.hs hs) (by decide), Option.bind_some]
  refine ⟨_, _, rfl, ?_, ?_, h2⟩
  · rw [h8, h41]; rfl
  · rw [h41]; exact h5.1
end RQW
