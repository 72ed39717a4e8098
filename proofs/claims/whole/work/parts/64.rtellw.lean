def pR3 : Nat → Nat → Bool := fun a k => a == 94 && (k == 122 || k == 58)
theorem envR_cong {u u' : Nat → Nat → Int32} {wt : Int} {e c : Nat} (h : ∀ a k, pR3 a k = false → u' a k = u a k) : envR u' wt e c = envR u wt e c := by
  funext k
  unfold envR
  rw [h 94 61 rfl, h 94 62 rfl, h 94 64 rfl, h 135 _ rfl, h 135 _ rfl, h 140 _ rfl, h 140 _ rfl, h 140 _ rfl, h 140 _ rfl, h 140 _ rfl, h 136 _ rfl]
section RW
variable {M : sMem} {cs : List Nat} {b : Bool} {wh car e fr : Nat} {wt : Int} {sh dr : Int → Int}
theorem r_tell (hs : RefS M.1 M.2.2.2) (hw : wh < 3) (hfr : M.2.1 137 (3 + wh) = nI fr) (hend : M.2.1 138 (3 + wh) = nI (fr + cs.length)) (hen : fr + cs.length ≤ 1600) (hcode : ∀ (i : Nat) (h : i < cs.length), M.2.1 139 (1600 + (fr + i)) = nI cs[i]) (hcar : car < 5)
    (hE : ∀ c ∈ cs, c = 42 ∨ c = 43 ∨ c = 45 → M.2.1 94 63 = nI e ∧ e < 5) (hwt : wt = (M.2.2.1 94 65).toInt) (he : Env (envR M.2.1 wt e car) sh dr cs) (hty : tyA cs [] = some [b]) (h60 : ∀ c ∈ cs, c < 60 ∨ 1000 ≤ c) :
    ∃ x N, f_X12_codesTell 94 (nI wh) (nI car) M = some (x, N) ∧ evA (envR M.2.1 wt e car) sh dr cs [] = [x.toInt] ∧ Vok b x.toInt ∧ Fr pR3 qR2 M N := by
  unfold f_X12_codesTell f_X12_codesTell_L19 f_X12_codesTell_B150
  have f0 : Fr pR3 qR2 M (wrI (wrI M 94 58 (nI wh)) 94 122 (nI 0)) := (Fr.rf.wi (a := 94) (k := 58) rfl).wi rfl
  rw [sr94 hs, pi94 hs, Option.bind_some, pi94 (M := wrI M 94 58 (nI wh)) hs, Option.bind_some, gr94_52 (M := wrI (wrI M 94 58 (nI wh)) 94 122 0) hs, Option.bind_some, nl 3, nI_add, ld137 (M := wrI (wrI M 94 58 (nI wh)) 94 122 0) hs (by omega), Option.bind_some, wrI_ne (by omega), wrI_ne (by omega), hfr]
  obtain ⟨N, h1, h2, s, T, h3, h4, h5, h6, h7, h8⟩ := itr_up (f := fun a : (Int32 × sMem) => f_X12_codesTell_K19 94 (nI wh) (nI car) a.1 a.2)
    (fun k N => Fr pR3 qR2 M N ∧ fr ≤ k ∧ N.2.1 94 58 = nI wh ∧ ∃ (s : List Int) (T : List Bool), N.2.1 94 122 = nI s.length ∧ Stk (fun i => (N.2.2.1 185 i).toInt) s ∧ Tyd T s ∧ T.length ≤ 60 ∧ tyA (cs.drop (k - fr)) T = some [b] ∧ evA (envR M.2.1 wt e car) sh dr cs [] = evA (envR M.2.1 wt e car) sh dr (cs.drop (k - fr)) s)
    (fun N => Fr pR3 qR2 M N ∧ ∃ (s : List Int) (T : List Bool), N.2.1 94 122 = nI s.length ∧ Stk (fun i => (N.2.2.1 185 i).toInt) s ∧ Tyd T s ∧ T.length ≤ 60 ∧ tyA [] T = some [b] ∧ evA (envR M.2.1 wt e car) sh dr cs [] = evA (envR M.2.1 wt e car) sh dr [] s)
    (fr + cs.length) (by omega) (i := fr) (s := wrI (wrI M 94 58 (nI wh)) 94 122 (nI 0)) (by
      rintro k N hk ⟨hF, hfk, hk58, s, T, h1, h2, h3, h4, h5, h6⟩
      rcases Nat.lt_or_ge k (fr + cs.length) with hlt | hge
      · left
        refine ⟨hlt, ?_⟩
        have hlt' : k - fr < cs.length := by omega
        have hd : cs.drop (k - fr) = cs[k - fr] :: cs.drop (k + 1 - fr) := by rw [List.drop_eq_getElem_cons hlt', show k - fr + 1 = k + 1 - fr by omega]
        rw [hd] at h5 h6
        have hm : cs[k - fr] ∈ cs := mem_drop hlt'
        have h5' : (tyS cs[k - fr] T).bind (fun T' => if T'.length ≤ 60 then tyA (cs.drop (k + 1 - fr)) T' else none) = some [b] := h5
        cases hty2 : tyS cs[k - fr] T with
        | none => rw [hty2] at h5'; cases h5'
        | some T' =>
          rw [hty2, Option.bind_some] at h5'
          by_cases hl : T'.length ≤ 60
          · rw [if_pos hl] at h5'
            have hcd : N.2.1 139 (1600 + k) = nI cs[k - fr] := by
              have := hcode (k - fr) hlt'
              rw [show fr + (k - fr) = k by omega] at this
              rw [hF.2.2.1 139 _ rfl]; exact this
            have hpt : 40 ≤ cs[k - fr] → cs[k - fr] < 53 → ∃ x, f_X12_qPartOf 94 (nI (cs[k - fr] - 40)) (nI car) N = some x ∧ x.toInt = envR M.2.1 wt e car (cs[k - fr] - 40) := by
              intro a1 a2
              rw [← envR_cong (fun a k q => hF.2.2.1 a k q)]
              refine r_part (hF.hs hs) (by omega) hcar (fun q => ?_) (fun q => Or.inr ⟨?_, ?_⟩)
              · rw [hF.2.2.1 94 63 rfl]
                exact hE _ hm (by omega)
              · rw [hk58]
                intro q
                rw [nl 3, ceq (by omega) (by omega)] at q
                omega
              · rw [hF.2.2.2 94 65 rfl]; exact hwt
            obtain ⟨N', g1, g2, g3, g4, g5⟩ := r_tell_step (env := envR M.2.1 wt e car) (sh := sh) (dr := dr) (en := fr + cs.length) (c := cs[k - fr]) (hF.hs hs) hw (by rw [hF.2.2.1 138 _ rfl]; exact hend) hlt hen hcd hpt (fun c hc => he c (by rw [List.mem_singleton.mp hc]; exact hm)) h1 h2 h3 h4 hty2 hl (h60 _ hm)
            have g2' : Fr pR3 qR2 N N' := g2.mono (fun a k q => by unfold pR3 at q; unfold pR2; revert q; cases (a == 94) <;> cases (k == 122) <;> simp) (fun a k q => q)
            exact ⟨N', g1, hF.tr g2', by omega, by rw [g2.2.2.1 94 58 rfl]; exact hk58, _, T', g3, g4, g5, hl, h5', h6⟩
          · rw [if_neg hl] at h5'; cases h5'
      · right
        obtain rfl : k = fr + cs.length := by omega
        refine ⟨N, ?_, hF, s, T, h1, h2, h3, h4, by rw [show fr + cs.length - fr = cs.length by omega, List.drop_length] at h5; exact h5, by rw [show fr + cs.length - fr = cs.length by omega, List.drop_length] at h6; exact h6⟩
        dsimp only
        unfold f_X12_codesTell_K19
        rw [gr94_53 (hF.hs hs), Option.bind_some, nl 3, nI_add, ld138 (hF.hs hs) (by omega), Option.bind_some, hF.2.2.1 138 _ rfl, hend, if_pos (by rw [cle (by omega) (by omega)]; omega)])
    (by omega) ⟨f0, by omega, by rw [wrI_ne (by omega), wrI_eq], [], [], wrI_eq, trivial, trivial, by decide, by rw [Nat.sub_self, List.drop_zero]; exact hty, by rw [Nat.sub_self, List.drop_zero]⟩
  rw [← nl 0] at h1
  rw [h1, Option.bind_some]
  obtain rfl := Option.some.inj h7
  match s, h5 with
  | [v], h5 =>
  have h41 : (N.2.2.1 185 0).toInt = v := h4.1
  rw [gr94_121 (h2.hs hs), Option.bind_some, nl 0, ld185 (h2.hs hs) (by decide), Option.bind_some]
  refine ⟨_, _, rfl, ?_, ?_, h2⟩
  · rw [h8, h41]; rfl
  · rw [h41]; exact h5.1
end RW
