/-! THE REFERENCE tells a question -/
section RQS
variable {N : sMem} {k c : Nat} {s : List Int} {T T' : List Bool} {env : Nat → Int} {sh dr : Int → Int}
/-- one code of a question -/
theorem r_q_step {car en : Nat} (hs : RefS N.1 N.2.2.2) (hend : N.2.1 94 116 = nI en) (hk : k < en) (hen : en ≤ 1600) (hcode : N.2.1 183 k = nI c)
    (hpt : 40 ≤ c → c < 53 → ∃ x, f_X12_qPartOf 94 (nI (c - 40)) (nI car) N = some x ∧ x.toInt = env (c - 40)) (he : Env env sh dr [c])
    (ht : N.2.1 94 122 = nI s.length) (hS : Stk (fun i => (N.2.2.1 185 i).toInt) s) (hT : Tyd T s) (hl : T.length ≤ 60) (hty : tyS c T = some T') (hl' : T'.length ≤ 60) (hof : c = 60 ∨ c = 61 → ∀ y : Int64, -1000000 ≤ y.toInt → y.toInt ≤ 1000000 → ∃ x, f_X12_qOf 94 (nI (c - 60)) y (nI car) N = some x ∧ x.toInt = if c = 60 then sh y.toInt else dr y.toInt) :
    ∃ N', f_X12_qTold_K7 94 (nI car) (nI k) N = some (.inl (nI (k + 1), N')) ∧ Fr pR2 qR2 N N' ∧ N'.2.1 94 122 = nI (evS env sh dr c s).length ∧ Stk (fun i => (N'.2.2.1 185 i).toInt) (evS env sh dr c s) ∧ Tyd T' (evS env sh dr c s) := by
  have hTl := hT.len
  have hev := ev_ty he hty hT
  unfold f_X12_qTold_K7 f_X12_qTold_B162 f_X12_qTold_B91
  rw [gi94 hs, Option.bind_some, hend, if_neg (by rw [cle (by omega) (by omega)]; omega), gr94_115 hs, Option.bind_some, ld183 hs (by omega), Option.bind_some, hcode, nl 1000, nl 60, nl 40, nl 13, nl 12, nl 1, nI_add]
  have hc11 : c < 11000 := by
    rcases ty_cases hty with ⟨h1, h2, _⟩ | ⟨h1, _⟩ | ⟨h1, h2, _⟩ | ⟨rfl, _⟩ | ⟨rfl, _⟩ | ⟨h1, h2, _⟩ <;> omega
  simp (disch := omega) only [clt, ceq]
  rcases ty_cases hty with ⟨h1, h2, rfl⟩ | ⟨h1, t, rfl, rfl⟩ | ⟨h1, h2, rfl⟩ | ⟨rfl, rfl⟩ | ⟨rfl, t, rfl, rfl⟩ | ⟨h1, h2, t, rfl, rfl⟩
  · have eev : evS env sh dr c s = ((c - 1000 : Nat) : Int) :: s := by unfold evS; rw [if_pos h1]
    rw [eev] at hev ⊢
    rw [if_neg (by omega), nsub h1]
    obtain ⟨N', g1, g2, g3, g4⟩ := r_put hs (nI (c - 1000)).toInt64 Fr.rf ht (by omega) hS
    rw [i64, nI_i (by omega)] at g3 g4
    rw [g1]
    exact ⟨N', rfl, g2, g3, g4, hev⟩
  · match s, hT with
    | v :: s, hT =>
    have hl2 : t.length = s.length := (Tyd.len hT.2).symm
    have hl3 : t.length + 1 ≤ 60 := hl
    have eev : evS env sh dr c (v :: s) = (if c = 60 then sh v else dr v) :: s := by unfold evS; rw [if_neg (by omega), if_pos (by omega)]
    rw [eev] at hev ⊢
    have ht' : N.2.1 94 122 = nI (s.length + 1) := ht
    have e1 : nI (s.length + 1) - nI 1 = nI s.length := nsub (a := s.length + 1) (b := 1) (by omega)
    have h4 : (N.2.2.1 185 s.length).toInt = v := hS.1
    have hvr := hT.1.2 rfl
    obtain ⟨x, x1, x2⟩ := hof h1 (N.2.2.1 185 s.length) (by rw [h4]; exact hvr.1) (by rw [h4]; exact hvr.2)
    rw [h4] at x2
    obtain ⟨r, r1, r2⟩ := r_clip (M := N) x
    have hrg := (he c List.mem_cons_self).2 (by omega) (by omega) v
    have hr : r.toInt = if c = 60 then sh v else dr v := by
      rw [r2, x2]
      unfold clp
      by_cases q : c = 60
      · rw [if_pos q, if_neg (by omega), if_neg (by omega)]
      · rw [if_neg q, if_neg (by omega), if_neg (by omega)]
    rw [if_pos (by omega), if_neg (by omega), gr94_121 hs, Option.bind_some, gi94 hs, Option.bind_some, Option.bind_some, ht', Option.bind_some, e1, ld185 hs (by omega), Option.bind_some, nsub (by omega), x1, Option.bind_some, r1, Option.bind_some, st185 hs (by omega), Option.bind_some]
    refine ⟨_, rfl, Fr.rf.wj (a := 185) rfl, ht', ⟨?_, hS.2.cong (fun i hi => ?_)⟩, hev⟩
    · show ((wrJ N 185 s.length _).2.2.1 185 s.length).toInt = _
      rw [wrJ_eq, hr]
    · show ((wrJ N 185 s.length _).2.2.1 185 i).toInt = (N.2.2.1 185 i).toInt
      rw [wrJ_ne (by omega)]
  · have eev : evS env sh dr c s = env (c - 40) :: s := by unfold evS; rw [if_neg (by omega), if_neg (by omega), if_pos h1]
    rw [eev] at hev ⊢
    rw [if_pos (by omega), if_pos (by omega), if_neg (by omega), nsub h1]
    obtain ⟨x, e1, e2⟩ := hpt h1 h2
    obtain ⟨r, r1, r2⟩ := r_clip (M := N) x
    have hrg := (he c List.mem_cons_self).1 h1 h2
    have hr : r.toInt = env (c - 40) := by
      rw [r2, e2]
      unfold clp
      rw [if_neg (by omega), if_neg (by omega)]
    obtain ⟨N', g1, g2, g3, g4⟩ := r_put hs r Fr.rf ht (by omega) hS
    rw [hr] at g3 g4
    rw [e1, Option.bind_some, r1, Option.bind_some, g1, Option.bind_some]
    unfold f_X12_qTold_B162
    rw [nl 1, nI_add]
    exact ⟨N', rfl, g2, g3, g4, hev⟩
  · have eev : evS env sh dr 13 s = 1 :: s := rfl
    rw [eev] at hev ⊢
    rw [if_pos (by decide), if_pos (by decide), if_pos (by decide), if_pos rfl]
    obtain ⟨N', g1, g2, g3, g4⟩ := r_put hs (1 : Int64) Fr.rf ht (by omega) hS
    rw [g1]
    exact ⟨N', rfl, g2, g3, g4, hev⟩
  · match s, hT with
    | v :: s, hT =>
    have eev : evS env sh dr 12 (v :: s) = (1 - v) :: s := rfl
    have hl2 : t.length = s.length := (Tyd.len hT.2).symm
    have hl3 : t.length + 1 ≤ 60 := hl
    rw [eev] at hev ⊢
    have ht' : N.2.1 94 122 = nI (s.length + 1) := ht
    have e1 : nI (s.length + 1) - nI 1 = nI s.length := nsub (a := s.length + 1) (b := 1) (by omega)
    rw [if_pos (by decide), if_pos (by decide), if_pos (by decide), if_neg (by decide), if_pos rfl, gr94_121 hs, Option.bind_some, gi94 hs, Option.bind_some, Option.bind_some, ht', Option.bind_some, e1, ld185 hs (by omega), Option.bind_some, st185 hs (by omega), Option.bind_some]
    have hv : ((1 : Int64) - N.2.2.1 185 s.length).toInt = 1 - v := by
      have h4 : (N.2.2.1 185 s.length).toInt = v := hS.1
      have := hT.1.1 rfl
      rw [Int64.toInt_sub, h4, show (1 : Int64).toInt = 1 from rfl, b64 (by omega) (by omega)]
    refine ⟨_, rfl, Fr.rf.wj (a := 185) rfl, ht', ⟨?_, hS.2.cong (fun i hi => ?_)⟩, hev⟩
    · show ((wrJ N 185 s.length _).2.2.1 185 s.length).toInt = 1 - v
      rw [wrJ_eq, hv]
    · show ((wrJ N 185 s.length _).2.2.1 185 i).toInt = (N.2.2.1 185 i).toInt
      rw [wrJ_ne (by omega)]
  · match s, hT with
    | b :: a :: s, hT =>
    have hl2 : t.length = s.length := (Tyd.len hT.2.2).symm
    have hl3 : t.length + 1 + 1 ≤ 60 := hl
    have eev : evS env sh dr c (b :: a :: s) = opI c a b :: s := by
      unfold evS; rw [if_neg (by omega), if_neg (by omega), if_neg (by omega), if_neg (by omega), if_neg (by omega)]
    rw [eev] at hev ⊢
    rw [if_pos (by omega), if_pos (by omega), if_pos (by omega), if_neg (by omega), if_neg (by omega)]
    have ht' : N.2.1 94 122 = nI (s.length + 2) := ht
    have ha : (N.2.2.1 185 s.length).toInt = a := hS.2.1
    have hb : (N.2.2.1 185 (s.length + 1)).toInt = b := hS.1
    obtain ⟨r, g1, g2⟩ := r_joins hs ht' (by omega) h1 h2 (by rw [ha]; exact hT.2.1) (by rw [hb]; exact hT.1)
    rw [g1, Option.bind_some]
    rw [ha, hb] at g2
    refine ⟨_, rfl, ((Fr.rf.wi rfl).wj (a := 185) rfl).wi rfl, wrI_eq, ⟨?_, hS.2.2.cong (fun i hi => ?_)⟩, hev⟩
    · show ((wrJ (wrI N 94 122 _) 185 s.length r).2.2.1 185 s.length).toInt = _
      rw [wrJ_eq, g2]
    · show ((wrJ (wrI N 94 122 _) 185 s.length r).2.2.1 185 i).toInt = (N.2.2.1 185 i).toInt
      rw [wrJ_ne (by omega)]; rfl
end RQS
