/-! THE CLASS RUNS a program: the whole of it -/
def shC (u : Nat → Nat → Int32) (v : Int) : Int := if 0 ≤ v ∧ v < 6 then (u 70 v.toNat).toInt else 0
def drC (u : Nat → Nat → Int32) (v : Int) : Int := if 0 ≤ v ∧ v < 7 then (u 71 v.toNat).toInt else -1
def pR1 : Nat → Nat → Bool := fun a k => a == 72 || (a == 68 && k == 4)
/-- a program: its object p, its steps' cell q of n slots, its codes -/
def Prg (M : sMem) (p q n : Nat) (cs : List Nat) : Prop := M.1[p]? = some (6, 2) ∧ M.2.2.2 p 0 = some q ∧ M.1[q]? = some (14, n) ∧ M.2.1 p 1 = nI cs.length ∧ cs.length ≤ n ∧ n < 100000 ∧ ∀ (i : Nat) (h : i < cs.length), M.2.1 q i = trn cs[i]
theorem mem_drop {cs : List Nat} {k : Nat} (h : k < cs.length) : cs[k] ∈ cs := List.getElem_mem h
section CQ
variable {M : sMem} {p q n : Nat} {cs : List Nat} {env : Nat → Int}
theorem c_run_step {N : sMem} {k : Nat} {s : List Int} {T T' : List Bool} (hc : ClsS N.1 N.2.2.2) (hp : Prg N p q n cs) (hq : q ≠ 72 ∧ q ≠ 68) (hpn : p ≠ 72 ∧ p ≠ 68) (hk : k < cs.length)
    (he : Env env (shC N.2.1) (drC N.2.1) cs) (hv : ∀ c ∈ cs, 40 ≤ c → c < 53 → (N.2.1 69 (wd (c - 40))).toInt = env (c - 40))
    (ht : N.2.1 68 4 = nI s.length) (hS : Stk (fun i => (N.2.1 72 i).toInt) s) (hT : Tyd T s) (hl : T.length ≤ 60) (hty : tyS cs[k] T = some T') (hl' : T'.length ≤ 60) :
    ∃ N', f_X2_run_K7 68 p (nI k) N = some (.inl (nI (k + 1), N')) ∧ Fr pR1 q0 N N' ∧ N'.2.1 68 4 = nI (evS env (shC N.2.1) (drC N.2.1) cs[k] s).length ∧ Stk (fun i => (N'.2.1 72 i).toInt) (evS env (shC N.2.1) (drC N.2.1) cs[k] s) ∧ Tyd T' (evS env (shC N.2.1) (drC N.2.1) cs[k] s) := by
  have hTl := hT.len
  have hev := ev_ty (fun c hc => he c (by rw [List.mem_singleton.mp hc]; exact mem_drop hk)) hty hT
  obtain ⟨hp1, hp2, hp3, hp4, hp5, hp6, hp7⟩ := hp
  have hst := hp7 k hk
  have hmem := mem_drop hk
  generalize hcc : cs[k] = c at *
  unfold f_X2_run_K7 f_X2_run_B80 f_X2_run_B156
  rw [gI_of hp1, Option.bind_some, hp4, if_neg (by rw [cle (by omega) (by omega)]; omega), gR_of hp1 hp2, Option.bind_some, ldI_n hp3 (by omega) (by omega), Option.bind_some, hst]
  have e0 : (0 : Int32).toInt = 0 := rfl
  have e10 : (10000 : Int32).toInt = 10000 := rfl
  -- what a push leaves
  have push : ∀ (v : Int32) (N1 : sMem) (t : List Int), Fr pR1 q0 N N1 → N1.2.1 68 4 = nI t.length → t.length < 61 → Stk (fun i => (N1.2.1 72 i).toInt) t → ∃ N', f_X2_push 68 v N1 = some N' ∧ Fr pR1 q0 N N' ∧ N'.2.1 68 4 = nI (v.toInt :: t).length ∧ Stk (fun i => (N'.2.1 72 i).toInt) (v.toInt :: t) := by
    intro v N1 t f1 f2 f3 f4
    refine ⟨_, c_push (f1.hc hc) f2 (by omega) v, (f1.wi (a := 72) rfl).wi rfl, wrI_eq, ?_, ?_⟩
    · show ((wrI (wrI N1 72 t.length v) 68 4 _).2.1 72 t.length).toInt = v.toInt
      rw [wrI_ne (by omega), wrI_eq]
    · refine f4.cong (fun i hi => ?_)
      show ((wrI (wrI N1 72 t.length v) 68 4 _).2.1 72 i).toInt = (N1.2.1 72 i).toInt
      rw [wrI_ne (by omega), wrI_ne (by omega)]
  -- what a pop answers and leaves
  have pop : ∀ (N1 : sMem) (v : Int) (t : List Int), Fr pR1 q0 N N1 → N1.2.1 68 4 = nI (v :: t).length → t.length < 61 → Stk (fun i => (N1.2.1 72 i).toInt) (v :: t) → ∃ (x : Int32) (N' : sMem), f_X2_pop 68 N1 = some (x, N') ∧ x.toInt = v ∧ Fr pR1 q0 N N' ∧ N'.2.1 68 4 = nI t.length ∧ Stk (fun i => (N'.2.1 72 i).toInt) t := by
    intro N1 v t f1 f2 f3 f4
    refine ⟨_, _, c_pop (f1.hc hc) f2 (by omega), f4.1, f1.wi rfl, wrI_eq, f4.2.cong (fun i hi => ?_)⟩
    show ((wrI N1 68 4 _).2.1 72 i).toInt = (N1.2.1 72 i).toInt
    rw [wrI_ne (by omega)]
  rcases ty_cases hty with ⟨h1, h2, rfl⟩ | ⟨h1, t, rfl, rfl⟩ | ⟨h1, h2, rfl⟩ | ⟨rfl, rfl⟩ | ⟨rfl, t, rfl, rfl⟩ | ⟨h1, h2, t, rfl, rfl⟩
  · -- a number
    have etr : trn c = nI (c - 1000) := by unfold trn; rw [if_pos h1]
    have eev : evS env (shC N.2.1) (drC N.2.1) c s = ((c - 1000 : Nat) : Int) :: s := by unfold evS; rw [if_pos h1]
    have hi : (nI (c - 1000)).toInt = ((c - 1000 : Nat) : Int) := nI_i (by omega)
    rw [eev] at hev ⊢
    rw [etr]
    rw [if_pos (lt_i.mpr (by omega)), if_neg (fun z => by have := lt_i.mp z; omega)]
    obtain ⟨N', g1, g2, g3, g4⟩ := push (nI (c - 1000)) N s Fr.rf ht (by omega) hS
    rw [hi] at g3 g4
    rw [g1, Option.bind_some, nl 1, nI_add]
    exact ⟨N', rfl, g2, g3, g4, hev⟩
  · -- a part of a number
    match s, hT with
    | v :: s, hT =>
    have hx1 : ∀ x : Int32, x = -13 ∨ x = -14 → x < 10000 ∧ x < 0 ∧ ¬ x = -12 := by
      rintro x (rfl | rfl) <;> decide
    have hl2 : t.length = s.length := (Tyd.len hT.2).symm
    have hl3 : t.length + 1 ≤ 60 := hl
    obtain ⟨x, N1, g1, g2, g3, g4, g5⟩ := pop N v s Fr.rf ht (by omega) hS
    rcases h1 with rfl | rfl
    · have etr : trn 60 = -13 := rfl
      have eev : evS env (shC N.2.1) (drC N.2.1) 60 (v :: s) = shC N.2.1 v :: s := rfl
      rw [eev] at hev ⊢
      rw [etr]
      rw [if_pos (hx1 _ (Or.inl rfl)).1, if_pos (hx1 _ (Or.inl rfl)).2.1, if_neg (hx1 _ (Or.inl rfl)).2.2, if_pos rfl, gr68_1 hc, Option.bind_some, g1]
      dsimp only [Option.bind_some]
      rw [c_valueAt (cs70 (g3.hc hc)) (by decide), Option.bind_some]
      obtain ⟨N', k1, k2, k3, k4⟩ := push (if 0 ≤ x.toInt ∧ x.toInt < ((6 : Nat) : Int) then N1.2.1 70 x.toInt.toNat else 0) N1 s g3 g4 (by omega) g5
      have hval : (if 0 ≤ x.toInt ∧ x.toInt < ((6 : Nat) : Int) then N1.2.1 70 x.toInt.toNat else 0).toInt = shC N.2.1 v := by
        rw [g2]
        unfold shC
        by_cases hh : 0 ≤ v ∧ v < ((6 : Nat) : Int)
        · rw [if_pos hh, if_pos (show 0 ≤ v ∧ v < 6 from hh), g3.2.2.1 70 _ rfl]
        · rw [if_neg hh, if_neg (show ¬ (0 ≤ v ∧ v < 6) from hh)]; rfl
      rw [hval] at k3 k4
      rw [k1, Option.bind_some, nl 1, nI_add]
      exact ⟨N', rfl, k2, k3, k4, hev⟩
    · have etr : trn 61 = -14 := rfl
      have eev : evS env (shC N.2.1) (drC N.2.1) 61 (v :: s) = drC N.2.1 v :: s := rfl
      rw [eev] at hev ⊢
      rw [etr]
      rw [if_pos (hx1 _ (Or.inr rfl)).1, if_pos (hx1 _ (Or.inr rfl)).2.1, if_neg (hx1 _ (Or.inr rfl)).2.2, if_neg (by decide), if_pos rfl, gr68_2 hc, Option.bind_some, g1]
      dsimp only [Option.bind_some]
      rw [c_valueAt (cs71 (g3.hc hc)) (by decide), Option.bind_some]
      obtain ⟨N', k1, k2, k3, k4⟩ := push (if 0 ≤ x.toInt ∧ x.toInt < ((7 : Nat) : Int) then N1.2.1 71 x.toInt.toNat else -1) N1 s g3 g4 (by omega) g5
      have hval : (if 0 ≤ x.toInt ∧ x.toInt < ((7 : Nat) : Int) then N1.2.1 71 x.toInt.toNat else -1).toInt = drC N.2.1 v := by
        rw [g2]
        unfold drC
        by_cases hh : 0 ≤ v ∧ v < ((7 : Nat) : Int)
        · rw [if_pos hh, if_pos (show 0 ≤ v ∧ v < 7 from hh), g3.2.2.1 71 _ rfl]
        · rw [if_neg hh, if_neg (show ¬ (0 ≤ v ∧ v < 7) from hh)]; rfl
      rw [hval] at k3 k4
      rw [k1, Option.bind_some, nl 1, nI_add]
      exact ⟨N', rfl, k2, k3, k4, hev⟩
  · -- a part
    have hw : wd (c - 40) < 33 := by
      have : ∀ j, j < 13 → wd j < 33 := by decide
      exact this _ (by omega)
    have etr : trn c = nI (10000 + wd (c - 40)) := by unfold trn; rw [if_neg (by omega), if_neg (by omega), if_pos h1]
    have eev : evS env (shC N.2.1) (drC N.2.1) c s = env (c - 40) :: s := by unfold evS; rw [if_neg (by omega), if_neg (by omega), if_pos h1]
    have hi : (nI (10000 + wd (c - 40))).toInt = ((10000 + wd (c - 40) : Nat) : Int) := nI_i (by omega)
    rw [eev] at hev ⊢
    rw [etr]
    rw [if_neg (fun z => by have := lt_i.mp z; omega), gr68_0 hc, Option.bind_some, nl 10000, nsub (by omega), c_valueAt (cs69 hc) (by decide), Option.bind_some]
    have hj : (nI (10000 + wd (c - 40) - 10000)).toInt = ((wd (c - 40) : Nat) : Int) := by rw [nI_i (by omega)]; omega
    rw [hj, if_pos ⟨Int.natCast_nonneg _, Int.ofNat_lt.mpr hw⟩, Int.toNat_natCast]
    obtain ⟨N', g1, g2, g3, g4⟩ := push (N.2.1 69 (wd (c - 40))) N s Fr.rf ht (by omega) hS
    rw [hv c hmem h1 h2] at g3 g4
    rw [g1, Option.bind_some, nl 1, nI_add]
    exact ⟨N', rfl, g2, g3, g4, hev⟩
  · -- all
    have etr : trn 13 = 1 := rfl
    have eev : evS env (shC N.2.1) (drC N.2.1) 13 s = 1 :: s := rfl
    rw [eev] at hev ⊢
    rw [etr]
    rw [if_pos (by decide), if_neg (by decide)]
    obtain ⟨N', g1, g2, g3, g4⟩ := push 1 N s Fr.rf ht (by omega) hS
    rw [g1, Option.bind_some, nl 1, nI_add]
    exact ⟨N', rfl, g2, g3, g4, hev⟩
  · -- not
    match s, hT with
    | v :: s, hT =>
    have hl2 : t.length = s.length := (Tyd.len hT.2).symm
    have hl3 : t.length + 1 ≤ 60 := hl
    have etr : trn 12 = -12 := rfl
    have eev : evS env (shC N.2.1) (drC N.2.1) 12 (v :: s) = (1 - v) :: s := rfl
    obtain ⟨x, N1, g1, g2, g3, g4, g5⟩ := pop N v s Fr.rf ht (by omega) hS
    rw [eev] at hev ⊢
    rw [etr]
    rw [if_pos (by decide), if_pos (by decide), if_pos rfl, g1]
    dsimp only [Option.bind_some]
    have hxx : (if x = 0 then (1 : Int32) else 0).toInt = 1 - v := by
      rcases hT.1.1 rfl with q | q
      · rw [if_pos (eq_i.mpr (by omega)), q]; rfl
      · rw [if_neg (fun z => by have := eq_i.mp z; omega), q]; rfl
    obtain ⟨N', k1, k2, k3, k4⟩ := push (if x = 0 then 1 else 0) N1 s g3 g4 (by omega) g5
    rw [hxx] at k3 k4
    by_cases hx : x = 0
    · rw [if_pos hx] at k1 ⊢
      rw [k1, Option.bind_some, nl 1, nI_add]
      exact ⟨N', rfl, k2, k3, k4, hev⟩
    · rw [if_neg hx] at k1 ⊢
      rw [k1, Option.bind_some, nl 1, nI_add]
      exact ⟨N', rfl, k2, k3, k4, hev⟩
  · -- two are joined
    match s, hT with
    | b :: a :: s, hT =>
    have hl2 : t.length = s.length := (Tyd.len hT.2.2).symm
    have hl3 : t.length + 1 + 1 ≤ 60 := hl
    have htr : ∀ j : Nat, 1 ≤ j ∧ j ≤ 11 → trn j < 10000 ∧ trn j < 0 ∧ ¬ trn j = -12 ∧ ¬ trn j = -13 ∧ ¬ trn j = -14 := by
      intro j hj
      have : j = 1 ∨ j = 2 ∨ j = 3 ∨ j = 4 ∨ j = 5 ∨ j = 6 ∨ j = 7 ∨ j = 8 ∨ j = 9 ∨ j = 10 ∨ j = 11 := by omega
      rcases this with rfl | rfl | rfl | rfl | rfl | rfl | rfl | rfl | rfl | rfl | rfl <;> decide
    obtain ⟨z1, z2, z3, z4, z5⟩ := htr c ⟨h1, h2⟩
    have eev : evS env (shC N.2.1) (drC N.2.1) c (b :: a :: s) = opI c a b :: s := by
      unfold evS; rw [if_neg (by omega), if_neg (by omega), if_neg (by omega), if_neg (by omega), if_neg (by omega)]
    rw [eev] at hev ⊢
    obtain ⟨y, N1, g1, g2, g3, g4, g5⟩ := pop N b (a :: s) Fr.rf ht (by show s.length + 1 < 61; omega) hS
    obtain ⟨x, N2, k1, k2, k3, k4, k5⟩ := pop N1 a s g3 g4 (by omega) g5
    obtain ⟨r, e1, e2⟩ := c_two (M := N2) (x := x) (y := y) h1 h2 (by rw [k2]; exact hT.2.1) (by rw [g2]; exact hT.1)
    obtain ⟨N', j1, j2, j3, j4⟩ := push r N2 s k3 k4 (by omega) k5
    rw [if_pos z1, if_pos z2, if_neg z3, if_neg z4, if_neg z5, g1]
    dsimp only [Option.bind_some]
    rw [k1]
    dsimp only [Option.bind_some]
    rw [e1, Option.bind_some, j1, Option.bind_some, nl 1, nI_add]
    rw [e2, k2, g2] at j3 j4
    exact ⟨N', rfl, j2, j3, j4, hev⟩
end CQ
