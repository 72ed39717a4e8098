/-! STATES of the class, a DAY's numbers -/
section ST
variable {M N : sMem} {s j k a : Nat}
theorem StS_wi {x : Int32} : StS (wrI M a k x) s = StS M s := rfl
theorem StS_wj {x : Int64} : StS (wrJ M a k x) s = StS M s := rfl
theorem gS2 (h : StS M s) : gR 8 8 2 M s = some (s + 1) := gR_of h.1.1 h.2.1
theorem gS3 (h : StS M s) : gR 8 8 3 M s = some (s + 2) := gR_of h.1.1 h.2.2.1
theorem gS4 (h : StS M s) : gR 8 8 4 M s = some (s + 3) := gR_of h.1.1 h.2.2.2.1
theorem gS5 (h : StS M s) : gR 8 8 5 M s = some (s + 4) := gR_of h.1.1 h.2.2.2.2.1
theorem gS6 (h : StS M s) : gR 8 8 6 M s = some (s + 5) := gR_of h.1.1 h.2.2.2.2.2
theorem iS (h : StS M s) : gI 8 8 k M s = some (M.2.1 s k) := gI_of h.1.1
theorem pS (h : StS M s) {x : Int32} : pI 8 8 k M s x = some (wrI M s k x) := pI_of h.1.1
theorem lS1 (h : StS M s) (hj : j < 5) : ldI 14 M (s + 1) (nI j) = some (M.2.1 (s + 1) j) := ldI_n h.1.2.1 hj (by decide)
theorem lS2 (h : StS M s) (hj : j < 5) : ldI 14 M (s + 2) (nI j) = some (M.2.1 (s + 2) j) := ldI_n h.1.2.2.1 hj (by decide)
theorem lS3 (h : StS M s) (hj : j < 5) : ldI 14 M (s + 3) (nI j) = some (M.2.1 (s + 3) j) := ldI_n h.1.2.2.2.1 hj (by decide)
theorem lS4 (h : StS M s) (hj : j < 5) : ldI 14 M (s + 4) (nI j) = some (M.2.1 (s + 4) j) := ldI_n h.1.2.2.2.2.1 hj (by decide)
theorem lS5 (h : StS M s) (hj : j < 120) : ldI 14 M (s + 5) (nI j) = some (M.2.1 (s + 5) j) := ldI_n h.1.2.2.2.2.2 hj (by decide)
theorem tS1 (h : StS M s) {x : Int32} (hj : j < 5) : stI M (s + 1) (nI j) x = some (wrI M (s + 1) j x) := stI_n h.1.2.1 hj (by decide)
theorem tS2 (h : StS M s) {x : Int32} (hj : j < 5) : stI M (s + 2) (nI j) x = some (wrI M (s + 2) j x) := stI_n h.1.2.2.1 hj (by decide)
theorem tS3 (h : StS M s) {x : Int32} (hj : j < 5) : stI M (s + 3) (nI j) x = some (wrI M (s + 3) j x) := stI_n h.1.2.2.2.1 hj (by decide)
theorem tS4 (h : StS M s) {x : Int32} (hj : j < 5) : stI M (s + 4) (nI j) x = some (wrI M (s + 4) j x) := stI_n h.1.2.2.2.2.1 hj (by decide)
theorem tS5 (h : StS M s) {x : Int32} (hj : j < 120) : stI M (s + 5) (nI j) x = some (wrI M (s + 5) j x) := stI_n h.1.2.2.2.2.2 hj (by decide)
theorem StS.f {P Q : Nat → Nat → Bool} (h : StS M s) (hF : Fr P Q M N) : StS N s := h.fr (R := fun _ _ => false) hF.fa (fun _ => rfl)
end ST
def envK (w : Nat → Int32) (wt : Int) (c k : Nat) : Int := if k = 6 then (w 0).toInt else if k = 7 then wt else if k = 8 then (w (14 + 3 * c)).toInt else 0
def envL (u : Nat → Nat → Int32) (w : Nat → Int32) (sm : Int) (e k : Nat) : Int := if k = 2 then (u 135 (15 + 3 * e)).toInt else if k = 3 then (u 135 (16 + 3 * e)).toInt else if k = 5 then (w (7 + e)).toInt else if k = 6 then (w 0).toInt else if k = 7 then sm else 0
def evV (env : Nat → Int) (cs : List Nat) : Int := (evA env z0 z0 cs []).headD 0
def clm (m : Nat) (z : Int) : Int := if z < 0 then 0 else if (m : Int) < z then m else z
theorem clm_rg (m : Nat) (z : Int) : 0 ≤ clm m z ∧ clm m z ≤ m := by
  unfold clm
  by_cases h : z < 0
  · rw [if_pos h]; omega
  · rw [if_neg h]
    by_cases h2 : (m : Int) < z
    · rw [if_pos h2]; omega
    · rw [if_neg h2]; omega
def knF (w : Nat → Int32) (c2 : List Nat) (wt : Int) (c : Nat) : Int32 := nI (clm 999 ((w (14 + 3 * c)).toInt + evV (envK w wt c) c2)).toNat
def ltF (u : Nat → Nat → Int32) (w : Nat → Int32) (c1 : List Nat) (sm : Int) (e : Nat) : Int32 := nI (clm 99 (evV (envL u w sm e) c1)).toNat
def smN (f : Nat → Int32) : Nat → Nat
  | 0 => 0
  | c + 1 => smN f c + (if f c = mI then 0 else (f c).toInt.toNat)
def twN (f : Nat → Int32) : Nat → Nat
  | 0 => 0
  | c + 1 => twN f c + (if f c = mI then 1 else 0)
def carS (w : Nat → Int32) (c2 : List Nat) (wt : Int32) (c j : Nat) : Int32 := if wt = mI then w (12 + 3 * c + j) else if j = 0 then w (13 + 3 * c) else if j = 1 then w (12 + 3 * c) else knF w c2 wt.toInt c
noncomputable def dayS (u : Nat → Nat → Int32) (c0 c1 c2 : List Nat) (G P E C W : Nat) (w : Nat → Int32) (i : Nat) : Int32 :=
  if i = 0 then w 0 + 1 else if i < 7 then w i else if i < 12 then (if i - 7 < E then ltF u w c1 (smN (wtS u c0 G E W P w) C) (i - 7) else w i)
  else if i < 27 then (if (i - 12) / 3 < C then carS w c2 (wtS u c0 G E W P w ((i - 12) / 3)) ((i - 12) / 3) ((i - 12) % 3) else w i) else w i
/-- what is kept: how many, and the numbers -/
def kpN (kc : Nat) : Nat := if kc = 40 then 40 else kc + 1
def kpF (kc : Nat) (K : Nat → Int32) (a b c : Int32) (k : Nat) : Int32 := if k = 3 * kpN kc - 3 then a else if k = 3 * kpN kc - 2 then b else if k = 3 * kpN kc - 1 then c else if kc = 40 then K (k + 3) else K k
section CE
variable {u : Nat → Nat → Int32} {M N : sMem} {D G P E C W k e c s : Nat} {c0 c1 c2 cs : List Nat} {w : Nat → Int32} {env : Nat → Int}
theorem mm_of {m : Nat} (hm : m < 1000000) (x : Int32) : ∃ y, f_J9_min_7cf53 (nI m) x M = some y ∧ f_J9_max_7cf53 0 y M = some (nI (clm m x.toInt).toNat) := by
  have em : (nI m).toInt = m := nI_i (by omega)
  have e0 : (0 : Int32).toInt = 0 := rfl
  have hr := rg x
  unfold f_J9_min_7cf53 f_J9_max_7cf53 clm
  by_cases h : x < nI m
  · have h' := lt_i.mp h
    refine ⟨x, if_pos h, ?_⟩
    by_cases h2 : 0 < x
    · have h2' := lt_i.mp h2
      rw [if_pos h2, if_neg (by omega), if_neg (by omega)]
      refine congrArg some (eq_i.mpr ?_)
      rw [nI_i (by omega)]; omega
    · have h2' : ¬ (0 : Int32).toInt < x.toInt := fun z => h2 (lt_i.mpr z)
      rw [if_neg h2]
      by_cases h3 : x.toInt < 0
      · rw [if_pos h3]; rfl
      · rw [if_neg h3, if_neg (by omega), show x.toInt = 0 by omega]; rfl
  · have h' : ¬ x.toInt < (nI m).toInt := fun z => h (lt_i.mpr z)
    refine ⟨nI m, if_neg h, ?_⟩
    rw [if_neg (show ¬ x.toInt < 0 by omega)]
    have e3 : (if (m : Int) < x.toInt then (m : Int) else x.toInt) = m := by split <;> omega
    rw [e3, Int.toNat_natCast]
    by_cases h2 : 0 < nI m
    · rw [if_pos h2]
    · rw [if_neg h2]
      have h2' : ¬ (0 : Int32).toInt < (nI m).toInt := fun z => h2 (lt_i.mpr z)
      rw [show m = 0 by omega]; rfl
theorem cut_of {m : Nat} (hm : m < 1000000) (z : Int64) : f_X12_cut z (nI m) M = some (nI (clm m z.toInt).toNat) := by
  have em : (nI m).toInt64.toInt = m := by rw [i64, nI_i (by omega)]
  have e0 : (0 : Int64).toInt = 0 := rfl
  unfold f_X12_cut clm
  by_cases h : (0 : Int64) ≤ z
  · have h' := le_j.mp h
    rw [if_pos h, if_neg (show ¬ z.toInt < 0 by omega)]
    by_cases h2 : z ≤ (nI m).toInt64
    · have h2' := le_j.mp h2
      rw [if_pos h2, if_neg (by omega)]
      refine congrArg some (eq_i.mpr ?_)
      rw [Int64.toInt_toInt32, b32 (by omega) (by omega), nI_i (by omega)]; omega
    · have h2' : ¬ z.toInt ≤ (nI m).toInt64.toInt := fun q => h2 (le_j.mpr q)
      rw [if_neg h2, if_pos (by omega), Int.toNat_natCast]
  · have h' : ¬ (0 : Int64).toInt ≤ z.toInt := fun q => h (le_j.mpr q)
    rw [if_neg h, if_pos (by omega)]; rfl
theorem no60_1 (h : GoodC 1 cs) : ∀ c ∈ cs, c < 60 ∨ 1000 ≤ c := fun c hc => by have := okc1 (h.2 c hc); omega
theorem no60_2 (h : GoodC 2 cs) : ∀ c ∈ cs, c < 60 ∨ 1000 ≤ c := fun c hc => by have := okc2 (h.2 c hc); omega
theorem evV_rg {b : Bool} (hty : tyA cs [] = some [b]) (he : Env env z0 z0 cs) : ∃ v, evA env z0 z0 cs [] = [v] ∧ Vok b v ∧ evV env cs = v := by
  have key : ∀ (cs : List Nat) (T : List Bool) (s : List Int), Env env z0 z0 cs → Tyd T s → tyA cs T = some [b] → ∃ v, evA env z0 z0 cs s = [v] ∧ Vok b v := by
    intro cs
    induction cs with
    | nil =>
      intro T s _ hT h
      obtain rfl := Option.some.inj h
      match s, hT with
      | [v], hT => exact ⟨v, rfl, hT.1⟩
    | cons c cs ih =>
      intro T s he hT h
      have h' : (tyS c T).bind (fun T' => if T'.length ≤ 60 then tyA cs T' else none) = some [b] := h
      cases q : tyS c T with
      | none => rw [q] at h'; cases h'
      | some T' =>
        rw [q, Option.bind_some] at h'
        by_cases hl : T'.length ≤ 60
        · rw [if_pos hl] at h'
          exact ih T' _ (fun x hx => he x (List.mem_cons_of_mem _ hx)) (ev_ty (fun x hx => he x (by rw [List.mem_singleton.mp hx]; exact List.mem_cons_self)) q hT) h'
        · rw [if_neg hl] at h'; cases h'
  obtain ⟨v, h1, h2⟩ := key cs [] [] he trivial hty
  exact ⟨v, h1, h2, by unfold evV; rw [h1]; rfl⟩
/-- the class reckons a sum of parts -/
theorem c_sum {p q n : Nat} (hc : ClsS M.1 M.2.2.2) (hp : Prg M p q n cs) (hq : q ≠ 72 ∧ q ≠ 68) (hpn : p ≠ 72 ∧ p ≠ 68) (h6 : ∀ c ∈ cs, c < 60 ∨ 1000 ≤ c) (hb : ∀ k, -1000000 ≤ env k ∧ env k ≤ 1000000) (hv : ∀ c ∈ cs, 40 ≤ c → c < 53 → (M.2.1 69 (wd (c - 40))).toInt = env (c - 40)) (hty : tyA cs [] = some [false]) :
    ∃ r N, f_X2_run 68 p M = some (r, N) ∧ r.toInt = evV env cs ∧ (-1000000 ≤ r.toInt ∧ r.toInt ≤ 1000000) ∧ Fr pR1 q0 M N := by
  obtain ⟨r, N, r1, r2, r3, r4⟩ := c_run (M := M) (env := env) (b := false) hc hp hq hpn (env_any (fun c _ _ _ => hb _) h6) hv hty
  rw [evA_cong (env' := env) (sh' := z0) (dr' := z0) (fun c hc => ⟨fun _ _ => rfl, h6 c hc⟩)] at r2
  exact ⟨r, N, r1, by unfold evV; rw [r2]; rfl, r3.2 rfl, r4⟩
end CE
