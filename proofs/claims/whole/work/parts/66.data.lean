/-! A COMPUTATION comes to its end, and of its value P holds -/
def Ok {α : Type} (x : Option α) (P : α → Prop) : Prop := ∃ a, x = some a ∧ P a
section OKS
variable {α β : Type} {x : Option α} {P Q : α → Prop} {R : β → Prop}
theorem Ok.sm {a : α} (h : P a) : Ok (some a) P := ⟨a, rfl, h⟩
theorem Ok.bd {f : α → Option β} (h : Ok x P) (k : ∀ a, P a → Ok (f a) R) : Ok (x.bind f) R := by
  obtain ⟨a, e, p⟩ := h
  rw [e]; exact k a p
theorem Ok.im (h : Ok x P) (k : ∀ a, P a → Q a) : Ok x Q := by
  obtain ⟨a, e, p⟩ := h
  exact ⟨a, e, k a p⟩
theorem Ok.ite {c : Prop} [Decidable c] {a b : Option α} (h1 : c → Ok a P) (h2 : ¬ c → Ok b P) : Ok (if c then a else b) P := by
  by_cases q : c
  · rw [if_pos q]; exact h1 q
  · rw [if_neg q]; exact h2 q
end OKS
/-! WHAT IS TOLD: the data as the reference has them (u), and as the class has them -/
def dfl (wh : Nat) : List Nat := if wh = 0 then [40, 1003, 7, 41, 1001, 7, 10] else if wh = 1 then [45] else [47]
def CodeU (u : Nat → Nat → Int32) (wh : Nat) (cs : List Nat) : Prop := (u 137 (3 + wh) = mI ∧ cs = dfl wh) ∨ ∃ fr, u 137 (3 + wh) = nI fr ∧ u 138 (3 + wh) = nI (fr + cs.length) ∧ fr + cs.length ≤ 1600 ∧ ∀ (i : Nat) (h : i < cs.length), u 139 (1600 + (fr + i)) = nI cs[i]
def okPart (wh k : Nat) : Bool := if wh = 0 then decide (k < 5) else if wh = 1 then (k == 2 || k == 3 || (decide (5 ≤ k) && decide (k ≤ 7))) else if wh = 2 then (decide (6 ≤ k) && decide (k ≤ 8)) else decide (5 < k)
def okCode (wh c : Nat) : Bool := decide (c < 40) || decide (1000 ≤ c) || (decide (40 ≤ c) && decide (c < 53) && okPart wh (c - 40)) || (decide (60 ≤ c) && decide (c < 62) && okPart wh (c - 60 + 13))
def GoodC (wh : Nat) (cs : List Nat) : Prop := tyA cs [] = some [wh == 0] ∧ ∀ c ∈ cs, okCode wh c = true
/-- the reference's data of a district -/
def DU (u : Nat → Nat → Int32) (G P E C W : Nat) (c0 c1 c2 : List Nat) : Prop :=
  (u 131 5 = nI G ∧ u 131 6 = nI P ∧ u 131 7 = nI E ∧ u 131 8 = nI C ∧ u 131 9 = nI W) ∧ (G ≤ 6 ∧ P ≤ 7 ∧ E ≤ 5 ∧ C ≤ 5 ∧ W ≤ 12) ∧ (0 ≤ (u 130 2).toInt ∧ (u 130 2).toInt ≤ 60 ∧ 0 ≤ (u 130 3).toInt ∧ (u 130 3).toInt ≤ 100) ∧
  (∀ g, g < G → 0 ≤ (u 133 (6 + g)).toInt ∧ (u 133 (6 + g)).toInt ≤ 60) ∧
  (∀ e, e < E → 1 ≤ (u 135 (15 + 3 * e)).toInt ∧ (u 135 (15 + 3 * e)).toInt ≤ 30 ∧ 1 ≤ (u 135 (16 + 3 * e)).toInt ∧ (u 135 (16 + 3 * e)).toInt ≤ 9 ∧ 0 ≤ (u 135 (17 + 3 * e)).toInt ∧ (u 135 (17 + 3 * e)).toInt ≤ 99) ∧
  (∀ k, k < W → ∃ a b s, u 134 (48 + 4 * k) = nI a ∧ u 134 (49 + 4 * k) = nI b ∧ u 134 (50 + 4 * k) = nI s ∧ a < P ∧ b < P ∧ a ≠ b ∧ 1 ≤ s ∧ s ≤ 60 ∧ (u 134 (51 + 4 * k) = mI ∨ ∃ g, g < G ∧ u 134 (51 + 4 * k) = nI g)) ∧
  (∀ c, c < C → ∃ f, u 136 (17 + 3 * c) = nI f ∧ f ≤ 99) ∧
  ((u 130 2).toInt = 0 → G = 0 ∧ P = 0 ∧ E = 0 ∧ C = 0 ∧ W = 0) ∧
  (0 < (u 130 2).toInt → (CodeU u 0 c0 ∧ CodeU u 1 c1 ∧ CodeU u 2 c2) ∧ (GoodC 0 c0 ∧ GoodC 1 c1 ∧ GoodC 2 c2))
theorem DU.told {u : Nat → Nat → Int32} {G P E C W : Nat} {c0 c1 c2 : List Nat} (h : DU u G P E C W c0 c1 c2) (hn : 0 < G ∨ 0 < P ∨ 0 < E ∨ 0 < C ∨ 0 < W) : 0 < (u 130 2).toInt := by
  have h1 := h.2.2.1.1
  have h2 := h.2.2.2.2.2.2.2.1
  by_cases q : (u 130 2).toInt = 0
  · have := h2 q; omega
  · omega
theorem DU.cod {u : Nat → Nat → Int32} {G P E C W : Nat} {c0 c1 c2 : List Nat} (h : DU u G P E C W c0 c1 c2) (hn : 0 < G ∨ 0 < P ∨ 0 < E ∨ 0 < C ∨ 0 < W) : (CodeU u 0 c0 ∧ CodeU u 1 c1 ∧ CodeU u 2 c2) ∧ (GoodC 0 c0 ∧ GoodC 1 c1 ∧ GoodC 2 c2) := h.2.2.2.2.2.2.2.2 (h.told hn)
/-- the class's data of it -/
def CV (u : Nat → Nat → Int32) (M : sMem) (D G P E C W : Nat) (c0 c1 c2 : List Nat) : Prop :=
  (ClsS M.1 M.2.2.2 ∧ (D = 10 ∨ D = 32) ∧ 187 ≤ M.1.length) ∧ (M.2.2.2 0 2 = some D ∧ M.2.2.2 67 3 = some D ∧ M.2.2.2 76 1 = some D ∧ M.2.2.2 80 1 = some D) ∧
  (M.2.1 D 0 = u 130 2 ∧ M.2.1 D 9 = u 130 3 ∧ M.2.1 (D + 1) 3 = nI G ∧ M.2.1 (D + 4) 3 = nI P ∧ M.2.1 (D + 7) 3 = nI W ∧ M.2.1 (D + 10) 3 = nI E ∧ M.2.1 (D + 13) 3 = nI C) ∧
  (∀ g, g < G → M.2.1 (D + 3) (4 * g + 0) = u 133 (6 + g)) ∧ (∀ k j, k < W → j < 4 → M.2.1 (D + 9) (4 * k + j) = u 134 (48 + 4 * k + j)) ∧ (∀ e j, e < E → j < 3 → M.2.1 (D + 12) (4 * e + j) = u 135 (15 + 3 * e + j)) ∧ (∀ c j, c < C → j < 3 → M.2.1 (D + 15) (4 * c + j) = u 136 (15 + 3 * c + j)) ∧
  (0 < (u 130 2).toInt → (∃ q n, Prg M (D + 16) q n c0 ∧ (q = D + 17 ∨ 187 ≤ q)) ∧ (∃ q n, Prg M (D + 18) q n c1 ∧ (q = D + 19 ∨ 187 ≤ q)) ∧ ∃ q n, Prg M (D + 20) q n c2 ∧ (q = D + 21 ∨ 187 ≤ q))
/-- frames with new cells: what was there stays but for ints of P, longs of Q, references of R -/
def FrA (P Q R : Nat → Nat → Bool) (M N : sMem) : Prop :=
  (∀ (a : Nat) (q : Nat × Nat), M.1[a]? = some q → N.1[a]? = some q) ∧ (∀ a k, a < M.1.length → P a k = false → N.2.1 a k = M.2.1 a k) ∧ (∀ a k, a < M.1.length → Q a k = false → N.2.2.1 a k = M.2.2.1 a k) ∧ ∀ a k, a < M.1.length → R a k = false → N.2.2.2 a k = M.2.2.2 a k
theorem lt_of_sh {M : sMem} {a : Nat} {q : Nat × Nat} (h : M.1[a]? = some q) : a < M.1.length := (List.getElem?_eq_some_iff.mp h).1
section FA
variable {P Q R P' Q' R' : Nat → Nat → Bool} {M N O : sMem}
theorem FrA.len (h : FrA P Q R M N) : M.1.length ≤ N.1.length := by
  rcases Nat.eq_zero_or_pos M.1.length with h0 | h0
  · omega
  · have := lt_of_sh (h.1 (M.1.length - 1) _ (List.getElem?_eq_getElem (by omega)))
    omega
theorem FrA.rf : FrA P Q R M M := ⟨fun _ _ h => h, fun _ _ _ _ => rfl, fun _ _ _ _ => rfl, fun _ _ _ _ => rfl⟩
theorem FrA.tr (h : FrA P Q R M N) (h2 : FrA P Q R N O) : FrA P Q R M O :=
  have hl := h.len
  ⟨fun a q z => h2.1 a q (h.1 a q z), fun a k l z => (h2.2.1 a k (by omega) z).trans (h.2.1 a k l z), fun a k l z => (h2.2.2.1 a k (by omega) z).trans (h.2.2.1 a k l z), fun a k l z => (h2.2.2.2 a k (by omega) z).trans (h.2.2.2 a k l z)⟩
theorem FrA.mono (h : FrA P Q R M N) (hP : ∀ a k, P' a k = false → P a k = false) (hQ : ∀ a k, Q' a k = false → Q a k = false) (hR : ∀ a k, R' a k = false → R a k = false) : FrA P' Q' R' M N :=
  ⟨h.1, fun a k l z => h.2.1 a k l (hP a k z), fun a k l z => h.2.2.1 a k l (hQ a k z), fun a k l z => h.2.2.2 a k l (hR a k z)⟩
theorem Fr.fa (h : Fr P Q M N) : FrA P Q R M N := ⟨fun a q z => by rw [h.1]; exact z, fun a k _ z => h.2.2.1 a k z, fun a k _ z => h.2.2.2 a k z, fun a k _ _ => by rw [h.2.1]⟩
theorem FrA.wi {a k : Nat} {x : Int32} (h : FrA P Q R M N) (hp : P a k = true) : FrA P Q R M (wrI N a k x) :=
  ⟨h.1, fun b j l q => by rw [wrI_get, if_neg (fun z => by rw [z.1, z.2, hp] at q; cases q)]; exact h.2.1 b j l q, h.2.2.1, h.2.2.2⟩
theorem FrA.wj {a k : Nat} {x : Int64} (h : FrA P Q R M N) (hp : Q a k = true) : FrA P Q R M (wrJ N a k x) :=
  ⟨h.1, h.2.1, fun b j l q => by rw [wrJ_get, if_neg (fun z => by rw [z.1, z.2, hp] at q; cases q)]; exact h.2.2.1 b j l q, h.2.2.2⟩
theorem wrR_get {a k b j : Nat} {x : Option Nat} : (wrR M a k x).2.2.2 b j = if b = a ∧ j = k then x else M.2.2.2 b j := rfl
theorem FrA.wr {a k : Nat} {x : Option Nat} (h : FrA P Q R M N) (hp : R a k = true) : FrA P Q R M (wrR N a k x) :=
  ⟨h.1, h.2.1, h.2.2.1, fun b j l q => by rw [wrR_get, if_neg (fun z => by rw [z.1, z.2, hp] at q; cases q)]; exact h.2.2.2 b j l q⟩
theorem sNew_sh {c n a : Nat} {q : Nat × Nat} (h : M.1[a]? = some q) : (sNew c n M).1[a]? = some q := by
  show (M.1 ++ [(c, n)])[a]? = some q
  rw [List.getElem?_append_left (lt_of_sh h)]; exact h
theorem sNew_me {c n : Nat} : (sNew c n M).1[sLen M]? = some (c, n) := by
  show (M.1 ++ [(c, n)])[M.1.length]? = some (c, n)
  simp
theorem sNew_i {c n a k : Nat} (h : a < M.1.length) : (sNew c n M).2.1 a k = M.2.1 a k := by
  show up1 M.2.1 (sLen M) (fun _ => 0) a k = _
  unfold up1 sLen; rw [if_neg (by omega)]
theorem sNew_j {c n a k : Nat} (h : a < M.1.length) : (sNew c n M).2.2.1 a k = M.2.2.1 a k := by
  show up1 M.2.2.1 (sLen M) (fun _ => 0) a k = _
  unfold up1 sLen; rw [if_neg (by omega)]
theorem sNew_r {c n a k : Nat} (h : a < M.1.length) : (sNew c n M).2.2.2 a k = M.2.2.2 a k := by
  show up1 M.2.2.2 (sLen M) (fun _ => none) a k = _
  unfold up1 sLen; rw [if_neg (by omega)]
theorem FrA.new {c n : Nat} (h : FrA P Q R M N) : FrA P Q R M (sNew c n N) :=
  have hl := h.len
  ⟨fun a q z => sNew_sh (h.1 a q z), fun a k l z => (sNew_i (by omega)).trans (h.2.1 a k l z), fun a k l z => (sNew_j (by omega)).trans (h.2.2.1 a k l z), fun a k l z => (sNew_r (by omega)).trans (h.2.2.2 a k l z)⟩
/-- references that the layouts name aren't changed -/
theorem FrA.hc (h : FrA P Q R M N) (hR : ∀ q ∈ clsRf, R q.1 q.2.1 = false) (hc : ClsS M.1 M.2.2.2) : ClsS N.1 N.2.2.2 := by
  refine ⟨fun q hq => h.1 _ _ (hc.1 q hq), fun q hq => ?_⟩
  have hl : q.1 < M.1.length := by
    have hm : ∀ q ∈ clsRf, q.1 < 94 := by decide
    have := hm q hq
    have := lt_of_sh (cs93 hc)
    omega
  rw [h.2.2.2 _ _ hl (hR q hq)]
  exact hc.2 q hq
theorem FrA.hs (h : FrA P Q R M N) (hR : ∀ q ∈ refRf, R 94 q.1 = false) (hs : RefS M.1 M.2.2.2) : RefS N.1 N.2.2.2 := by
  refine ⟨fun q hq => h.1 _ _ (hs.1 q hq), fun q hq => ?_⟩
  rw [h.2.2.2 _ _ (lt_of_sh (rs94 hs)) (hR q hq)]
  exact hs.2 q hq
end FA
/-- what the codes are worth depends on the parts they ask for alone -/
theorem evA_cong {env env' : Nat → Int} {sh dr sh' dr' : Int → Int} : ∀ {cs : List Nat} {s : List Int}, (∀ c ∈ cs, (40 ≤ c → c < 60 → env (c - 40) = env' (c - 40)) ∧ (c < 60 ∨ 1000 ≤ c)) → evA env sh dr cs s = evA env' sh' dr' cs s
  | [], _, _ => rfl
  | c :: cs, s, h => by
    show evA env sh dr cs (evS env sh dr c s) = evA env' sh' dr' cs (evS env' sh' dr' c s)
    have hc := h c List.mem_cons_self
    have e : evS env sh dr c s = evS env' sh' dr' c s := by
      unfold evS
      by_cases h1 : 1000 ≤ c
      · rw [if_pos h1, if_pos h1]
      · rw [if_neg h1, if_neg h1]
        have h2 : ¬ 60 ≤ c := by omega
        rw [if_neg h2, if_neg h2]
        by_cases h3 : 40 ≤ c
        · rw [if_pos h3, if_pos h3, hc.1 h3 (by omega)]
        · rw [if_neg h3, if_neg h3]
    rw [e]
    exact evA_cong (fun c' hc' => h c' (List.mem_cons_of_mem _ hc'))

/-- how much room is taken, and may still be by rows and states -/
def cntN (f : Nat → Bool) : Nat → Nat
  | 0 => 0
  | n + 1 => cntN f n + (if f n = true then 1 else 0)
theorem cntN_cong {f g : Nat → Bool} : ∀ {n : Nat}, (∀ i, i < n → f i = g i) → cntN f n = cntN g n
  | 0, _ => rfl
  | n + 1, h => by
    show cntN f n + _ = cntN g n + _
    rw [cntN_cong (fun i hi => h i (by omega)), h n (by omega)]
theorem cntN_off {f g : Nat → Bool} {w : Nat} : ∀ {n : Nat}, w < n → f w = true → g w = false → (∀ i, i ≠ w → f i = g i) → cntN f n = cntN g n + 1
  | 0, h, _, _, _ => by omega
  | n + 1, h, h1, h2, h3 => by
    show cntN f n + _ = cntN g n + _ + 1
    by_cases q : w = n
    · subst q
      rw [h1, h2, cntN_cong (fun i hi => h3 i (by omega))]
      simp
    · rw [cntN_off (by omega) h1 h2 h3, h3 n (fun z => q z.symm)]
      omega
def szS (sh : List (Nat × Nat)) : Nat := (sh.map fun q => q.2 + 1).sum
def Phi (M : sMem) : Nat := szS M.1 + 25 * cntN (fun w => (M.2.2.2 77 w).isNone) 500 + 200 * cntN (fun i => (M.2.2.2 66 i).isNone) 20
theorem szS_app (sh : List (Nat × Nat)) (q : Nat × Nat) : szS (sh ++ [q]) = szS sh + (q.2 + 1) := by
  unfold szS
  rw [List.map_append, List.sum_append]
  simp
def FrB (P Q R : Nat → Nat → Bool) (M N : sMem) : Prop := FrA P Q R M N ∧ Phi N ≤ Phi M
section FB
variable {P Q R P' Q' R' : Nat → Nat → Bool} {M N O : sMem}
theorem FrB.rf : FrB P Q R M M := ⟨FrA.rf, Nat.le_refl _⟩
theorem FrB.tr (h : FrB P Q R M N) (h2 : FrB P Q R N O) : FrB P Q R M O := ⟨h.1.tr h2.1, Nat.le_trans h2.2 h.2⟩
theorem FrB.mono (h : FrB P Q R M N) (hP : ∀ a k, P' a k = false → P a k = false) (hQ : ∀ a k, Q' a k = false → Q a k = false) (hR : ∀ a k, R' a k = false → R a k = false) : FrB P' Q' R' M N := ⟨h.1.mono hP hQ hR, h.2⟩
theorem Fr.phi (h : Fr P Q M N) : Phi N = Phi M := by unfold Phi; rw [h.1, h.2.1]
theorem Fr.fb (h : Fr P Q M N) : FrB P Q R M N := ⟨h.fa, Nat.le_of_eq h.phi⟩
theorem FrB.wi {a k : Nat} {x : Int32} (h : FrB P Q R M N) (hp : P a k = true) : FrB P Q R M (wrI N a k x) := ⟨h.1.wi hp, h.2⟩
theorem FrB.wj {a k : Nat} {x : Int64} (h : FrB P Q R M N) (hp : Q a k = true) : FrB P Q R M (wrJ N a k x) := ⟨h.1.wj hp, h.2⟩
theorem FrB.hc (h : FrB P Q R M N) (hR : ∀ q ∈ clsRf, R q.1 q.2.1 = false) (hc : ClsS M.1 M.2.2.2) : ClsS N.1 N.2.2.2 := h.1.hc hR hc
theorem FrB.hs (h : FrB P Q R M N) (hR : ∀ q ∈ refRf, R 94 q.1 = false) (hs : RefS M.1 M.2.2.2) : RefS N.1 N.2.2.2 := h.1.hs hR hs
/-- a new row of bits -/
theorem FrB.row {w : Nat} (h : FrB P Q R M N) (hn : N.2.2.2 77 w = none) (hw : w < 500) (hR : R 77 w = true) (h77 : 77 < N.1.length) : FrB P Q R M (wrR (sNew 15 24 N) 77 w (some (sLen N))) := by
  refine ⟨(h.1.new).wr hR, Nat.le_trans ?_ h.2⟩
  unfold Phi
  have e1 : szS (wrR (sNew 15 24 N) 77 w (some (sLen N))).1 = szS N.1 + 25 := szS_app N.1 (15, 24)
  have e2 : cntN (fun w => (N.2.2.2 77 w).isNone) 500 = cntN (fun v => ((wrR (sNew 15 24 N) 77 w (some (sLen N))).2.2.2 77 v).isNone) 500 + 1 := by
    refine cntN_off hw (by rw [hn]; rfl) ?_ (fun i hi => ?_)
    · rw [wrR_get, if_pos ⟨rfl, rfl⟩]; rfl
    · rw [wrR_get, if_neg (fun z => hi z.2), sNew_r h77]
  have e3 : cntN (fun i => ((wrR (sNew 15 24 N) 77 w (some (sLen N))).2.2.2 66 i).isNone) 20 = cntN (fun i => (N.2.2.2 66 i).isNone) 20 := by
    refine cntN_cong (fun i _ => ?_)
    rw [wrR_get, if_neg (by omega), sNew_r (by omega)]
  rw [e1, e2, e3]
  omega
end FB
section PB
variable {M : sMem} {c n a : Nat}
theorem ldR_n {j : Nat} (h : M.1[a]? = some (c, n)) (hj : j < n) (hn : n < 2147483648) : ldR c M a (nI j) = some (M.2.2.2 a j) := by
  unfold ldR
  rw [sAr_of h, Option.bind_some, nI_clamp (by omega), if_pos ⟨nI_pos (by omega), hj⟩]
theorem ldN_n {j q : Nat} (h : M.1[a]? = some (c, n)) (hj : j < n) (hn : n < 2147483648) (hq : M.2.2.2 a j = some q) : ldN c M a (nI j) = some q := by
  unfold ldN
  rw [ldR_n h hj hn, hq]; rfl
theorem stR_n {e k j x : Nat} (h : M.1[a]? = some (c, n)) (hj : j < n) (hn : n < 2147483648) (hx : M.1[x]? = some (e, k)) : stR c e M a (nI j) x = some (wrR M a j (some x)) := by
  unfold stR
  rw [sAr_of h, Option.bind_some, hx, Option.bind_some, nI_clamp (by omega), if_pos ⟨rfl, nI_pos (by omega), hj⟩]
theorem nA_n (hn : n ≤ 1000000) : nA c M (nI n) = some (sLen M, sNew c n M) := by
  unfold nA
  rw [nI_clamp (by omega), if_pos ⟨nI_pos (by omega), hn⟩]
/-- fill -/
theorem fillJ {n0 : Nat} (h : M.1[a]? = some (15, n0)) (hn : n0 < 10000) (x : Int64) : ∃ N, f_J7_fill_d0a16 a x M = some N ∧ Fr q0 (fun b _ => b == a) M N ∧ ∀ k, k < n0 → N.2.2.1 a k = x := by
  unfold f_J7_fill_d0a16 f_J7_fill_d0a16_L6
  rw [aL_of h, Option.bind_some, nl 0]
  obtain ⟨N, h1, h2, h3⟩ := itr_up (f := fun b : (Int32 × sMem) => f_J7_fill_d0a16_K6 a x (nI n0) b.1 b.2) (fun k N => Fr q0 (fun b _ => b == a) M N ∧ ∀ j, j < k → N.2.2.1 a j = x) (fun N => Fr q0 (fun b _ => b == a) M N ∧ ∀ j, j < n0 → N.2.2.1 a j = x) n0 (by omega) (i := 0) (s := M) (by
    rintro k N hk ⟨hF, hv⟩
    dsimp only
    unfold f_J7_fill_d0a16_K6
    by_cases hk2 : n0 ≤ k
    · right
      obtain rfl : k = n0 := by omega
      exact ⟨N, by rw [if_pos (nI_le (by omega) (by omega))], hF, hv⟩
    · left
      refine ⟨by omega, _, by rw [if_neg (nI_ge (by omega) (by omega)), stJ_n (by rw [hF.1]; exact h) (by omega) (by omega), Option.bind_some, nl 1, nI_add], hF.wj (by simp), fun j hj => ?_⟩
      rw [wrJ_get]
      by_cases hjk : j = k
      · rw [if_pos ⟨rfl, hjk⟩]
      · rw [if_neg (fun z => hjk z.2)]; exact hv j (by omega)) (by omega) ⟨Fr.rf, fun j hj => by omega⟩
  rw [h1]
  exact ⟨N, rfl, h2, h3⟩
theorem fillI {n0 : Nat} (h : M.1[a]? = some (14, n0)) (hn : n0 < 10000) (x : Int32) : ∃ N, f_J7_fill_53178 a x M = some N ∧ Fr (fun b _ => b == a) q0 M N ∧ ∀ k, k < n0 → N.2.1 a k = x := by
  unfold f_J7_fill_53178 f_J7_fill_53178_L5
  rw [aL_of h, Option.bind_some, nl 0]
  obtain ⟨N, h1, h2, h3⟩ := itr_up (f := fun b : (Int32 × sMem) => f_J7_fill_53178_K5 a x (nI n0) b.1 b.2) (fun k N => Fr (fun b _ => b == a) q0 M N ∧ ∀ j, j < k → N.2.1 a j = x) (fun N => Fr (fun b _ => b == a) q0 M N ∧ ∀ j, j < n0 → N.2.1 a j = x) n0 (by omega) (i := 0) (s := M) (by
    rintro k N hk ⟨hF, hv⟩
    dsimp only
    unfold f_J7_fill_53178_K5
    by_cases hk2 : n0 ≤ k
    · right
      obtain rfl : k = n0 := by omega
      exact ⟨N, by rw [if_pos (nI_le (by omega) (by omega))], hF, hv⟩
    · left
      refine ⟨by omega, _, by rw [if_neg (nI_ge (by omega) (by omega)), stI_n (by rw [hF.1]; exact h) (by omega) (by omega), Option.bind_some, nl 1, nI_add], hF.wi (by simp), fun j hj => ?_⟩
      rw [wrI_get]
      by_cases hjk : j = k
      · rw [if_pos ⟨rfl, hjk⟩]
      · rw [if_neg (fun z => hjk z.2)]; exact hv j (by omega)) (by omega) ⟨Fr.rf, fun j hj => by omega⟩
  rw [h1]
  exact ⟨N, rfl, h2, h3⟩
end PB
theorem Fr.i {P Q : Nat → Nat → Bool} {M N : sMem} (h : Fr P Q M N) {a k : Nat} (hp : P a k = false) : N.2.1 a k = M.2.1 a k := h.2.2.1 a k hp
theorem Fr.j {P Q : Nat → Nat → Bool} {M N : sMem} (h : Fr P Q M N) {a k : Nat} (hp : Q a k = false) : N.2.2.1 a k = M.2.2.1 a k := h.2.2.2 a k hp
theorem FrB.i {P Q R : Nat → Nat → Bool} {M N : sMem} (h : FrB P Q R M N) {a k : Nat} (ha : a < M.1.length) (hp : P a k = false) : N.2.1 a k = M.2.1 a k := h.1.2.1 a k ha hp
theorem FrB.j {P Q R : Nat → Nat → Bool} {M N : sMem} (h : FrB P Q R M N) {a k : Nat} (ha : a < M.1.length) (hp : Q a k = false) : N.2.2.1 a k = M.2.2.1 a k := h.1.2.2.1 a k ha hp
theorem FrB.r {P Q R : Nat → Nat → Bool} {M N : sMem} (h : FrB P Q R M N) {a k : Nat} (ha : a < M.1.length) (hp : R a k = false) : N.2.2.2 a k = M.2.2.2 a k := h.1.2.2.2 a k ha hp
theorem FrB.sh {P Q R : Nat → Nat → Bool} {M N : sMem} (h : FrB P Q R M N) {a : Nat} {q : Nat × Nat} (hq : M.1[a]? = some q) : N.1[a]? = some q := h.1.1 a q hq
