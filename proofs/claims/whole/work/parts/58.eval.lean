/-! EVALUATION: what codes are worth. Codes are the reference's numbers; the class has each by trn -/
theorem mulb {a b : Int} (ha : -1000000 ≤ a ∧ a ≤ 1000000) (hb : -1000000 ≤ b ∧ b ≤ 1000000) : -1000000000000 ≤ a * b ∧ a * b ≤ 1000000000000 := by
  have h : (a * b).natAbs ≤ 1000000000000 := by
    rw [Int.natAbs_mul]
    exact Nat.le_trans (Nat.mul_le_mul (by omega : a.natAbs ≤ 1000000) (by omega : b.natAbs ≤ 1000000)) (by decide)
  omega
def clp (z : Int) : Int := if 1000000 < z then 1000000 else if z < -1000000 then -1000000 else z
theorem clp_rg (z : Int) : -1000000 ≤ clp z ∧ clp z ≤ 1000000 := by
  unfold clp
  by_cases h : 1000000 < z
  · rw [if_pos h]; omega
  · rw [if_neg h]
    by_cases h2 : z < -1000000
    · rw [if_pos h2]; omega
    · rw [if_neg h2]; omega
def fdv (a b : Int) : Int := if b = 0 then 0 else if a.tmod b ≠ 0 ∧ ¬ (a < 0 ↔ b < 0) then a.tdiv b - 1 else a.tdiv b
theorem tdb (a b : Int) : (a.tdiv b).natAbs ≤ a.natAbs := by
  rw [Int.natAbs_tdiv]
  exact Nat.div_le_self _ _
theorem tdb2 (a b : Int) (hb : 2 ≤ b.natAbs) : (a.tdiv b).natAbs ≤ a.natAbs / 2 := by
  rw [Int.natAbs_tdiv]
  exact Nat.div_le_div_left hb (by decide)
theorem tmod1 {a b : Int} (h : a.tmod b ≠ 0) (hb : b ≠ 0) : 2 ≤ b.natAbs := by
  by_cases h1 : b.natAbs = 1
  · exfalso
    have : b = 1 ∨ b = -1 := by omega
    rcases this with rfl | rfl
    · exact h (Int.tmod_one a)
    · exact h (by rw [Int.tmod_neg, Int.tmod_one])
  · omega
theorem fdv_rg {a b : Int} (ha : -1000000 ≤ a ∧ a ≤ 1000000) : -1000000 ≤ fdv a b ∧ fdv a b ≤ 1000000 := by
  unfold fdv
  by_cases h : b = 0
  · rw [if_pos h]; omega
  · rw [if_neg h]
    have h1 := tdb a b
    by_cases h2 : a.tmod b ≠ 0 ∧ ¬ (a < 0 ↔ b < 0)
    · rw [if_pos h2]
      have := tdb2 a b (tmod1 h2.1 h)
      omega
    · rw [if_neg h2]; omega
def opI (c : Nat) (a b : Int) : Int :=
  if c = 1 then clp (a + b) else if c = 2 then clp (a - b) else if c = 3 then clp (a * b) else if c = 4 then fdv a b
  else if c = 5 then (if a < b then a else b) else if c = 6 then (if b < a then a else b)
  else if c = 7 then (if a < b then 1 else 0) else if c = 8 then (if b < a then 1 else 0) else if c = 9 then (if a = b then 1 else 0)
  else if c = 10 then a * b else (if 0 < a + b then 1 else 0)
theorem op_1 (a b : Int) : opI 1 a b = clp (a + b) := by
  unfold opI
  rw [if_pos rfl]
theorem op_2 (a b : Int) : opI 2 a b = clp (a - b) := by
  unfold opI
  rw [if_neg (by decide), if_pos rfl]
theorem op_3 (a b : Int) : opI 3 a b = clp (a * b) := by
  unfold opI
  rw [if_neg (by decide), if_neg (by decide), if_pos rfl]
theorem op_4 (a b : Int) : opI 4 a b = fdv a b := by
  unfold opI
  rw [if_neg (by decide), if_neg (by decide), if_neg (by decide), if_pos rfl]
theorem op_5 (a b : Int) : opI 5 a b = (if a < b then a else b) := by
  unfold opI
  rw [if_neg (by decide), if_neg (by decide), if_neg (by decide), if_neg (by decide), if_pos rfl]
theorem op_6 (a b : Int) : opI 6 a b = (if b < a then a else b) := by
  unfold opI
  rw [if_neg (by decide), if_neg (by decide), if_neg (by decide), if_neg (by decide), if_neg (by decide), if_pos rfl]
theorem op_7 (a b : Int) : opI 7 a b = (if a < b then 1 else 0) := by
  unfold opI
  rw [if_neg (by decide), if_neg (by decide), if_neg (by decide), if_neg (by decide), if_neg (by decide), if_neg (by decide), if_pos rfl]
theorem op_8 (a b : Int) : opI 8 a b = (if b < a then 1 else 0) := by
  unfold opI
  rw [if_neg (by decide), if_neg (by decide), if_neg (by decide), if_neg (by decide), if_neg (by decide), if_neg (by decide), if_neg (by decide), if_pos rfl]
theorem op_9 (a b : Int) : opI 9 a b = (if a = b then 1 else 0) := by
  unfold opI
  rw [if_neg (by decide), if_neg (by decide), if_neg (by decide), if_neg (by decide), if_neg (by decide), if_neg (by decide), if_neg (by decide), if_neg (by decide), if_pos rfl]
theorem op_10 (a b : Int) : opI 10 a b = a * b := by
  unfold opI
  rw [if_neg (by decide), if_neg (by decide), if_neg (by decide), if_neg (by decide), if_neg (by decide), if_neg (by decide), if_neg (by decide), if_neg (by decide), if_neg (by decide), if_pos rfl]
theorem op_11 (a b : Int) : opI 11 a b = (if 0 < a + b then 1 else 0) := by
  unfold opI
  rw [if_neg (by decide), if_neg (by decide), if_neg (by decide), if_neg (by decide), if_neg (by decide), if_neg (by decide), if_neg (by decide), if_neg (by decide), if_neg (by decide), if_neg (by decide)]
def Vok (b : Bool) (v : Int) : Prop := (b = true → v = 0 ∨ v = 1) ∧ (b = false → -1000000 ≤ v ∧ v ≤ 1000000)
/-- the kinds of what a code joins, and of what comes of it -/
def tyO (c : Nat) : Bool × Bool := if c < 7 then (false, false) else if c < 10 then (false, true) else (true, true)
theorem op_ok {c : Nat} {a b : Int} (h1 : 1 ≤ c) (h2 : c ≤ 11) (ha : Vok (tyO c).1 a) (hb : Vok (tyO c).1 b) : Vok (tyO c).2 (opI c a b) := by
  have hc : c = 1 ∨ c = 2 ∨ c = 3 ∨ c = 4 ∨ c = 5 ∨ c = 6 ∨ c = 7 ∨ c = 8 ∨ c = 9 ∨ c = 10 ∨ c = 11 := by omega
  rcases hc with rfl | rfl | rfl | rfl | rfl | rfl | rfl | rfl | rfl | rfl | rfl
  · rw [op_1]; exact ⟨fun h => absurd h (by decide), fun _ => clp_rg _⟩
  · rw [op_2]; exact ⟨fun h => absurd h (by decide), fun _ => clp_rg _⟩
  · rw [op_3]; exact ⟨fun h => absurd h (by decide), fun _ => clp_rg _⟩
  · rw [op_4]; exact ⟨fun h => absurd h (by decide), fun _ => fdv_rg (ha.2 (by decide))⟩
  · rw [op_5]
    refine ⟨fun h => absurd h (by decide), fun _ => ?_⟩
    have := ha.2 (by decide); have := hb.2 (by decide)
    split <;> omega
  · rw [op_6]
    refine ⟨fun h => absurd h (by decide), fun _ => ?_⟩
    have := ha.2 (by decide); have := hb.2 (by decide)
    split <;> omega
  · rw [op_7]
    refine ⟨fun _ => ?_, fun h => absurd h (by decide)⟩
    split <;> simp
  · rw [op_8]
    refine ⟨fun _ => ?_, fun h => absurd h (by decide)⟩
    split <;> simp
  · rw [op_9]
    refine ⟨fun _ => ?_, fun h => absurd h (by decide)⟩
    split <;> simp
  · rw [op_10]
    refine ⟨fun _ => ?_, fun h => absurd h (by decide)⟩
    rcases ha.1 (by decide) with rfl | rfl <;> rcases hb.1 (by decide) with rfl | rfl <;> simp
  · rw [op_11]
    refine ⟨fun _ => ?_, fun h => absurd h (by decide)⟩
    split <;> simp
def wd (k : Nat) : Nat := [18, 19, 10, 11, 20, 15, 21, 22, 23, 24, 2, 5, 12].getD k 0
def trn (c : Nat) : Int32 :=
  if 1000 ≤ c then nI (c - 1000) else if 60 ≤ c then (if c = 60 then -13 else -14) else if 40 ≤ c then nI (10000 + wd (c - 40))
  else if c = 13 then 1 else if c = 12 then -12 else [0, -6, -7, -8, -9, -10, -11, -3, -4, -5, -2, -1].getD c 0
/-- one code: env tells the parts, sh and dr those of a number -/
def evS (env : Nat → Int) (sh dr : Int → Int) (c : Nat) (s : List Int) : List Int :=
  if 1000 ≤ c then ((c - 1000 : Nat) : Int) :: s
  else if 60 ≤ c then (match s with | v :: t => (if c = 60 then sh v else dr v) :: t | [] => [])
  else if 40 ≤ c then env (c - 40) :: s
  else if c = 13 then 1 :: s
  else if c = 12 then (match s with | v :: t => (1 - v) :: t | [] => [])
  else (match s with | b :: a :: t => opI c a b :: t | _ => [])
def evA (env : Nat → Int) (sh dr : Int → Int) : List Nat → List Int → List Int
  | [], s => s
  | c :: cs, s => evA env sh dr cs (evS env sh dr c s)
def tyS (c : Nat) (T : List Bool) : Option (List Bool) :=
  if 1000 ≤ c then (if c < 11000 then some (false :: T) else none)
  else if 60 ≤ c then (match T with | false :: t => if c < 62 then some (false :: t) else none | _ => none)
  else if 40 ≤ c then (if c < 53 then some (false :: T) else none)
  else if c = 13 then some (true :: T)
  else if c = 12 then (match T with | true :: t => some (true :: t) | _ => none)
  else if 1 ≤ c ∧ c ≤ 11 then (match T with | y :: x :: t => if y = (tyO c).1 ∧ x = (tyO c).1 then some ((tyO c).2 :: t) else none | _ => none)
  else none
def tyA : List Nat → List Bool → Option (List Bool)
  | [], T => some T
  | c :: cs, T => (tyS c T).bind fun T' => if T'.length ≤ 60 then tyA cs T' else none
theorem tyA_app (xs ys : List Nat) : ∀ T, tyA (xs ++ ys) T = (tyA xs T).bind (tyA ys) := by
  induction xs with
  | nil => intro T; rfl
  | cons c xs ih =>
    intro T
    show (tyS c T).bind _ = ((tyS c T).bind _).bind _
    cases tyS c T with
    | none => rfl
    | some T' =>
      show (if T'.length ≤ 60 then tyA (xs ++ ys) T' else none) = (if T'.length ≤ 60 then tyA xs T' else none).bind _
      by_cases h : T'.length ≤ 60
      · rw [if_pos h, if_pos h]; exact ih T'
      · rw [if_neg h, if_neg h]; rfl
def Tyd : List Bool → List Int → Prop
  | [], [] => True
  | b :: T, v :: s => Vok b v ∧ Tyd T s
  | _, _ => False
theorem Tyd.len : ∀ {T : List Bool} {s : List Int}, Tyd T s → s.length = T.length
  | [], [], _ => rfl
  | _ :: _, _ :: _, h => congrArg Nat.succ (Tyd.len h.2)
  | [], _ :: _, h => h.elim
  | _ :: _, [], h => h.elim
/-- a pile: the last put is the list's first -/
def Stk (g : Nat → Int) : List Int → Prop
  | [] => True
  | v :: s => g s.length = v ∧ Stk g s
theorem Stk.cong {g g' : Nat → Int} : ∀ {s : List Int}, Stk g s → (∀ i, i < s.length → g' i = g i) → Stk g' s
  | [], _, _ => trivial
  | v :: s, h, hg => ⟨(hg s.length (by show s.length < s.length + 1; omega)).trans h.1, Stk.cong h.2 (fun i hi => hg i (by show i < s.length + 1; omega))⟩
/-- the parts that the codes ask for are good -/
def Env (env : Nat → Int) (sh dr : Int → Int) (cs : List Nat) : Prop := ∀ c ∈ cs, (40 ≤ c → c < 53 → -1000000 ≤ env (c - 40) ∧ env (c - 40) ≤ 1000000) ∧ (60 ≤ c → c < 62 → ∀ v, (-1000000 ≤ sh v ∧ sh v ≤ 1000000) ∧ (-1000000 ≤ dr v ∧ dr v ≤ 1000000))
theorem ev_ty {env : Nat → Int} {sh dr : Int → Int} {c : Nat} {T T' : List Bool} {s : List Int} (he : Env env sh dr [c]) (h : tyS c T = some T') (hT : Tyd T s) : Tyd T' (evS env sh dr c s) := by
  have he := he c (List.mem_cons_self)
  unfold tyS at h
  unfold evS
  by_cases h1 : 1000 ≤ c
  · rw [if_pos h1] at h ⊢
    by_cases h2 : c < 11000
    · rw [if_pos h2] at h
      obtain rfl := Option.some.inj h
      exact ⟨⟨fun q => (by cases q), fun _ => by omega⟩, hT⟩
    · rw [if_neg h2] at h; cases h
  · rw [if_neg h1] at h ⊢
    by_cases h2 : 60 ≤ c
    · rw [if_pos h2] at h ⊢
      match T, s, hT with
      | [], _, _ => cases h
      | true :: _, _, _ => cases h
      | false :: t, v :: s, hT =>
        dsimp only at h
        by_cases h3 : c < 62
        · rw [if_pos h3] at h
          obtain rfl := Option.some.inj h
          refine ⟨⟨fun q => (by cases q), fun _ => ?_⟩, hT.2⟩
          have := he.2 h2 h3 v
          by_cases h4 : c = 60
          · rw [if_pos h4]; exact this.1
          · rw [if_neg h4]; exact this.2
        · rw [if_neg h3] at h; cases h
    · rw [if_neg h2] at h ⊢
      by_cases h3 : 40 ≤ c
      · rw [if_pos h3] at h ⊢
        by_cases h4 : c < 53
        · rw [if_pos h4] at h
          obtain rfl := Option.some.inj h
          exact ⟨⟨fun q => (by cases q), fun _ => he.1 h3 h4⟩, hT⟩
        · rw [if_neg h4] at h; cases h
      · rw [if_neg h3] at h ⊢
        by_cases h4 : c = 13
        · rw [if_pos h4] at h ⊢
          obtain rfl := Option.some.inj h
          exact ⟨⟨fun _ => Or.inr rfl, fun q => by cases q⟩, hT⟩
        · rw [if_neg h4] at h ⊢
          by_cases h5 : c = 12
          · rw [if_pos h5] at h ⊢
            match T, s, hT with
            | [], _, _ => cases h
            | false :: _, _, _ => cases h
            | true :: t, v :: s, hT =>
              obtain rfl := Option.some.inj h
              refine ⟨⟨fun _ => ?_, fun q => by cases q⟩, hT.2⟩
              rcases hT.1.1 rfl with rfl | rfl <;> decide
          · rw [if_neg h5] at h ⊢
            by_cases h6 : 1 ≤ c ∧ c ≤ 11
            · rw [if_pos h6] at h
              match T, s, hT with
              | [], _, _ => cases h
              | [_], _, _ => cases h
              | y :: x :: t, [], hT => exact hT.elim
              | y :: x :: t, [_], hT => exact hT.2.elim
              | y :: x :: t, b :: a :: s, hT =>
                dsimp only at h
                by_cases h7 : y = (tyO c).1 ∧ x = (tyO c).1
                · rw [if_pos h7] at h
                  obtain rfl := Option.some.inj h
                  obtain ⟨rfl, rfl⟩ := h7
                  exact ⟨op_ok h6.1 h6.2 hT.2.1 hT.1, hT.2.2⟩
                · rw [if_neg h7] at h; cases h
            · rw [if_neg h6] at h; cases h
