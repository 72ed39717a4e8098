/-! THE REFERENCE's pile, as a machine over tokens: a sum -/
abbrev Sg : Type := Nat × Nat × List Nat × List Nat × Nat
def endsP : List Nat → List Nat → Nat → List Nat × List Nat × Nat
  | s :: S, R, o => if 60 ≤ s then endsP S (R ++ [s]) (o - 1) else (s :: S, R, o)
  | [], R, o => ([], R, o)
def isB (s : Nat) : Bool := decide (20 ≤ s ∧ s ≤ 24)
def brk : List Nat → Nat
  | [] => 0
  | s :: S => if isB s = true then s else brk S
def dropW (p : Nat → Bool) : List Nat → List Nat → List Nat × List Nat
  | s :: S, R => if p s = true then dropW p S (R ++ [s]) else (s :: S, R)
  | [], R => ([], R)
def nB (s : Nat) : Bool := !(isB s)
def isMul (s : Nat) : Bool := decide (s = 3 ∨ s = 4)
def isOp (s : Nat) : Bool := decide (1 ≤ s ∧ s ≤ 4)
def clC (b : Nat) : List Nat := if b = 20 then [] else if b = 23 then [5] else [6]
def flt (k : Int32) (p : Int32) : Sg ⊕ Rs := .inr (.inl (k, p))
def stp (wh : Nat) (T : Tk) (σ : Sg) : Sg ⊕ Rs :=
  if σ.1 = 0 then
    if isS T σ.2.1 40 = true then (if σ.2.2.2.2 = 6 then flt 4 (T 4 σ.2.1) else .inl (0, σ.2.1 + 1, 20 :: σ.2.2.1, σ.2.2.2.1, σ.2.2.2.2 + 1))
    else if mmC T σ.2.1 ≠ 0 then (if isS T (σ.2.1 + 1) 40 = true then (if σ.2.2.2.2 = 6 then flt 4 (T 4 (σ.2.1 + 1)) else .inl (0, σ.2.1 + 2, (16 + mmC T σ.2.1) :: σ.2.2.1, σ.2.2.2.1, σ.2.2.2.2 + 1)) else flt 1 (T 4 (σ.2.1 + 1)))
    else if kof wh T σ.2.1 = 13 ∨ kof wh T σ.2.1 = 14 then (if σ.2.2.2.2 = 6 then flt 4 (T 4 σ.2.1) else .inl (0, σ.2.1 + 1, (47 + kof wh T σ.2.1) :: σ.2.2.1, σ.2.2.2.1, σ.2.2.2.2 + 1))
    else (match leaf wh T σ.2.1 with | .inl e => .inr (.inl e) | .inr q => .inl (1, q.2, endsP σ.2.2.1 (σ.2.2.2.1 ++ q.1) σ.2.2.2.2))
  else
    if isS T σ.2.1 41 = true ∧ (brk σ.2.2.1 = 20 ∨ brk σ.2.2.1 = 23 ∨ brk σ.2.2.1 = 24) then .inl (1, σ.2.1 + 1, endsP (dropW nB σ.2.2.1 σ.2.2.2.1).1.tail ((dropW nB σ.2.2.1 σ.2.2.2.1).2 ++ clC (brk σ.2.2.1)) (σ.2.2.2.2 - 1))
    else if sepM T σ.2.1 ≠ 0 then .inl (0, σ.2.1 + 1, sepM T σ.2.1 :: (dropW isMul σ.2.2.1 σ.2.2.2.1).1, (dropW isMul σ.2.2.1 σ.2.2.2.1).2, σ.2.2.2.2)
    else if sepA T σ.2.1 ≠ 0 then .inl (0, σ.2.1 + 1, sepA T σ.2.1 :: (dropW isOp σ.2.2.1 σ.2.2.2.1).1, (dropW isOp σ.2.2.1 σ.2.2.2.1).2, σ.2.2.2.2)
    else if brk σ.2.2.1 = 21 ∨ brk σ.2.2.1 = 22 then (if isS T σ.2.1 44 = true then .inl (0, σ.2.1 + 1, (brk σ.2.2.1 + 2) :: (dropW nB σ.2.2.1 σ.2.2.2.1).1.tail, (dropW nB σ.2.2.1 σ.2.2.2.1).2, σ.2.2.2.2) else flt 1 (T 4 σ.2.1))
    else if brk σ.2.2.1 ≠ 0 then flt 1 (T 4 σ.2.1)
    else .inr (.inr (σ.2.2.2.1 ++ σ.2.2.1, σ.2.1))
def rn (wh : Nat) (T : Tk) : Nat → Sg → Option Rs
  | 0, _ => none
  | n + 1, σ => match stp wh T σ with | .inl σ' => rn wh T n σ' | .inr r => some r
def Rn (wh : Nat) (T : Tk) (σ : Sg) (r : Rs) : Prop := ∃ m, rn wh T m σ = some r
theorem isS_v {T : Tk} {t c : Nat} (h : isS T t c = true) : T 3 t = 3 ∧ T 6 t = nI c := of_decide_eq_true h
theorem isW_v {T : Tk} {t c : Nat} (h : isW T t c = true) : T 3 t = 1 ∧ T 6 t = nI c := of_decide_eq_true h
theorem isS_ne {T : Tk} {t c b : Nat} (h : isS T t c = true) (hn : nI c ≠ nI b) : ¬ isS T t b = true := fun z => hn ((isS_v h).2.symm.trans (isS_v z).2)
theorem isS_W {T : Tk} {t c b : Nat} (h : isS T t c = true) : ¬ isW T t b = true := fun z => by
  have := (isS_v h).1; rw [(isW_v z).1] at this; exact absurd this (by decide)
theorem isW_S {T : Tk} {t c b : Nat} (h : isW T t c = true) : ¬ isS T t b = true := fun z => isS_W z h
theorem isW_ne {T : Tk} {t c b : Nat} (h : isW T t c = true) (hn : nI c ≠ nI b) : ¬ isW T t b = true := fun z => hn ((isW_v h).2.symm.trans (isW_v z).2)
theorem sepM_v {T : Tk} {t : Nat} (h : sepM T t ≠ 0) : (isS T t 42 = true ∧ sepM T t = 3) ∨ (isS T t 47 = true ∧ sepM T t = 4) := by
  unfold sepM at *
  by_cases a : isS T t 42 = true
  · rw [if_pos a]; exact Or.inl ⟨a, rfl⟩
  · rw [if_neg a] at h ⊢
    by_cases b : isS T t 47 = true
    · rw [if_pos b]; exact Or.inr ⟨b, rfl⟩
    · rw [if_neg b] at h; exact absurd rfl h
theorem sepA_v {T : Tk} {t : Nat} (h : sepA T t ≠ 0) : (isS T t 43 = true ∧ sepA T t = 1) ∨ (isS T t 45 = true ∧ sepA T t = 2) := by
  unfold sepA at *
  by_cases a : isS T t 43 = true
  · rw [if_pos a]; exact Or.inl ⟨a, rfl⟩
  · rw [if_neg a] at h ⊢
    by_cases b : isS T t 45 = true
    · rw [if_pos b]; exact Or.inr ⟨b, rfl⟩
    · rw [if_neg b] at h; exact absurd rfl h
theorem mmC_v {T : Tk} {t : Nat} (h : mmC T t ≠ 0) : (isW T t 31 = true ∧ mmC T t = 5) ∨ (isW T t 32 = true ∧ mmC T t = 6) := by
  unfold mmC at *
  by_cases a : isW T t 31 = true
  · rw [if_pos a]; exact Or.inl ⟨a, rfl⟩
  · rw [if_neg a] at h ⊢
    by_cases b : isW T t 32 = true
    · rw [if_pos b]; exact Or.inr ⟨b, rfl⟩
    · rw [if_neg b] at h; exact absurd rfl h
section PL
variable {wh : Nat} {T : Tk} {f : Nat → Rs} {o t e : Nat}
theorem Rn.st {σ σ' : Sg} {r : Rs} (h : stp wh T σ = .inl σ') (k : Rn wh T σ' r) : Rn wh T σ r := by
  obtain ⟨m, hm⟩ := k
  exact ⟨m + 1, by show (match stp wh T σ with | .inl σ' => rn wh T m σ' | .inr r => some r) = _; rw [h]; exact hm⟩
theorem Rn.fi {σ : Sg} {r : Rs} (h : stp wh T σ = .inr r) : Rn wh T σ r := ⟨1, by show (match stp wh T σ with | .inl σ' => rn wh T 0 σ' | .inr r => some r) = _; rw [h]⟩
theorem dropW_all {p : Nat → Bool} : ∀ (A S R : List Nat), (∀ a ∈ A, p a = true) → dropW p (A ++ S) R = dropW p S (R ++ A)
  | [], S, R, _ => by rw [List.append_nil]; rfl
  | a :: A, S, R, h => by
    show (if p a = true then dropW p (A ++ S) (R ++ [a]) else _) = _
    rw [if_pos (h a List.mem_cons_self), dropW_all A S (R ++ [a]) (fun b hb => h b (List.mem_cons_of_mem _ hb)), List.append_assoc]; rfl
theorem dropW_no {p : Nat → Bool} {S R : List Nat} (h : ∀ s S', S = s :: S' → p s = false) : dropW p S R = (S, R) := by
  match S, h with
  | [], _ => rfl
  | s :: S', h =>
    show (if p s = true then _ else _) = _
    rw [if_neg (by rw [h s S' rfl]; decide)]
theorem brk_all : ∀ (A S : List Nat), (∀ a ∈ A, isB a = false) → brk (A ++ S) = brk S
  | [], S, _ => rfl
  | a :: A, S, h => by
    show (if isB a = true then a else brk (A ++ S)) = _
    rw [if_neg (by rw [h a List.mem_cons_self]; decide)]
    exact brk_all A S (fun b hb => h b (List.mem_cons_of_mem _ hb))
theorem endsP_no {S R : List Nat} (h : ∀ s S', S = s :: S' → s < 60) : endsP S R o = (S, R, o) := by
  match S, h with
  | [], _ => rfl
  | s :: S', h =>
    show (if 60 ≤ s then _ else _) = _
    rw [if_neg (by have := h s S' rfl; omega)]
/-- what a part does to the pile -/
def PL (wh : Nat) (T : Tk) (f : Nat → Rs) (o e : Nat) : Prop := ∀ t, t ≤ e → (∀ q, f t = .inl q → ∀ S R, Rn wh T (0, t, S, R, o) (.inl q)) ∧ ∀ cs t', f t = .inr (cs, t') → ∀ S R r, Rn wh T (1, t', endsP S (R ++ cs) o) r → Rn wh T (0, t, S, R, o) r
def topOk (p : Nat → Bool) (S : List Nat) : Prop := ∀ s S', S = s :: S' → p s = false ∧ s < 60
theorem mul_op {s : Nat} (h : isMul s = true) : isOp s = true := by unfold isMul at h; unfold isOp; have := of_decide_eq_true h; exact decide_eq_true (by omega)
theorem op_nb {s : Nat} (h : isOp s = true) : isB s = false := by unfold isOp at h; unfold isB; have := of_decide_eq_true h; exact decide_eq_false (by omega)
theorem pl_loop (hE : Ends T e) (hf : PL wh T f o e) (hA : Adv e f) {S R : List Nat} (hS : topOk isMul S) : ∀ (n : Nat) (cs : List Nat) (t : Nat) (A R' : List Nat), t ≤ e → e < n + t → (∀ a ∈ A, isMul a = true) → R' ++ A = R ++ cs →
    (∀ q, lp f (sepM T) n cs t = .inl q → Rn wh T (1, t, A ++ S, R', o) (.inl q)) ∧ ∀ c2 t2 r, lp f (sepM T) n cs t = .inr (c2, t2) → (∀ A R', (∀ a ∈ A, isMul a = true) → R' ++ A = R ++ c2 → Rn wh T (1, t2, A ++ S, R', o) r) → Rn wh T (1, t, A ++ S, R', o) r
  | 0, cs, t, A, R', ht, hn, _, _ => by omega
  | n + 1, cs, t, A, R', ht, hn, hAm, hR => by
    unfold lp
    by_cases z : sepM T t = 0
    · rw [if_pos z]
      refine ⟨fun q h => (by cases h), fun c2 t2 r h k => ?_⟩
      obtain ⟨rfl, rfl⟩ := Prod.mk.inj (Sum.inr.inj h)
      exact k A R' hAm hR
    · rw [if_neg z]
      have hne := (sep_s (T := T) (e := e) t).1 z hE
      have e1 : stp wh T (1, t, A ++ S, R', o) = .inl (0, t + 1, sepM T t :: S, R ++ cs, o) := by
        unfold stp
        dsimp only
        have n41 : ¬ isS T t 41 = true := by
          rcases sepM_v z with ⟨q, _⟩ | ⟨q, _⟩ <;> exact isS_ne q (by decide)
        rw [if_neg (by decide), if_neg (fun q => n41 q.1), if_pos z, dropW_all A S R' hAm, dropW_no (fun s S' q => (hS s S' q).1), hR]
      have hM : isMul (sepM T t) = true := by
        rcases sepM_v z with ⟨_, q⟩ | ⟨_, q⟩ <;> rw [q] <;> rfl
      have hlt : sepM T t < 60 := by
        rcases sepM_v z with ⟨_, q⟩ | ⟨_, q⟩ <;> rw [q] <;> decide
      have ihf := hf (t + 1) (by omega)
      refine ⟨fun q h => ?_, fun c2 t2 r h k => ?_⟩
      · rcases rbd_e h with h | ⟨c3, t3, a1, a2⟩
        · exact Rn.st e1 (ihf.1 q h _ _)
        · obtain ⟨b1, b2, b3⟩ := hA (t + 1) c3 t3 (by omega) a1
          refine Rn.st e1 (ihf.2 c3 t3 a1 _ _ _ ?_)
          rw [endsP_no (fun s S' q => by obtain ⟨rfl, _⟩ := List.cons.inj q; exact hlt)]
          exact (pl_loop hE hf hA hS (R := R) n _ t3 [sepM T t] (R ++ cs ++ c3) b2 (by omega) (fun a ha => by rw [List.mem_singleton.mp ha]; exact hM) (by simp only [List.append_assoc])).1 q a2
      · obtain ⟨c3, t3, a1, a2⟩ := rbd_i h
        obtain ⟨b1, b2, b3⟩ := hA (t + 1) c3 t3 (by omega) a1
        refine Rn.st e1 (ihf.2 c3 t3 a1 _ _ _ ?_)
        rw [endsP_no (fun s S' q => by obtain ⟨rfl, _⟩ := List.cons.inj q; exact hlt)]
        exact (pl_loop hE hf hA hS (R := R) n _ t3 [sepM T t] (R ++ cs ++ c3) b2 (by omega) (fun a ha => by rw [List.mem_singleton.mp ha]; exact hM) (by simp only [List.append_assoc])).2 c2 t2 r a2 k
/-- a product -/
def PP (wh : Nat) (T : Tk) (f : Nat → Rs) (o e : Nat) : Prop := ∀ t S R, t ≤ e → topOk isMul S → (∀ q, f t = .inl q → Rn wh T (0, t, S, R, o) (.inl q)) ∧ ∀ cs t' r, f t = .inr (cs, t') → (∀ A R', (∀ a ∈ A, isMul a = true) → R' ++ A = R ++ cs → Rn wh T (1, t', A ++ S, R', o) r) → Rn wh T (0, t, S, R, o) r
theorem pl_prod (hE : Ends T e) (hf : PL wh T f o e) (hA : Adv e f) : PP wh T (prodOf T f) o e := by
  intro t S R ht hS
  have hE2 := hE.2
  unfold prodOf
  refine ⟨fun q h => ?_, fun cs t' r h k => ?_⟩
  · rcases rbd_e h with h | ⟨c, t1, a1, a2⟩
    · exact (hf t ht).1 q h S R
    · obtain ⟨b1, b2, b3⟩ := hA t c t1 ht a1
      refine (hf t ht).2 c t1 a1 S R _ ?_
      rw [endsP_no (fun s S' q => (hS s S' q).2)]
      exact (pl_loop hE hf hA hS (R := R) 2000 c t1 [] (R ++ c) b2 (by omega) (fun a ha => absurd ha List.not_mem_nil) (List.append_nil _)).1 q a2
  · obtain ⟨c, t1, a1, a2⟩ := rbd_i h
    obtain ⟨b1, b2, b3⟩ := hA t c t1 ht a1
    refine (hf t ht).2 c t1 a1 S R _ ?_
    rw [endsP_no (fun s S' q => (hS s S' q).2)]
    exact (pl_loop hE hf hA hS (R := R) 2000 c t1 [] (R ++ c) b2 (by omega) (fun a ha => absurd ha List.not_mem_nil) (List.append_nil _)).2 cs t' r a2 k
theorem ps_loop (hE : Ends T e) (hf : PP wh T f o e) (hA : Adv e f) {S R : List Nat} (hS : topOk isOp S) (hfm : ∀ t cs t', t ≤ e → f t = .inr (cs, t') → sepM T t' = 0) : ∀ (n : Nat) (cs : List Nat) (t : Nat) (A R' : List Nat), t ≤ e → e < n + t → sepM T t = 0 → (∀ a ∈ A, isOp a = true) → R' ++ A = R ++ cs →
    (∀ q, lp f (sepA T) n cs t = .inl q → Rn wh T (1, t, A ++ S, R', o) (.inl q)) ∧ ∀ c2 t2 r, lp f (sepA T) n cs t = .inr (c2, t2) → (∀ A R', sepM T t2 = 0 → (∀ a ∈ A, isOp a = true) → R' ++ A = R ++ c2 → Rn wh T (1, t2, A ++ S, R', o) r) → Rn wh T (1, t, A ++ S, R', o) r
  | 0, cs, t, A, R', ht, hn, _, _, _ => by omega
  | n + 1, cs, t, A, R', ht, hn, hm, hAm, hR => by
    unfold lp
    by_cases z : sepA T t = 0
    · rw [if_pos z]
      refine ⟨fun q h => (by cases h), fun c2 t2 r h k => ?_⟩
      obtain ⟨rfl, rfl⟩ := Prod.mk.inj (Sum.inr.inj h)
      exact k A R' hm hAm hR
    · rw [if_neg z]
      have hne := (sep_s (T := T) (e := e) t).2.1 z hE
      have e1 : stp wh T (1, t, A ++ S, R', o) = .inl (0, t + 1, sepA T t :: S, R ++ cs, o) := by
        unfold stp
        dsimp only
        have n41 : ¬ isS T t 41 = true := by
          rcases sepA_v z with ⟨q, _⟩ | ⟨q, _⟩ <;> exact isS_ne q (by decide)
        rw [if_neg (by decide), if_neg (fun q => n41 q.1), if_neg (fun q => q hm), if_pos z, dropW_all A S R' hAm, dropW_no (fun s S' q => (hS s S' q).1), hR]
      have hM : isOp (sepA T t) = true := by
        rcases sepA_v z with ⟨_, q⟩ | ⟨_, q⟩ <;> rw [q] <;> rfl
      have htop : topOk isMul (sepA T t :: S) := by
        intro s S' q
        obtain ⟨rfl, _⟩ := List.cons.inj q
        rcases sepA_v z with ⟨_, q⟩ | ⟨_, q⟩ <;> rw [q] <;> exact ⟨rfl, by decide⟩
      have hJ : ∀ c3 t3, f (t + 1) = .inr (c3, t3) → t3 ≤ e → (e < n + t3) → ∀ A2 R2, (∀ a ∈ A2, isMul a = true) → R2 ++ A2 = R ++ cs ++ c3 → ((∀ q, lp f (sepA T) n (cs ++ c3 ++ [sepA T t]) t3 = .inl q → Rn wh T (1, t3, A2 ++ (sepA T t :: S), R2, o) (.inl q)) ∧ ∀ c2 t2 r, lp f (sepA T) n (cs ++ c3 ++ [sepA T t]) t3 = .inr (c2, t2) → (∀ A R', sepM T t2 = 0 → (∀ a ∈ A, isOp a = true) → R' ++ A = R ++ c2 → Rn wh T (1, t2, A ++ S, R', o) r) → Rn wh T (1, t3, A2 ++ (sepA T t :: S), R2, o) r) := by
        intro c3 t3 a1 b2 b3 A2 R2 hA2 hR2
        have := ps_loop hE hf hA hS hfm (R := R) n (cs ++ c3 ++ [sepA T t]) t3 (A2 ++ [sepA T t]) R2 b2 b3 (hfm (t + 1) c3 t3 (by omega) a1) (fun a ha => by
          rcases List.mem_append.mp ha with ha | ha
          · exact mul_op (hA2 a ha)
          · rw [List.mem_singleton.mp ha]; exact hM) (by rw [← List.append_assoc, hR2]; simp only [List.append_assoc])
        rw [show A2 ++ [sepA T t] ++ S = A2 ++ sepA T t :: S by rw [List.append_assoc]; rfl] at this
        exact this
      refine ⟨fun q h => ?_, fun c2 t2 r h k => ?_⟩
      · rcases rbd_e h with h | ⟨c3, t3, a1, a2⟩
        · exact Rn.st e1 ((hf (t + 1) _ _ (by omega) htop).1 q h)
        · obtain ⟨b1, b2, b3⟩ := hA (t + 1) c3 t3 (by omega) a1
          exact Rn.st e1 ((hf (t + 1) _ _ (by omega) htop).2 c3 t3 _ a1 (fun A2 R2 hA2 hR2 => (hJ c3 t3 a1 b2 (by omega) A2 R2 hA2 hR2).1 q a2))
      · obtain ⟨c3, t3, a1, a2⟩ := rbd_i h
        obtain ⟨b1, b2, b3⟩ := hA (t + 1) c3 t3 (by omega) a1
        exact Rn.st e1 ((hf (t + 1) _ _ (by omega) htop).2 c3 t3 _ a1 (fun A2 R2 hA2 hR2 => (hJ c3 t3 a1 b2 (by omega) A2 R2 hA2 hR2).2 c2 t2 r a2 k))
/-- a sum -/
def PS (wh : Nat) (T : Tk) (f : Nat → Rs) (o e : Nat) : Prop := ∀ t S R, t ≤ e → topOk isOp S → (∀ q, f t = .inl q → Rn wh T (0, t, S, R, o) (.inl q)) ∧ ∀ cs t' r, f t = .inr (cs, t') → (sepM T t' = 0 → sepA T t' = 0 → ∀ A R', (∀ a ∈ A, isOp a = true) → R' ++ A = R ++ cs → Rn wh T (1, t', A ++ S, R', o) r) → Rn wh T (0, t, S, R, o) r
theorem prod_end (hE : Ends T e) (hA : Adv e f) : ∀ t cs t', t ≤ e → prodOf T f t = .inr (cs, t') → sepM T t' = 0 := by
  intro t cs t' ht h
  have hE2 := hE.2
  obtain ⟨c, t1, a1, a2⟩ := rbd_i h
  obtain ⟨b1, b2, b3⟩ := hA t c t1 ht a1
  exact (lp_adv hA (fun t z => (sep_s t).1 z hE) 2000 c t1 cs t' b2 (by omega) a2).2.2.2
theorem pl_sum (hE : Ends T e) (hf : PL wh T f o e) (hA : Adv e f) : PS wh T (sumOf T f) o e := by
  intro t S R ht hS
  have hE2 := hE.2
  have hp := pl_prod hE hf hA
  have hAp := prod_adv hE hA
  have hfm := prod_end hE hA
  have htop : topOk isMul S := by
    intro s S' q
    refine ⟨?_, (hS s S' q).2⟩
    cases z : isMul s with
    | false => rfl
    | true => have w := mul_op z; rw [(hS s S' q).1] at w; cases w
  have hJ : ∀ c t1, prodOf T f t = .inr (c, t1) → t1 ≤ e → ∀ A R', (∀ a ∈ A, isMul a = true) → R' ++ A = R ++ c → _ := fun c t1 a1 b2 A R' hA' hR' => ps_loop hE hp hAp hS hfm (R := R) 2000 c t1 A R' b2 (by omega) (hfm t c t1 ht a1) (fun a ha => mul_op (hA' a ha)) hR'
  unfold sumOf
  refine ⟨fun q h => ?_, fun cs t' r h k => ?_⟩
  · rcases rbd_e h with h | ⟨c, t1, a1, a2⟩
    · exact (hp t S R ht htop).1 q h
    · obtain ⟨b1, b2, b3⟩ := hAp t c t1 ht a1
      exact (hp t S R ht htop).2 c t1 _ a1 (fun A R' hA' hR' => (hJ c t1 a1 b2 A R' hA' hR').1 q a2)
  · obtain ⟨c, t1, a1, a2⟩ := rbd_i h
    obtain ⟨b1, b2, b3⟩ := hAp t c t1 ht a1
    have hz := (lp_adv hAp (fun t z => (sep_s t).2.1 z hE) 2000 c t1 cs t' b2 (by omega) a2).2.2.2
    exact (hp t S R ht htop).2 c t1 _ a1 (fun A R' hA' hR' => (hJ c t1 a1 b2 A R' hA' hR').2 cs t' r a2 (fun A R' hm hA2 hR2 => k hm hz A R' hA2 hR2))
theorem top_b {b : Nat} {S : List Nat} (h : isB b = true) : topOk isOp (b :: S) := by
  intro s S' q
  obtain ⟨rfl, _⟩ := List.cons.inj q
  have := of_decide_eq_true h
  exact ⟨decide_eq_false (by omega), by omega⟩
theorem drop_br {b : Nat} {A S R : List Nat} (hA : ∀ a ∈ A, isOp a = true) (hb : isB b = true) : brk (A ++ b :: S) = b ∧ dropW nB (A ++ b :: S) R = (b :: S, R ++ A) := by
  refine ⟨?_, ?_⟩
  · rw [brk_all A _ (fun a ha => op_nb (hA a ha))]
    show (if isB b = true then b else _) = b
    rw [if_pos hb]
  · rw [dropW_all A _ _ (fun a ha => by unfold nB; rw [op_nb (hA a ha)]; rfl), dropW_no (fun s S' q => by obtain ⟨rfl, _⟩ := List.cons.inj q; unfold nB; rw [hb]; rfl)]
/-- a bracket is closed, or isn't -/
theorem close_y {b : Nat} {A S R' : List Nat} (hA : ∀ a ∈ A, isOp a = true) (hb : b = 20 ∨ b = 23 ∨ b = 24) (h41 : isS T t 41 = true) : stp wh T (1, t, A ++ b :: S, R', o + 1) = .inl (1, t + 1, endsP S (R' ++ A ++ clC b) o) := by
  have hB : isB b = true := by rcases hb with rfl | rfl | rfl <;> rfl
  obtain ⟨h1, h2⟩ := drop_br (S := S) (R := R') hA hB
  unfold stp
  dsimp only
  rw [if_neg (by decide), if_pos ⟨h41, by rw [h1]; exact hb⟩, h2, h1]
  rfl
theorem close_n {b : Nat} {A S R' : List Nat} (hA : ∀ a ∈ A, isOp a = true) (hb : b = 20 ∨ b = 23 ∨ b = 24) (h41 : ¬ isS T t 41 = true) (hm : sepM T t = 0) (ha : sepA T t = 0) : stp wh T (1, t, A ++ b :: S, R', o) = flt 1 (T 4 t) := by
  have hB : isB b = true := by rcases hb with rfl | rfl | rfl <;> rfl
  obtain ⟨h1, h2⟩ := drop_br (S := S) (R := R') hA hB
  unfold stp
  dsimp only
  rw [if_neg (by decide), if_neg (fun q => h41 q.1), if_neg (fun q => q hm), if_neg (fun q => q ha), if_neg (by rw [h1]; omega), if_pos (by rw [h1]; omega)]
theorem comma_y {b : Nat} {A S R' : List Nat} (hA : ∀ a ∈ A, isOp a = true) (hb : b = 21 ∨ b = 22) (h44 : isS T t 44 = true) : stp wh T (1, t, A ++ b :: S, R', o) = .inl (0, t + 1, (b + 2) :: S, R' ++ A, o) := by
  have hB : isB b = true := by rcases hb with rfl | rfl <;> rfl
  obtain ⟨h1, h2⟩ := drop_br (S := S) (R := R') hA hB
  have hm : sepM T t = 0 := by
    unfold sepM; rw [if_neg (isS_ne h44 (by decide)), if_neg (isS_ne h44 (by decide))]
  have ha : sepA T t = 0 := by
    unfold sepA; rw [if_neg (isS_ne h44 (by decide)), if_neg (isS_ne h44 (by decide))]
  unfold stp
  dsimp only
  rw [if_neg (by decide), if_neg (fun q => isS_ne h44 (by decide) q.1), if_neg (fun q => q hm), if_neg (fun q => q ha), if_pos (by rw [h1]; exact hb), if_pos h44, h2, h1]
  rfl
theorem comma_n {b : Nat} {A S R' : List Nat} (hA : ∀ a ∈ A, isOp a = true) (hb : b = 21 ∨ b = 22) (h44 : ¬ isS T t 44 = true) (hm : sepM T t = 0) (ha : sepA T t = 0) : stp wh T (1, t, A ++ b :: S, R', o) = flt 1 (T 4 t) := by
  have hB : isB b = true := by rcases hb with rfl | rfl <;> rfl
  obtain ⟨h1, h2⟩ := drop_br (S := S) (R := R') hA hB
  unfold stp
  dsimp only
  rw [if_neg (by decide), if_neg (by rw [h1]; omega), if_neg (fun q => q hm), if_neg (fun q => q ha), if_pos (by rw [h1]; exact hb), if_neg h44]
theorem leaf_pl (hleaf : stp wh T = stp wh T) {S R : List Nat} (h1 : ¬ isS T t 40 = true) (h2 : ¬ mmC T t ≠ 0) (h3 : ¬ (kof wh T t = 13 ∨ kof wh T t = 14)) : (∀ q, leaf wh T t = .inl q → Rn wh T (0, t, S, R, o) (.inl q)) ∧ ∀ cs t' r, leaf wh T t = .inr (cs, t') → Rn wh T (1, t', endsP S (R ++ cs) o) r → Rn wh T (0, t, S, R, o) r := by
  refine ⟨fun q h => Rn.fi ?_, fun cs t' r h k => Rn.st ?_ k⟩
  · unfold stp
    dsimp only
    rw [if_pos rfl, if_neg h1, if_neg h2, if_neg h3, h]
  · unfold stp
    dsimp only
    rw [if_pos rfl, if_neg h1, if_neg h2, if_neg h3, h]
theorem pl_part (hE : Ends T e) : ∀ d, d ≤ 6 → PL wh T (pPart wh T d) (6 - d) e
  | 0, _ => by
    intro t ht
    unfold pPart
    by_cases h1 : isS T t 40 = true
    · rw [if_pos h1]
      refine ⟨fun q h S R => ?_, fun cs t' h => (by cases h)⟩
      obtain rfl := Sum.inl.inj h
      refine Rn.fi ?_
      unfold stp; dsimp only
      rw [if_pos rfl, if_pos h1, if_pos rfl]; rfl
    · rw [if_neg h1]
      by_cases h2 : mmC T t ≠ 0
      · rw [if_pos h2]
        unfold askS
        by_cases h4 : isS T (t + 1) 40 = true
        · rw [if_pos h4]
          refine ⟨fun q h S R => ?_, fun cs t' h => (by cases h)⟩
          obtain rfl := Sum.inl.inj h
          refine Rn.fi ?_
          unfold stp; dsimp only
          rw [if_pos rfl, if_neg h1, if_pos h2, if_pos h4, if_pos rfl]; rfl
        · rw [if_neg h4]
          refine ⟨fun q h S R => ?_, fun cs t' h => (by cases h)⟩
          obtain rfl := Sum.inl.inj h
          refine Rn.fi ?_
          unfold stp; dsimp only
          rw [if_pos rfl, if_neg h1, if_pos h2, if_neg h4]; rfl
      · rw [if_neg h2]
        by_cases h3 : kof wh T t = 13 ∨ kof wh T t = 14
        · rw [if_pos h3]
          refine ⟨fun q h S R => ?_, fun cs t' h => (by cases h)⟩
          obtain rfl := Sum.inl.inj h
          refine Rn.fi ?_
          unfold stp; dsimp only
          rw [if_pos rfl, if_neg h1, if_neg h2, if_pos h3, if_pos rfl]; rfl
        · rw [if_neg h3]
          exact ⟨fun q h S R => (leaf_pl rfl h1 h2 h3).1 q h, fun cs t' h S R r k => (leaf_pl rfl h1 h2 h3).2 cs t' r h k⟩
  | d + 1, hd => by
    have ih := pl_part hE d (by omega)
    have iha := part_adv (wh := wh) hE d
    have ihs := pl_sum hE ih iha
    have ihsa := sum_adv hE iha
    have eo : 6 - d = 6 - (d + 1) + 1 := by omega
    have no6 : ¬ 6 - (d + 1) = 6 := by omega
    rw [eo] at ih ihs
    intro t ht
    generalize 6 - (d + 1) = o at *
    unfold pPart
    by_cases h1 : isS T t 40 = true
    · rw [if_pos h1]
      have n1 := hE.s h1
      have e1 : ∀ S R, stp wh T (0, t, S, R, o) = .inl (0, t + 1, 20 :: S, R, o + 1) := by
        intro S R
        unfold stp; dsimp only
        rw [if_pos rfl, if_pos h1, if_neg no6]
      refine ⟨fun q h S R => Rn.st (e1 S R) ?_, fun cs t' h S R r k => Rn.st (e1 S R) ?_⟩
      · rcases rbd_e h with h | ⟨c, t1, a1, a2⟩
        · exact (ihs (t + 1) _ _ (by omega) (top_b rfl)).1 q h
        · refine (ihs (t + 1) _ _ (by omega) (top_b rfl)).2 c t1 _ a1 (fun hm ha A R' hA hR => ?_)
          unfold askS at a2
          by_cases h4 : isS T t1 41 = true
          · rw [if_pos h4] at a2; cases a2
          · rw [if_neg h4] at a2
            obtain rfl := Sum.inl.inj a2
            exact Rn.fi (close_n hA (Or.inl rfl) h4 hm ha)
      · obtain ⟨c, t1, a1, a2⟩ := rbd_i h
        obtain ⟨b1, b2⟩ := askS_i a2
        obtain ⟨rfl, rfl⟩ := Prod.mk.inj (Sum.inr.inj b2)
        refine (ihs (t + 1) _ _ (by omega) (top_b rfl)).2 c t1 _ a1 (fun hm ha A R' hA hR => ?_)
        refine Rn.st (close_y hA (Or.inl rfl) b1) ?_
        rw [hR]
        have : clC 20 = [] := rfl
        rw [this, List.append_nil]
        exact k
    · rw [if_neg h1]
      by_cases h2 : mmC T t ≠ 0
      · rw [if_pos h2]
        have n1 := mm_e hE h2
        have hb : 16 + mmC T t = 21 ∨ 16 + mmC T t = 22 := by
          rcases mmC_v h2 with ⟨_, q⟩ | ⟨_, q⟩ <;> rw [q]
          · exact Or.inl rfl
          · exact Or.inr rfl
        have hbc : 16 + mmC T t + 2 = 20 ∨ 16 + mmC T t + 2 = 23 ∨ 16 + mmC T t + 2 = 24 := by omega
        have hcl : clC (16 + mmC T t + 2) = [mmC T t] := by
          rcases mmC_v h2 with ⟨_, q⟩ | ⟨_, q⟩ <;> rw [q] <;> rfl
        have tb1 : ∀ S, topOk isOp ((16 + mmC T t) :: S) := fun S => top_b (decide_eq_true (by omega))
        have tb2 : ∀ S, topOk isOp ((16 + mmC T t + 2) :: S) := fun S => top_b (decide_eq_true (by omega))
        unfold askS
        by_cases h4 : isS T (t + 1) 40 = true
        · rw [if_pos h4]
          have n2 := hE.s h4
          have e1 : ∀ S R, stp wh T (0, t, S, R, o) = .inl (0, t + 2, (16 + mmC T t) :: S, R, o + 1) := by
            intro S R
            unfold stp; dsimp only
            rw [if_pos rfl, if_neg h1, if_pos h2, if_pos h4, if_neg no6]
          refine ⟨fun q h S R => Rn.st (e1 S R) ?_, fun cs t' h S R r k => Rn.st (e1 S R) ?_⟩
          · rcases rbd_e h with h | ⟨c, t1, a1, a2⟩
            · exact (ihs (t + 2) _ _ (by omega) (tb1 S)).1 q h
            · obtain ⟨d1, d2, d3⟩ := ihsa (t + 2) c t1 (by omega) a1
              refine (ihs (t + 2) _ _ (by omega) (tb1 S)).2 c t1 _ a1 (fun hm ha A R' hA hR => ?_)
              by_cases h5 : isS T t1 44 = true
              · rw [if_pos h5] at a2
                have n3 := hE.s h5
                refine Rn.st (comma_y hA hb h5) ?_
                rcases rbd_e a2 with h | ⟨c2, t2, a3, a4⟩
                · exact (ihs (t1 + 1) _ _ (by omega) (tb2 S)).1 q h
                · refine (ihs (t1 + 1) _ _ (by omega) (tb2 S)).2 c2 t2 _ a3 (fun hm ha A R' hA hR => ?_)
                  by_cases h6 : isS T t2 41 = true
                  · rw [if_pos h6] at a4; cases a4
                  · rw [if_neg h6] at a4
                    obtain rfl := Sum.inl.inj a4
                    exact Rn.fi (close_n hA hbc h6 hm ha)
              · rw [if_neg h5] at a2
                obtain rfl := Sum.inl.inj a2
                exact Rn.fi (comma_n hA hb h5 hm ha)
          · obtain ⟨c, t1, a1, a2⟩ := rbd_i h
            obtain ⟨d1, d2, d3⟩ := ihsa (t + 2) c t1 (by omega) a1
            by_cases h5 : isS T t1 44 = true
            · rw [if_pos h5] at a2
              have n3 := hE.s h5
              obtain ⟨c2, t2, a3, a4⟩ := rbd_i a2
              by_cases h6 : isS T t2 41 = true
              · rw [if_pos h6] at a4
                obtain ⟨rfl, rfl⟩ := Prod.mk.inj (Sum.inr.inj a4)
                refine (ihs (t + 2) _ _ (by omega) (tb1 S)).2 c t1 _ a1 (fun hm ha A R' hA hR => ?_)
                refine Rn.st (comma_y hA hb h5) ?_
                rw [hR]
                refine (ihs (t1 + 1) _ _ (by omega) (tb2 S)).2 c2 t2 _ a3 (fun hm ha A R' hA hR => ?_)
                refine Rn.st (close_y hA hbc h6) ?_
                rw [hR, hcl]
                simp only [List.append_assoc] at k ⊢
                exact k
              · rw [if_neg h6] at a4; cases a4
            · rw [if_neg h5] at a2; cases a2
        · rw [if_neg h4]
          refine ⟨fun q h S R => ?_, fun cs t' h => (by cases h)⟩
          obtain rfl := Sum.inl.inj h
          refine Rn.fi ?_
          unfold stp; dsimp only
          rw [if_pos rfl, if_neg h1, if_pos h2, if_neg h4]; rfl
      · rw [if_neg h2]
        by_cases h3 : kof wh T t = 13 ∨ kof wh T t = 14
        · rw [if_pos h3]
          have n1 : t ≠ e := by
            intro q
            have := kof_w (T := T) (wh := wh) (t := t) (by omega)
            rw [q, hE.1] at this; exact absurd this (by decide)
          have e1 : ∀ S R, stp wh T (0, t, S, R, o) = .inl (0, t + 1, (47 + kof wh T t) :: S, R, o + 1) := by
            intro S R
            unfold stp; dsimp only
            rw [if_pos rfl, if_neg h1, if_neg h2, if_pos h3, if_neg no6]
          refine ⟨fun q h S R => Rn.st (e1 S R) ?_, fun cs t' h S R r k => Rn.st (e1 S R) ?_⟩
          · rcases rbd_e h with h | ⟨c, t1, a1, a2⟩
            · exact (ih (t + 1) (by omega)).1 q h _ _
            · cases a2
          · obtain ⟨c, t1, a1, a2⟩ := rbd_i h
            obtain ⟨rfl, rfl⟩ := Prod.mk.inj (Sum.inr.inj a2)
            refine (ih (t + 1) (by omega)).2 c t1 a1 _ _ _ ?_
            have : endsP ((47 + kof wh T t) :: S) (R ++ c) (o + 1) = endsP S (R ++ c ++ [47 + kof wh T t]) o := by
              show (if 60 ≤ 47 + kof wh T t then _ else _) = _
              rw [if_pos (by omega)]; rfl
            rw [this, List.append_assoc]
            exact k
        · rw [if_neg h3]
          exact ⟨fun q h S R => (leaf_pl rfl h1 h2 h3).1 q h, fun cs t' h S R r k => (leaf_pl rfl h1 h2 h3).2 cs t' r h k⟩
/-- a whole sum -/
theorem pl_whole {d : Nat} (hE : Ends T e) (hd : d ≤ 6) (ht : t ≤ e) (R : List Nat) : Rn wh T (0, t, [], R, 6 - d) (match pSum wh T d t with | .inl q => .inl q | .inr q => .inr (R ++ q.1, q.2)) := by
  have h := pl_sum hE (pl_part (wh := wh) hE d hd) (part_adv hE d) t [] R ht (fun s S' q => by cases q)
  unfold pSum
  match z : sumOf T (pPart wh T d) t with
  | .inl q => exact h.1 q z
  | .inr (cs, t') =>
    refine h.2 cs t' _ z (fun hm ha A R' hA hR => Rn.fi ?_)
    have hb : brk (A ++ []) = 0 := brk_all A [] (fun a q => op_nb (hA a q))
    unfold stp; dsimp only
    rw [if_neg (by decide), if_neg (by rw [hb]; omega), if_neg (fun q => q hm), if_neg (fun q => q ha), if_neg (by rw [hb]; omega), if_neg (fun q => q hb), List.append_nil, hR]
end PL
