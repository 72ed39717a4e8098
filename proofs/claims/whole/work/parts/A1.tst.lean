/-! THE REFERENCE's pile, as a machine over tokens: a test -/
def notsP : List Nat → List Nat → Nat → List Nat × List Nat × Nat
  | s :: S, R, o => if s = 12 then notsP S (R ++ [s]) (o - 1) else (s :: S, R, o)
  | [], R, o => ([], R, o)
def is10 (s : Nat) : Bool := decide (s = 10)
def isAO (s : Nat) : Bool := decide (s = 10 ∨ s = 11)
def n25 (s : Nat) : Bool := decide (s ≠ 25)
def stq (wh : Nat) (T : Tk) (σ : Sg) : Sg ⊕ Rs :=
  if σ.1 = 0 then
    if isS T σ.2.1 91 = true then (if σ.2.2.2.2 = 6 then flt 4 (T 4 σ.2.1) else .inl (0, σ.2.1 + 1, 25 :: σ.2.2.1, σ.2.2.2.1, σ.2.2.2.2 + 1))
    else if isW T σ.2.1 29 = true then (if σ.2.2.2.2 = 6 then flt 4 (T 4 σ.2.1) else .inl (0, σ.2.1 + 1, 12 :: σ.2.2.1, σ.2.2.2.1, σ.2.2.2.2 + 1))
    else if isW T σ.2.1 30 = true then .inl (1, σ.2.1 + 1, notsP σ.2.2.1 (σ.2.2.2.1 ++ [13]) σ.2.2.2.2)
    else (match cmpOf T (pSum wh T (6 - σ.2.2.2.2)) σ.2.1 with | .inl e => .inr (.inl e) | .inr q => .inl (1, q.2, notsP σ.2.2.1 (σ.2.2.2.1 ++ q.1) σ.2.2.2.2))
  else
    if isS T σ.2.1 93 = true ∧ 25 ∈ σ.2.2.1 then .inl (1, σ.2.1 + 1, notsP (dropW n25 σ.2.2.1 σ.2.2.2.1).1.tail (dropW n25 σ.2.2.1 σ.2.2.2.1).2 (σ.2.2.2.2 - 1))
    else if isW T σ.2.1 28 = true then .inl (0, σ.2.1 + 1, 10 :: (dropW is10 σ.2.2.1 σ.2.2.2.1).1, (dropW is10 σ.2.2.1 σ.2.2.2.1).2, σ.2.2.2.2)
    else if isW T σ.2.1 27 = true then .inl (0, σ.2.1 + 1, 11 :: (dropW isAO σ.2.2.1 σ.2.2.2.1).1, (dropW isAO σ.2.2.1 σ.2.2.2.1).2, σ.2.2.2.2)
    else if 25 ∈ σ.2.2.1 then flt 1 (T 4 σ.2.1)
    else .inr (.inr (σ.2.2.2.1 ++ σ.2.2.1, σ.2.1))
def rq (wh : Nat) (T : Tk) : Nat → Sg → Option Rs
  | 0, _ => none
  | n + 1, σ => match stq wh T σ with | .inl σ' => rq wh T n σ' | .inr r => some r
def Rq (wh : Nat) (T : Tk) (σ : Sg) (r : Rs) : Prop := ∃ m, rq wh T m σ = some r
section QL
variable {wh : Nat} {T : Tk} {f : Nat → Rs} {o t e : Nat}
theorem Rq.st {σ σ' : Sg} {r : Rs} (h : stq wh T σ = .inl σ') (k : Rq wh T σ' r) : Rq wh T σ r := by
  obtain ⟨m, hm⟩ := k
  exact ⟨m + 1, by show (match stq wh T σ with | .inl σ' => rq wh T m σ' | .inr r => some r) = _; rw [h]; exact hm⟩
theorem Rq.fi {σ : Sg} {r : Rs} (h : stq wh T σ = .inr r) : Rq wh T σ r := ⟨1, by show (match stq wh T σ with | .inl σ' => rq wh T 0 σ' | .inr r => some r) = _; rw [h]⟩
theorem notsP_no {S R : List Nat} (h : ∀ s S', S = s :: S' → s ≠ 12) : notsP S R o = (S, R, o) := by
  match S, h with
  | [], _ => rfl
  | s :: S', h =>
    show (if s = 12 then _ else _) = _
    rw [if_neg (h s S' rfl)]
/-- what a fact does to the pile -/
def QL (wh : Nat) (T : Tk) (f : Nat → Rs) (o e : Nat) : Prop := ∀ t, t ≤ e → (∀ q, f t = .inl q → ∀ S R, Rq wh T (0, t, S, R, o) (.inl q)) ∧ ∀ cs t', f t = .inr (cs, t') → ∀ S R r, Rq wh T (1, t', notsP S (R ++ cs) o) r → Rq wh T (0, t, S, R, o) r
def topQ (p : Nat → Bool) (S : List Nat) : Prop := ∀ s S', S = s :: S' → p s = false ∧ s ≠ 12
theorem a10 {s : Nat} (h : is10 s = true) : isAO s = true := by have := of_decide_eq_true h; exact decide_eq_true (Or.inl this)
theorem no93 (hw : isW T t 28 = true ∨ isW T t 27 = true) {S : List Nat} : ¬ (isS T t 93 = true ∧ 25 ∈ S) := fun q => by
  rcases hw with hw | hw <;> exact isW_S hw q.1
theorem ql_loop (hE : Ends T e) (hf : QL wh T f o e) (hA : Adv e f) {S R : List Nat} (hS : topQ is10 S) : ∀ (n : Nat) (cs : List Nat) (t : Nat) (A R' : List Nat), t ≤ e → e < n + t → (∀ a ∈ A, is10 a = true) → R' ++ A = R ++ cs →
    (∀ q, lp f (sepN T) n cs t = .inl q → Rq wh T (1, t, A ++ S, R', o) (.inl q)) ∧ ∀ c2 t2 r, lp f (sepN T) n cs t = .inr (c2, t2) → (∀ A R', (∀ a ∈ A, is10 a = true) → R' ++ A = R ++ c2 → Rq wh T (1, t2, A ++ S, R', o) r) → Rq wh T (1, t, A ++ S, R', o) r
  | 0, cs, t, A, R', ht, hn, _, _ => by omega
  | n + 1, cs, t, A, R', ht, hn, hAm, hR => by
    unfold lp
    by_cases z : sepN T t = 0
    · rw [if_pos z]
      refine ⟨fun q h => (by cases h), fun c2 t2 r h k => ?_⟩
      obtain ⟨rfl, rfl⟩ := Prod.mk.inj (Sum.inr.inj h)
      exact k A R' hAm hR
    · rw [if_neg z]
      have hne := (sep_s (T := T) (e := e) t).2.2.1 z hE
      obtain ⟨hw, hv⟩ := sepN_v z
      rw [hv]
      have e1 : stq wh T (1, t, A ++ S, R', o) = .inl (0, t + 1, 10 :: S, R ++ cs, o) := by
        unfold stq
        dsimp only
        rw [if_neg (by decide), if_neg (no93 (Or.inl hw)), if_pos hw, dropW_all A S R' hAm, dropW_no (fun s S' q => (hS s S' q).1), hR]
      have ihf := hf (t + 1) (by omega)
      refine ⟨fun q h => ?_, fun c2 t2 r h k => ?_⟩
      · rcases rbd_e h with h | ⟨c3, t3, a1, a2⟩
        · exact Rq.st e1 (ihf.1 q h _ _)
        · obtain ⟨b1, b2, b3⟩ := hA (t + 1) c3 t3 (by omega) a1
          refine Rq.st e1 (ihf.2 c3 t3 a1 _ _ _ ?_)
          rw [notsP_no (fun s S' q => by obtain ⟨rfl, _⟩ := List.cons.inj q; decide)]
          exact (ql_loop hE hf hA hS (R := R) n _ t3 [10] (R ++ cs ++ c3) b2 (by omega) (fun a ha => by rw [List.mem_singleton.mp ha]; rfl) (by simp only [List.append_assoc])).1 q a2
      · obtain ⟨c3, t3, a1, a2⟩ := rbd_i h
        obtain ⟨b1, b2, b3⟩ := hA (t + 1) c3 t3 (by omega) a1
        refine Rq.st e1 (ihf.2 c3 t3 a1 _ _ _ ?_)
        rw [notsP_no (fun s S' q => by obtain ⟨rfl, _⟩ := List.cons.inj q; decide)]
        exact (ql_loop hE hf hA hS (R := R) n _ t3 [10] (R ++ cs ++ c3) b2 (by omega) (fun a ha => by rw [List.mem_singleton.mp ha]; rfl) (by simp only [List.append_assoc])).2 c2 t2 r a2 k
def QP (wh : Nat) (T : Tk) (f : Nat → Rs) (o e : Nat) : Prop := ∀ t S R, t ≤ e → topQ is10 S → (∀ q, f t = .inl q → Rq wh T (0, t, S, R, o) (.inl q)) ∧ ∀ cs t' r, f t = .inr (cs, t') → (∀ A R', (∀ a ∈ A, is10 a = true) → R' ++ A = R ++ cs → Rq wh T (1, t', A ++ S, R', o) r) → Rq wh T (0, t, S, R, o) r
theorem ql_both (hE : Ends T e) (hf : QL wh T f o e) (hA : Adv e f) : QP wh T (bothOf T f) o e := by
  intro t S R ht hS
  have hE2 := hE.2
  unfold bothOf
  refine ⟨fun q h => ?_, fun cs t' r h k => ?_⟩
  · rcases rbd_e h with h | ⟨c, t1, a1, a2⟩
    · exact (hf t ht).1 q h S R
    · obtain ⟨b1, b2, b3⟩ := hA t c t1 ht a1
      refine (hf t ht).2 c t1 a1 S R _ ?_
      rw [notsP_no (fun s S' q => (hS s S' q).2)]
      exact (ql_loop hE hf hA hS (R := R) 2000 c t1 [] (R ++ c) b2 (by omega) (fun a ha => absurd ha List.not_mem_nil) (List.append_nil _)).1 q a2
  · obtain ⟨c, t1, a1, a2⟩ := rbd_i h
    obtain ⟨b1, b2, b3⟩ := hA t c t1 ht a1
    refine (hf t ht).2 c t1 a1 S R _ ?_
    rw [notsP_no (fun s S' q => (hS s S' q).2)]
    exact (ql_loop hE hf hA hS (R := R) 2000 c t1 [] (R ++ c) b2 (by omega) (fun a ha => absurd ha List.not_mem_nil) (List.append_nil _)).2 cs t' r a2 k
theorem qs_loop (hE : Ends T e) (hf : QP wh T f o e) (hA : Adv e f) {S R : List Nat} (hS : topQ isAO S) (hfm : ∀ t cs t', t ≤ e → f t = .inr (cs, t') → sepN T t' = 0) : ∀ (n : Nat) (cs : List Nat) (t : Nat) (A R' : List Nat), t ≤ e → e < n + t → sepN T t = 0 → (∀ a ∈ A, isAO a = true) → R' ++ A = R ++ cs →
    (∀ q, lp f (sepO T) n cs t = .inl q → Rq wh T (1, t, A ++ S, R', o) (.inl q)) ∧ ∀ c2 t2 r, lp f (sepO T) n cs t = .inr (c2, t2) → (∀ A R', sepN T t2 = 0 → (∀ a ∈ A, isAO a = true) → R' ++ A = R ++ c2 → Rq wh T (1, t2, A ++ S, R', o) r) → Rq wh T (1, t, A ++ S, R', o) r
  | 0, cs, t, A, R', ht, hn, _, _, _ => by omega
  | n + 1, cs, t, A, R', ht, hn, hm, hAm, hR => by
    unfold lp
    by_cases z : sepO T t = 0
    · rw [if_pos z]
      refine ⟨fun q h => (by cases h), fun c2 t2 r h k => ?_⟩
      obtain ⟨rfl, rfl⟩ := Prod.mk.inj (Sum.inr.inj h)
      exact k A R' hm hAm hR
    · rw [if_neg z]
      have hne := (sep_s (T := T) (e := e) t).2.2.2.1 z hE
      obtain ⟨hw, hv⟩ := sepO_v z
      rw [hv]
      have n28 : ¬ isW T t 28 = true := isW_ne hw (by decide)
      have e1 : stq wh T (1, t, A ++ S, R', o) = .inl (0, t + 1, 11 :: S, R ++ cs, o) := by
        unfold stq
        dsimp only
        rw [if_neg (by decide), if_neg (no93 (Or.inr hw)), if_neg n28, if_pos hw, dropW_all A S R' hAm, dropW_no (fun s S' q => (hS s S' q).1), hR]
      have htop : topQ is10 (11 :: S) := by
        intro s S' q
        obtain ⟨rfl, _⟩ := List.cons.inj q
        exact ⟨rfl, by decide⟩
      have hJ : ∀ c3 t3, f (t + 1) = .inr (c3, t3) → t3 ≤ e → (e < n + t3) → ∀ A2 R2, (∀ a ∈ A2, is10 a = true) → R2 ++ A2 = R ++ cs ++ c3 → ((∀ q, lp f (sepO T) n (cs ++ c3 ++ [11]) t3 = .inl q → Rq wh T (1, t3, A2 ++ (11 :: S), R2, o) (.inl q)) ∧ ∀ c2 t2 r, lp f (sepO T) n (cs ++ c3 ++ [11]) t3 = .inr (c2, t2) → (∀ A R', sepN T t2 = 0 → (∀ a ∈ A, isAO a = true) → R' ++ A = R ++ c2 → Rq wh T (1, t2, A ++ S, R', o) r) → Rq wh T (1, t3, A2 ++ (11 :: S), R2, o) r) := by
        intro c3 t3 a1 b2 b3 A2 R2 hA2 hR2
        have := qs_loop hE hf hA hS hfm (R := R) n (cs ++ c3 ++ [11]) t3 (A2 ++ [11]) R2 b2 b3 (hfm (t + 1) c3 t3 (by omega) a1) (fun a ha => by
          rcases List.mem_append.mp ha with ha | ha
          · exact a10 (hA2 a ha)
          · rw [List.mem_singleton.mp ha]; rfl) (by rw [← List.append_assoc, hR2]; simp only [List.append_assoc])
        rw [show A2 ++ [11] ++ S = A2 ++ 11 :: S by rw [List.append_assoc]; rfl] at this
        exact this
      refine ⟨fun q h => ?_, fun c2 t2 r h k => ?_⟩
      · rcases rbd_e h with h | ⟨c3, t3, a1, a2⟩
        · exact Rq.st e1 ((hf (t + 1) _ _ (by omega) htop).1 q h)
        · obtain ⟨b1, b2, b3⟩ := hA (t + 1) c3 t3 (by omega) a1
          exact Rq.st e1 ((hf (t + 1) _ _ (by omega) htop).2 c3 t3 _ a1 (fun A2 R2 hA2 hR2 => (hJ c3 t3 a1 b2 (by omega) A2 R2 hA2 hR2).1 q a2))
      · obtain ⟨c3, t3, a1, a2⟩ := rbd_i h
        obtain ⟨b1, b2, b3⟩ := hA (t + 1) c3 t3 (by omega) a1
        exact Rq.st e1 ((hf (t + 1) _ _ (by omega) htop).2 c3 t3 _ a1 (fun A2 R2 hA2 hR2 => (hJ c3 t3 a1 b2 (by omega) A2 R2 hA2 hR2).2 c2 t2 r a2 k))
def QS (wh : Nat) (T : Tk) (f : Nat → Rs) (o e : Nat) : Prop := ∀ t S R, t ≤ e → topQ isAO S → (∀ q, f t = .inl q → Rq wh T (0, t, S, R, o) (.inl q)) ∧ ∀ cs t' r, f t = .inr (cs, t') → (sepN T t' = 0 → sepO T t' = 0 → ∀ A R', (∀ a ∈ A, isAO a = true) → R' ++ A = R ++ cs → Rq wh T (1, t', A ++ S, R', o) r) → Rq wh T (0, t, S, R, o) r
theorem both_end (hE : Ends T e) (hA : Adv e f) : ∀ t cs t', t ≤ e → bothOf T f t = .inr (cs, t') → sepN T t' = 0 := by
  intro t cs t' ht h
  have hE2 := hE.2
  obtain ⟨c, t1, a1, a2⟩ := rbd_i h
  obtain ⟨b1, b2, b3⟩ := hA t c t1 ht a1
  exact (lp_adv hA (fun t z => (sep_s t).2.2.1 z hE) 2000 c t1 cs t' b2 (by omega) a2).2.2.2
theorem ql_test (hE : Ends T e) (hf : QL wh T f o e) (hA : Adv e f) : QS wh T (testOf T f) o e := by
  intro t S R ht hS
  have hE2 := hE.2
  have hp := ql_both hE hf hA
  have hAp := both_adv hE hA
  have hfm := both_end hE hA
  have htop : topQ is10 S := by
    intro s S' q
    refine ⟨?_, (hS s S' q).2⟩
    cases z : is10 s with
    | false => rfl
    | true => have w := a10 z; rw [(hS s S' q).1] at w; cases w
  have hJ : ∀ c t1, bothOf T f t = .inr (c, t1) → t1 ≤ e → ∀ A R', (∀ a ∈ A, is10 a = true) → R' ++ A = R ++ c → _ := fun c t1 a1 b2 A R' hA' hR' => qs_loop hE hp hAp hS hfm (R := R) 2000 c t1 A R' b2 (by omega) (hfm t c t1 ht a1) (fun a ha => a10 (hA' a ha)) hR'
  unfold testOf
  refine ⟨fun q h => ?_, fun cs t' r h k => ?_⟩
  · rcases rbd_e h with h | ⟨c, t1, a1, a2⟩
    · exact (hp t S R ht htop).1 q h
    · obtain ⟨b1, b2, b3⟩ := hAp t c t1 ht a1
      exact (hp t S R ht htop).2 c t1 _ a1 (fun A R' hA' hR' => (hJ c t1 a1 b2 A R' hA' hR').1 q a2)
  · obtain ⟨c, t1, a1, a2⟩ := rbd_i h
    obtain ⟨b1, b2, b3⟩ := hAp t c t1 ht a1
    have hz := (lp_adv hAp (fun t z => (sep_s t).2.2.2.1 z hE) 2000 c t1 cs t' b2 (by omega) a2).2.2.2
    exact (hp t S R ht htop).2 c t1 _ a1 (fun A R' hA' hR' => (hJ c t1 a1 b2 A R' hA' hR').2 cs t' r a2 (fun A R' hm hA2 hR2 => k hm hz A R' hA2 hR2))
theorem ao_25 {a : Nat} (h : isAO a = true) : n25 a = true := by have := of_decide_eq_true h; exact decide_eq_true (by omega)
theorem drop_25 {A S R : List Nat} (hA : ∀ a ∈ A, isAO a = true) : dropW n25 (A ++ 25 :: S) R = (25 :: S, R ++ A) := by
  rw [dropW_all A _ _ (fun a ha => ao_25 (hA a ha)), dropW_no (fun s S' q => by obtain ⟨rfl, _⟩ := List.cons.inj q; rfl)]
theorem sepNO (hn : sepN T t = 0) (ho : sepO T t = 0) : ¬ isW T t 28 = true ∧ ¬ isW T t 27 = true := by
  refine ⟨fun z => ?_, fun z => ?_⟩
  · unfold sepN at hn; rw [if_pos z] at hn; cases hn
  · unfold sepO at ho; rw [if_pos z] at ho; cases ho
theorem ql_fact (hE : Ends T e) : ∀ d, d ≤ 6 → QL wh T (pFact wh T d) (6 - d) e
  | d, hd => by
    have ihd : d ≠ 0 → QL wh T (pFact wh T (d - 1)) (6 - d + 1) e := fun z => by
      rw [show 6 - d + 1 = 6 - (d - 1) by omega]; exact ql_fact hE (d - 1) (by omega)
    intro t ht
    rw [pFact_eq]
    by_cases h1 : isW T t 29 = true
    · rw [if_pos h1]
      have n91 := isW_S (b := 91) h1
      have n1 := hE.w h1
      by_cases hd0 : d = 0
      · rw [if_pos hd0]
        refine ⟨fun q h S R => ?_, fun cs t' h => (by cases h)⟩
        obtain rfl := Sum.inl.inj h
        refine Rq.fi ?_
        unfold stq; dsimp only
        rw [if_pos rfl, if_neg n91, if_pos h1, if_pos (by omega)]; rfl
      · rw [if_neg hd0]
        have ih := ihd hd0
        have e1 : ∀ S R, stq wh T (0, t, S, R, 6 - d) = .inl (0, t + 1, 12 :: S, R, 6 - d + 1) := by
          intro S R
          unfold stq; dsimp only
          rw [if_pos rfl, if_neg n91, if_pos h1, if_neg (by omega)]
        refine ⟨fun q h S R => Rq.st (e1 S R) ?_, fun cs t' h S R r k => Rq.st (e1 S R) ?_⟩
        · rcases rbd_e h with h | ⟨c, t1, a1, a2⟩
          · exact (ih (t + 1) (by omega)).1 q h _ _
          · cases a2
        · obtain ⟨c, t1, a1, a2⟩ := rbd_i h
          obtain ⟨rfl, rfl⟩ := Prod.mk.inj (Sum.inr.inj a2)
          refine (ih (t + 1) (by omega)).2 c t1 a1 _ _ _ ?_
          have : notsP (12 :: S) (R ++ c) (6 - d + 1) = notsP S (R ++ c ++ [12]) (6 - d) := by
            show (if 12 = 12 then _ else _) = _
            rw [if_pos rfl]; rfl
          rw [this, List.append_assoc]
          exact k
    · rw [if_neg h1]
      by_cases h2 : isS T t 91 = true
      · rw [if_pos h2]
        have n1 := hE.s h2
        by_cases hd0 : d = 0
        · rw [if_pos hd0]
          refine ⟨fun q h S R => ?_, fun cs t' h => (by cases h)⟩
          obtain rfl := Sum.inl.inj h
          refine Rq.fi ?_
          unfold stq; dsimp only
          rw [if_pos rfl, if_pos h2, if_pos (by omega)]; rfl
        · rw [if_neg hd0]
          have ihs := ql_test hE (ihd hd0) (fact_adv hE (d - 1))
          have e1 : ∀ S R, stq wh T (0, t, S, R, 6 - d) = .inl (0, t + 1, 25 :: S, R, 6 - d + 1) := by
            intro S R
            unfold stq; dsimp only
            rw [if_pos rfl, if_pos h2, if_neg (by omega)]
          have htp : ∀ S, topQ isAO (25 :: S) := fun S s S' q => by obtain ⟨rfl, _⟩ := List.cons.inj q; exact ⟨rfl, by decide⟩
          refine ⟨fun q h S R => Rq.st (e1 S R) ?_, fun cs t' h S R r k => Rq.st (e1 S R) ?_⟩
          · rcases rbd_e h with h | ⟨c, t1, a1, a2⟩
            · exact (ihs (t + 1) _ _ (by omega) (htp S)).1 q h
            · refine (ihs (t + 1) _ _ (by omega) (htp S)).2 c t1 _ a1 (fun hn ho A R' hA hR => ?_)
              unfold askS at a2
              by_cases h4 : isS T t1 93 = true
              · rw [if_pos h4] at a2; cases a2
              · rw [if_neg h4] at a2
                obtain rfl := Sum.inl.inj a2
                refine Rq.fi ?_
                unfold stq; dsimp only
                rw [if_neg (by decide), if_neg (fun q => h4 q.1), if_neg (sepNO hn ho).1, if_neg (sepNO hn ho).2, if_pos (List.mem_append_right _ List.mem_cons_self)]; rfl
          · obtain ⟨c, t1, a1, a2⟩ := rbd_i h
            obtain ⟨b1, b2⟩ := askS_i a2
            obtain ⟨rfl, rfl⟩ := Prod.mk.inj (Sum.inr.inj b2)
            refine (ihs (t + 1) _ _ (by omega) (htp S)).2 c t1 _ a1 (fun hn ho A R' hA hR => ?_)
            refine Rq.st (σ' := (1, t1 + 1, notsP S (R ++ c) (6 - d))) ?_ k
            unfold stq; dsimp only
            rw [if_neg (by decide), if_pos ⟨b1, List.mem_append_right _ List.mem_cons_self⟩, drop_25 hA, hR]; rfl
      · rw [if_neg h2]
        by_cases h3 : isW T t 30 = true
        · rw [if_pos h3]
          refine ⟨fun q h => (by cases h), fun cs t' h S R r k => Rq.st ?_ k⟩
          obtain ⟨rfl, rfl⟩ := Prod.mk.inj (Sum.inr.inj h)
          unfold stq; dsimp only
          rw [if_pos rfl, if_neg h2, if_neg h1, if_pos h3]
        · rw [if_neg h3]
          have eo : 6 - (6 - d) = d := by omega
          refine ⟨fun q h S R => Rq.fi ?_, fun cs t' h S R r k => Rq.st ?_ k⟩
          · unfold stq; dsimp only
            rw [if_pos rfl, if_neg h2, if_neg h1, if_neg h3, eo, h]
          · unfold stq; dsimp only
            rw [if_pos rfl, if_neg h2, if_neg h1, if_neg h3, eo, h]
termination_by d => d
decreasing_by omega
/-- a whole test -/
theorem ql_whole (hE : Ends T e) (ht : t ≤ e) : Rq wh T (0, t, [], [], 0) (pTest wh T 6 t) := by
  have h := ql_test hE (ql_fact (wh := wh) hE 6 (by decide)) (fact_adv hE 6) t [] [] ht (fun s S' q => by cases q)
  unfold pTest
  match z : testOf T (pFact wh T 6) t with
  | .inl q => exact h.1 q z
  | .inr (cs, t') =>
    refine h.2 cs t' _ z (fun hn ho A R' hA hR => Rq.fi ?_)
    have hb : 25 ∉ A ++ [] := by
      intro q
      rw [List.append_nil] at q
      exact absurd (hA 25 q) (by decide)
    unfold stq; dsimp only
    rw [if_neg (by decide), if_neg (fun q => hb q.2), if_neg (sepNO hn ho).1, if_neg (sepNO hn ho).2, if_neg hb, List.append_nil, hR, List.nil_append]
end QL
