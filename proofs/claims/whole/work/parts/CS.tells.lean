/-! WHAT TELLS MOST: tells -/
def mxF (n c : Nat) : Nat := if c ≤ n - c then n - c else c
abbrev Bst := Option (Nat × Nat × Nat)
def stB (f : Nat → Nat → Nat) (m g : Nat) : Bst → Bst
  | none => some (m, g, f g m)
  | some (a, b, c) => if f g m < c then some (m, g, f g m) else some (a, b, c)
def rwB (f : Nat → Nat → Nat) (m : Nat) (s : Bst) : Nat → Bst
  | 0 => s
  | g + 1 => stB f m g (rwB f m s g)
def alB (f : Nat → Nat → Nat) (G : Nat) : Nat → Bst
  | 0 => none
  | m + 1 => rwB f m (alB f G m) G
def k4 : Bst → Int32 | none => -1 | some (a, b, _) => nI (6 * a + b)
def k5 (n : Nat) : Bst → Int32 | none => nI n | some (_, _, c) => nI c
def j3 : Bst → Int32 | none => -1 | some (a, _, _) => nI a
def j4 : Bst → Int32 | none => -1 | some (_, b, _) => nI b
def j5 : Bst → Int32 | none => 0 | some (_, _, c) => nI c
def GBs (s : Bst) : Prop := ∀ a b c, s = some (a, b, c) → a < 200 ∧ b < 6 ∧ c ≤ 100
theorem GBs.st {f : Nat → Nat → Nat} {m g : Nat} {s : Bst} (h : GBs s) (hm : m < 200) (hg : g < 6) (hf : f g m ≤ 100) : GBs (stB f m g s) := by
  intro a b c e
  match s, h, e with
  | none, _, e => cases e; exact ⟨hm, hg, hf⟩
  | some (a', b', c'), h, e =>
    have e' : (if f g m < c' then some (m, g, f g m) else some (a', b', c')) = some (a, b, c) := e
    by_cases q : f g m < c'
    · rw [if_pos q] at e'; cases e'; exact ⟨hm, hg, hf⟩
    · rw [if_neg q] at e'; exact h a b c e'
section TEL
variable {M N : sMem} {D Do G P E C W k e c g m s n pc pn l r sc : Nat} {c0 c1 c2 : List Nat} {w : Nat → Int32} {u : Nat → Nat → Int32} {sm sg sf : Nat → Nat}
/-- the reference: of how many alike at most -/
theorem r_alike {fit : Nat → Bool} (hR : RV u N) (hu : DU u G P E C W c0 c1 c2) (hw : WG w G P E C) (h140 : ∀ i, i < 27 → N.2.1 140 i = w i) (h144 : ∀ g m, g < G → m < 200 → N.2.1 144 (200 * g + m) = bI (anS u c0 E (LF w) e g m = true)) (h154 : ∀ l, l < 100 → N.2.1 154 l = bI (fit l = true)) (h83 : N.2.1 94 83 = nI (flS fit 100).length) (he : e < E) (hg : g < G) (hm : m < 200) : ∃ N', f_X12_mostAlike 94 (nI e) (nI g) (nI m) N = some (nI (mxF (flS fit 100).length ((flS fit 100).countP fun l => cbS u c0 E (LF w) (upF w G) e l g m)), N') ∧ Fr pSh qR2 N N' := by
  have hs := hR.1
  unfold f_X12_mostAlike f_X12_mostAlike_L6
  rw [sr94 hs]
  obtain ⟨b, b1, b2⟩ := itr_g (f := fun a : (Int32 × Int32 × sMem) => f_X12_mostAlike_K6 94 (nI e) (nI g) (nI m) a.1 a.2.1 a.2.2) (fun j (s : sMem) => (nI ((flS fit j).countP fun l => cbS u c0 E (LF w) (upF w G) e l g m), nI j, s)) (fun j s => Fr pSh qR2 N s) (fun b => b.1 = nI ((flS fit 100).countP fun l => cbS u c0 E (LF w) (upF w G) e l g m) ∧ Fr pSh qR2 N b.2) 100 (by decide) (by
    intro j N1 hj i1
    dsimp only
    unfold f_X12_mostAlike_K6
    by_cases q : j = 100
    · right
      subst q
      rw [if_pos (by decide)]
      exact ⟨_, rfl, rfl, i1⟩
    · left
      refine ⟨by omega, ?_⟩
      have hs1 := i1.hs hs
      have R1 : RV u N1 := hR.fr i1 (fun a k h1 h2 => sh_154 (by omega))
      rw [if_neg (by rw [show (99 : Int32) = nI 99 from rfl, clt (by decide) (by omega)]; omega), gr94_82 hs1, Option.bind_some, ld154 hs1 (by omega), Option.bind_some, i1.i (sh_154 (by decide)), h154 j (by omega)]
      unfold f_X12_mostAlike_B38
      rw [nI_1]
      by_cases z : fit j = true
      · have efl : flS fit (j + 1) = flS fit j ++ [j] := if_pos z
        obtain ⟨N2, n1, n2⟩ := r_cby (e := e) (l := j) (w := w) (g := g) (m := m) R1 hu hw (fun x hx => by rw [i1.i (sh_154 (by decide))]; exact h140 x hx) (fun g m hg hm => by rw [i1.i (sh_154 (by decide))]; exact h144 g m hg hm) he (by omega) hg hm
        rw [if_neg (bI_y z), n1]
        dsimp only [Option.bind_some]
        rw [efl, List.countP_append, List.countP_singleton]
        by_cases y : cbS u c0 E (LF w) (upF w G) e j g m = true
        · rw [if_neg (bI_y y), if_pos y, nI_1]
          exact ⟨N2, rfl, i1.tr n2⟩
        · rw [if_pos (bI_0.mpr y), if_neg y, Nat.add_zero]
          exact ⟨N2, rfl, i1.tr n2⟩
      · have efl : flS fit (j + 1) = flS fit j := if_neg z
        rw [if_pos (bI_0.mpr z), efl]
        exact ⟨N1, rfl, i1⟩) (i := 0) (s := N) (by decide) Fr.rf
  replace b1 : sItr (fun a : (Int32 × Int32 × sMem) => f_X12_mostAlike_K6 94 (nI e) (nI g) (nI m) a.1 a.2.1 a.2.2) sFuel (0, 0, N) = some b := b1
  rw [b1, Option.bind_some]
  obtain ⟨x, N'⟩ := b
  obtain ⟨b2, b3⟩ := b2
  dsimp only at b2 b3
  subst b2
  have hs' := b3.hs hs
  have hle := flS_le fit 100
  have hcp := List.countP_le_length (p := fun l => cbS u c0 E (LF w) (upF w G) e l g m) (l := flS fit 100)
  unfold f_X12_mostAlike_B44 mxF
  rw [gi94 hs', Option.bind_some, b3.i rfl, h83, Option.bind_some, nsub hcp]
  by_cases z : (flS fit 100).countP (fun l => cbS u c0 E (LF w) (upF w G) e l g m) ≤ (flS fit 100).length - (flS fit 100).countP (fun l => cbS u c0 E (LF w) (upF w G) e l g m)
  · rw [if_pos (nI_le z (by omega)), if_pos z]
    exact ⟨N', rfl, b3⟩
  · rw [if_neg (nI_ge (by omega) (by omega)), if_neg z]
    exact ⟨N', rfl, b3⟩
/-- the class's best -/
theorem c_best (h : CV u N D G P E C W c0 c1 c2) (hG : G ≤ 6) (hn : n ≤ 100) {f : Nat → Nat → Nat} (hf : ∀ g m, g < G → m < 200 → f g m ≤ n ∧ N.2.1 91 (200 * g + m) = nI (f g m)) (v2 : Int32) (h0 : n ≠ 0) : f_X11_tells_L46 0 v2 (nI n) (-1) (nI n) 0 N = f_X11_tells_B142 v2 (k4 (alB (fun g m => mxF n (f g m)) G 200)) (k5 n (alB (fun g m => mxF n (f g m)) G 200)) N ∧ GBs (alB (fun g m => mxF n (f g m)) G 200) := by
  have hc := h.hc
  obtain ⟨F, hF⟩ : ∃ F : Nat → Nat → Nat, F = fun g m => mxF n (f g m) := ⟨_, rfl⟩
  rw [← hF]
  have hFv : ∀ g m, F g m = mxF n (f g m) := fun g m => by rw [hF]
  have hFb : ∀ g m, g < G → m < 200 → F g m ≤ 100 := fun g m hg hm => by
    have := (hf g m hg hm).1
    rw [hFv]; unfold mxF; split <;> omega
  unfold f_X11_tells_L46
  obtain ⟨b, b1, b2⟩ := itr_g (f := fun a : (Int32 × Int32 × Int32) => f_X11_tells_K46 0 v2 (nI n) a.1 a.2.1 a.2.2 N) (fun m (s : Bst) => (k4 s, k5 n s, nI m)) (fun m s => s = alB F G m ∧ GBs s) (fun b => b = (k4 (alB F G 200), k5 n (alB F G 200)) ∧ GBs (alB F G 200)) 200 (by decide) (by
    rintro m s hm ⟨rfl, hgb⟩
    dsimp only
    unfold f_X11_tells_K46
    rw [if_neg (show ¬ nI n ≤ (0 : Int32) from fun z => by rw [show (0 : Int32) = nI 0 from rfl, cle (by omega) (by decide)] at z; omega)]
    by_cases q : m = 200
    · right
      subst q
      rw [if_pos (by decide)]
      exact ⟨_, rfl, rfl, hgb⟩
    · left
      refine ⟨by omega, alB F G (m + 1), ?_⟩
      rw [if_neg (show ¬ (200 : Int32) ≤ nI m from fun z => by rw [show (200 : Int32) = nI 200 from rfl, cle (by decide) (by omega)] at z; omega)]
      unfold f_X11_tells_L61
      obtain ⟨b, d1, d2, d3⟩ := itr_g (f := fun a : (Int32 × Int32 × Int32) => f_X11_tells_K61 0 v2 (nI n) (nI m) a.1 a.2.1 a.2.2 N) (fun g (s : Bst) => (k4 s, k5 n s, nI g)) (fun g s => s = rwB F m (alB F G m) g ∧ GBs s) (fun b => b = (k4 (alB F G (m + 1)), k5 n (alB F G (m + 1))) ∧ GBs (alB F G (m + 1))) G (by omega) (by
        rintro g s hg ⟨rfl, hgs⟩
        dsimp only
        unfold f_X11_tells_K61
        rw [h.p0, Option.bind_some, h.g1, Option.bind_some, h.nG, Option.bind_some]
        by_cases q : g = G
        · right
          subst q
          rw [if_pos (nI_le (Nat.le_refl _) (by omega))]
          exact ⟨_, rfl, rfl, hgs⟩
        · left
          have hg' : g < G := by omega
          obtain ⟨f1, f2⟩ := hf g m hg' (by omega)
          refine ⟨hg', stB F m g (rwB F m (alB F G m) g), ?_, rfl, hgs.st (by omega) (by omega) (hFb g m hg' (by omega))⟩
          have emx : f_J9_max_7cf53 (nI (f g m)) (nI n - nI (f g m)) N = some (nI (F g m)) := by
            unfold f_J9_max_7cf53
            rw [nsub f1, hFv]
            unfold mxF
            by_cases y : f g m < n - f g m
            · rw [if_pos ((clt (by omega) (by omega)).mpr y), if_pos (by omega)]
            · rw [if_neg (fun z => y ((clt (by omega) (by omega)).mp z))]
              by_cases x : f g m ≤ n - f g m
              · rw [if_pos x, show f g m = n - f g m by omega]
                congr 2
                omega
              · rw [if_neg x]
          rw [if_neg (nI_ge (by omega) (by omega)), gr0_15 hc, Option.bind_some, show nI g * (200 : Int32) + nI m = nI (200 * g + m) from (by rw [show (200 : Int32) = nI 200 from rfl, pk_mul, nI_add, Nat.mul_comm]), ld91 hc (by omega), Option.bind_some, f2, emx, Option.bind_some]
          unfold f_X11_tells_B116 f_X11_tells_B130
          have e6 : nI m * (6 : Int32) + nI g = nI (6 * m + g) := by rw [show (6 : Int32) = nI 6 from rfl, pk_mul, nI_add, Nat.mul_comm]
          rw [e6, nI_1]
          have hFb' := hFb g m hg' (by omega)
          generalize hs0 : rwB F m (alB F G m) g = s at hgs ⊢
          match s, hgs with
          | none, _ => rw [if_pos (show k4 none = -1 from rfl)]; rfl
          | some (a, b, c), hgs =>
            obtain ⟨g1, g2, g3⟩ := hgs a b c rfl
            rw [if_neg (show ¬ k4 (some (a, b, c)) = -1 from fun z => by
              have z2 : nI (6 * a + b) = mI := z
              rw [cneg (by omega)] at z2; exact z2)]
            show (if nI c ≤ nI (F g m) then some (Sum.inl (nI (6 * a + b), nI c, nI (g + 1))) else some (Sum.inl (nI (6 * m + g), nI (F g m), nI (g + 1)))) = some (Sum.inl (k4 (if F g m < c then some (m, g, F g m) else some (a, b, c)), k5 n (if F g m < c then some (m, g, F g m) else some (a, b, c)), nI (g + 1)))
            by_cases y : F g m < c
            · rw [if_neg (nI_ge y (by omega)), if_pos y]; rfl
            · rw [if_pos (nI_le (by omega) (by omega)), if_neg y]; rfl) (i := 0) (s := alB F G m) (by omega) ⟨rfl, hgb⟩
      replace d1 : sItr (fun a : (Int32 × Int32 × Int32) => f_X11_tells_K61 0 v2 (nI n) (nI m) a.1 a.2.1 a.2.2 N) sFuel (k4 (alB F G m), k5 n (alB F G m), 0) = some b := d1
      rw [d1, Option.bind_some, d2]
      unfold f_X11_tells_B136
      rw [nI_1]
      exact ⟨rfl, rfl, d3⟩) (i := 0) (s := none) (by decide) ⟨rfl, fun a b c z => absurd z (by simp)⟩
  replace b1 : sItr (fun a : (Int32 × Int32 × Int32) => f_X11_tells_K46 0 v2 (nI n) a.1 a.2.1 a.2.2 N) sFuel (-1, nI n, 0) = some b := b1
  rw [b1, Option.bind_some, b2.1]
  exact ⟨rfl, b2.2⟩
end TEL
