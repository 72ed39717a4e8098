/-! CLOSINGS -/
/-- n closings in the minutes below m -/
def CLI (f : Nat → Bool) (m n : Nat) (F L : Nat → Nat) : Prop := (∀ i, i < n → F i ≤ L i ∧ L i < m) ∧ (∀ i, i + 1 < n → L i + 1 < F (i + 1)) ∧ ∀ t, t < m → (f t = true ↔ ∃ i, i < n ∧ F i ≤ t ∧ t ≤ L i)
section CLI
variable {f : Nat → Bool} {m n : Nat} {F L : Nat → Nat}
theorem CLI.lt (h : CLI f m n F L) {i : Nat} : ∀ {d : Nat}, i + d + 1 < n → L i + 1 < F (i + d + 1)
  | 0, hd => h.2.1 i hd
  | d + 1, hd => by
    have h1 := h.lt (i := i) (d := d) (by omega)
    have h2 := h.1 (i + d + 1) (by omega)
    have h3 := h.2.1 (i + d + 1) (by omega)
    rw [show i + (d + 1) + 1 = i + d + 1 + 1 by omega]
    omega
theorem CLI.lt2 (h : CLI f m n F L) {i j : Nat} (hij : i < j) (hj : j < n) : L i + 1 < F j := by
  have := h.lt (i := i) (d := j - i - 1) (by omega)
  rw [show i + (j - i - 1) + 1 = j by omega] at this
  exact this
theorem CLI.ge (h : CLI f m n F L) : ∀ i, i < n → 2 * i ≤ F i
  | 0, _ => by omega
  | i + 1, hi => by
    have h1 := h.ge i (by omega)
    have h2 := h.1 i (by omega)
    have h3 := h.2.1 i hi
    omega
theorem CLI.cnt (h : CLI f m n F L) : 2 * n ≤ m + 1 := by
  rcases Nat.eq_zero_or_pos n with z | z
  · omega
  · have h1 := h.ge (n - 1) (by omega)
    have h2 := h.1 (n - 1) (by omega)
    omega
/-- a minute more -/
theorem CLI.no (h : CLI f m n F L) (hf : f m = false) : CLI f (m + 1) n F L := by
  refine ⟨fun i hi => by have := h.1 i hi; omega, h.2.1, fun t ht => ?_⟩
  by_cases q : t = m
  · subst q
    rw [hf]
    refine ⟨fun z => Bool.noConfusion z, ?_⟩
    rintro ⟨i, i1, i2, i3⟩
    have := h.1 i i1
    omega
  · exact h.2.2 t (by omega)
theorem CLI.new1 {F' L' : Nat → Nat} (h : CLI f m n F L) (hf : f m = true) (hs : m = 0 ∨ f (m - 1) = false) (e1 : F' n = m ∧ L' n = m) (e2 : ∀ i, i < n → F' i = F i ∧ L' i = L i) : CLI f (m + 1) (n + 1) F' L' := by
  have lt : ∀ i, i < n → L i + 1 < m := fun i hi => by
    have h1 := h.1 i hi
    by_cases q : L i + 1 < m
    · exact q
    · exfalso
      have e : L i = m - 1 := by omega
      rcases hs with z | z
      · omega
      · have := (h.2.2 (m - 1) (by omega)).mpr ⟨i, hi, by omega, by omega⟩
        rw [z] at this; cases this
  refine ⟨fun i hi => ?_, fun i hi => ?_, fun t ht => ?_⟩
  · by_cases q : i = n
    · rw [q, e1.1, e1.2]; omega
    · have x := e2 i (by omega)
      have := h.1 i (by omega)
      omega
  · have x := e2 i (by omega)
    by_cases q : i + 1 = n
    · have := lt i (by omega)
      rw [q, e1.1]; omega
    · have y := e2 (i + 1) (by omega)
      have := h.2.1 i (by omega)
      omega
  · by_cases q : t = m
    · subst q
      exact ⟨fun _ => ⟨n, by omega, by omega, by omega⟩, fun _ => hf⟩
    · rw [h.2.2 t (by omega)]
      constructor
      · rintro ⟨i, i1, i2, i3⟩
        have x := e2 i i1
        exact ⟨i, by omega, by omega, by omega⟩
      · rintro ⟨i, i1, i2, i3⟩
        by_cases w : i = n
        · subst w; omega
        · have x := e2 i (by omega)
          exact ⟨i, by omega, by omega, by omega⟩
theorem CLI.new (h : CLI f m n F L) (hf : f m = true) (hs : m = 0 ∨ f (m - 1) = false) : CLI f (m + 1) (n + 1) (fun i => if i = n then m else F i) (fun i => if i = n then m else L i) :=
  h.new1 hf hs ⟨if_pos rfl, if_pos rfl⟩ (fun i hi => ⟨if_neg (by omega), if_neg (by omega)⟩)
theorem CLI.ext1 {L' : Nat → Nat} (h : CLI f m n F L) (hf : f m = true) (hm : m ≠ 0) (hs : f (m - 1) = true) (e1 : L' (n - 1) = m) (e2 : ∀ i, i ≠ n - 1 → L' i = L i) : 1 ≤ n ∧ CLI f (m + 1) n F L' := by
  obtain ⟨i, i1, i2, i3⟩ := (h.2.2 (m - 1) (by omega)).mp hs
  have h1 := h.1 i i1
  have hin : i = n - 1 := by
    by_cases q : i + 1 < n
    · have := h.2.1 i q
      have := h.1 (i + 1) q
      omega
    · omega
  subst hin
  refine ⟨by omega, fun j hj => ?_, fun j hj => ?_, fun t ht => ?_⟩
  · by_cases q : j = n - 1
    · rw [q, e1]; omega
    · have x := e2 j q
      have := h.1 j hj; omega
  · have x := e2 j (by omega)
    have := h.2.1 j hj
    omega
  · by_cases q : t = m
    · subst q
      exact ⟨fun _ => ⟨n - 1, i1, by omega, by omega⟩, fun _ => hf⟩
    · rw [h.2.2 t (by omega)]
      constructor
      · rintro ⟨j, j1, j2, j3⟩
        refine ⟨j, j1, j2, ?_⟩
        by_cases w : j = n - 1
        · rw [w, e1]; omega
        · rw [e2 j w]; exact j3
      · rintro ⟨j, j1, j2, j3⟩
        by_cases w : j = n - 1
        · refine ⟨j, j1, j2, ?_⟩
          rw [w]; omega
        · rw [e2 j w] at j3
          exact ⟨j, j1, j2, j3⟩
theorem CLI.ext (h : CLI f m n F L) (hf : f m = true) (hm : m ≠ 0) (hs : f (m - 1) = true) : 1 ≤ n ∧ CLI f (m + 1) n F (fun i => if i = n - 1 then m else L i) :=
  h.ext1 hf hm hs (if_pos rfl) (fun i hi => if_neg hi)
/-- the i-th, as the class finds it -/
def nth (n : Nat) (F : Nat → Nat) (i : Nat) : Int32 := if i < n then nI (F i) else mI
theorem CLI.first (h : CLI f 200 n F L) {i x : Nat} (hi : i ≤ n) (hx : (i = 0 ∧ x = 0) ∨ (1 ≤ i ∧ x = L (i - 1) + 1)) {r : Int32} (hr : (r = mI ∧ ∀ t, x ≤ t → t < 200 → f t = false) ∨ ∃ v, x ≤ v ∧ v < 200 ∧ r = nI v ∧ f v = true ∧ ∀ j, x ≤ j → j < v → f j = false) : r = nth n F i := by
  unfold nth
  have ge : i < n → x ≤ F i := fun hin => by
    rcases hx with z | z
    · omega
    · have := h.lt2 (i := i - 1) (j := i) (by omega) hin
      omega
  rcases hr with ⟨r1, r2⟩ | ⟨v, v1, v2, v3, v4, v5⟩
  · by_cases q : i < n
    · have h1 := h.1 i q
      have := r2 (F i) (ge q) (by omega)
      rw [(h.2.2 (F i) (by omega)).mpr ⟨i, q, Nat.le_refl _, h1.1⟩] at this
      cases this
    · rw [if_neg q]; exact r1
  · obtain ⟨j, j1, j2, j3⟩ := (h.2.2 v v2).mp v4
    have hj : i ≤ j := by
      rcases hx with z | z
      · omega
      · rcases Nat.lt_or_ge j i with w | w
        · exfalso
          by_cases y : j = i - 1
          · subst y; omega
          · have := h.lt2 (i := j) (j := i - 1) (by omega) (by omega)
            have := h.1 (i - 1) (by omega)
            omega
        · exact w
    have hin : i < n := by omega
    have h1 := h.1 i hin
    have hFi : F i ≤ v := by
      by_cases y : j = i
      · rw [← y]; exact j2
      · have := h.lt2 (i := i) (j := j) (by omega) j1; omega
    have : v = F i := by
      by_cases y : F i < v
      · have := v5 (F i) (ge hin) y
        rw [(h.2.2 (F i) (by omega)).mpr ⟨i, hin, Nat.le_refl _, h1.1⟩] at this
        cases this
      · omega
    rw [if_pos hin, v3, this]
theorem CLI.last (h : CLI f 200 n F L) {i : Nat} (hi : i < n) {r : Int32} (hr : (r = mI ∧ ∀ t, F i ≤ t → t < 200 → f t = true) ∨ ∃ v, F i ≤ v ∧ v < 200 ∧ r = nI v ∧ f v = false ∧ ∀ j, F i ≤ j → j < v → f j = true) : (r = mI ∧ L i = 199) ∨ r = nI (L i + 1) := by
  have h1 := h.1 i hi
  -- behind its end it is open
  have op : L i + 1 < 200 → f (L i + 1) = false := fun hl => by
    cases q : f (L i + 1) with
    | false => rfl
    | true =>
      obtain ⟨j, j1, j2, j3⟩ := (h.2.2 _ hl).mp q
      rcases Nat.lt_trichotomy j i with w | w | w
      · have := h.lt2 w hi; omega
      · subst w; omega
      · have := h.lt2 w j1; omega
  rcases hr with ⟨r1, r2⟩ | ⟨v, v1, v2, v3, v4, v5⟩
  · left
    refine ⟨r1, ?_⟩
    by_cases q : L i + 1 < 200
    · have := r2 (L i + 1) (by omega) q
      rw [op q] at this; cases this
    · omega
  · right
    have a1 : L i < v := by
      rcases Nat.lt_or_ge (L i) v with w | w
      · exact w
      · rw [(h.2.2 v v2).mpr ⟨i, hi, v1, w⟩] at v4; cases v4
    have : v = L i + 1 := by
      by_cases q : L i + 1 < v
      · have := v5 (L i + 1) (by omega) q
        rw [op (by omega)] at this; cases this
      · omega
    rw [v3, this]
end CLI
section CLC
variable {M N : sMem} {D Do G P E C W k e c g m s n pc pn row : Nat} {c0 c1 c2 : List Nat} {w : Nat → Int32} {u : Nat → Nat → Int32} {cl : Nat → Nat → Bool} {F L : Nat → Nat}
theorem c_first (hr : M.1[row]? = some (15, 24)) (hcl : ∀ g t, g < 6 → t < 256 → rb (M.2.2.1 row) g t = cl g t) (hg : g < 6) (hm : m ≤ 200) : ∃ r, f_X11_firstClosed row (nI g) (nI m) M = some r ∧ ((r = mI ∧ ∀ t, m ≤ t → t < 200 → cl g t = false) ∨ ∃ v, m ≤ v ∧ v < 200 ∧ r = nI v ∧ cl g v = true ∧ ∀ j, m ≤ j → j < v → cl g j = false) := by
  unfold f_X11_firstClosed f_X11_firstClosed_L2
  obtain ⟨b, b1, b2⟩ := itr_up0 (f := fun a : (Int32) => f_X11_firstClosed_K2 row (nI g) a M) (fun j => m ≤ j ∧ ∀ t, m ≤ t → t < j → cl g t = false) (fun r => (r = mI ∧ ∀ t, m ≤ t → t < 200 → cl g t = false) ∨ ∃ v, m ≤ v ∧ v < 200 ∧ r = nI v ∧ cl g v = true ∧ ∀ j, m ≤ j → j < v → cl g j = false) 200 (by decide) (by
    rintro j hj ⟨i1, i2⟩
    unfold f_X11_firstClosed_K2
    by_cases q : j = 200
    · right
      subst q
      rw [if_pos (by decide)]
      exact ⟨_, rfl, Or.inl ⟨rfl, i2⟩⟩
    · have e := hcl g j hg (by omega)
      unfold rb at e
      rw [if_neg (by rw [show (200 : Int32) = nI 200 from rfl, cle (by decide) (by omega)]; omega), b_isMarked hr hg (by omega), Option.bind_some, e]
      by_cases z : cl g j = true
      · right
        rw [if_neg (bI_y z)]
        exact ⟨_, rfl, Or.inr ⟨j, i1, by omega, rfl, z, i2⟩⟩
      · left
        rw [if_pos (bI_0.mpr z), nI_1]
        refine ⟨by omega, rfl, by omega, fun t t1 t2 => ?_⟩
        by_cases w : t = j
        · rw [w]; exact Bool.eq_false_iff.mpr z
        · exact i2 t t1 (by omega)) (i := m) hm ⟨Nat.le_refl _, fun t t1 t2 => by omega⟩
  rw [b1]
  exact ⟨b, rfl, b2⟩
theorem c_lastOf (hc : ClsS M.1 M.2.2.2) (hcl : ∀ g t, g < 6 → t < 256 → rb (M.2.2.1 88) g t = cl g t) (hg : g < 6) (h : CLI (cl g) 200 n F L) {i : Nat} (hi : i < n) : f_X11_lastOfClosing 0 (nI g) (nI (F i)) M = some (nI (L i)) := by
  have h1 := h.1 i hi
  obtain ⟨r, r1, r2⟩ := c_open (cl := cl) (cs88 hc) hcl hg (show F i ≤ 200 by omega)
  have h2 := h.last hi r2
  unfold f_X11_lastOfClosing
  rw [sr0 hc, gr0_11 hc, Option.bind_some, r1, Option.bind_some]
  rcases h2 with ⟨z1, z2⟩ | z
  · rw [if_pos (show r = -1 from z1), z2]; rfl
  · rw [z, if_neg (show ¬ nI (L i + 1) = -1 from fun w => by
      have w2 : nI (L i + 1) = mI := w
      rw [cneg (by omega)] at w2; exact w2), show nI (L i + 1) - (1 : Int32) = nI (L i) from nsub (a := L i + 1) (b := 1) (by omega)]
theorem c_firstN (hc : ClsS M.1 M.2.2.2) (hcl : ∀ g t, g < 6 → t < 256 → rb (M.2.2.1 88) g t = cl g t) (hg : g < 6) (h : CLI (cl g) 200 n F L) {i x : Nat} (hi : i ≤ n) (hx : (i = 0 ∧ x = 0) ∨ (1 ≤ i ∧ x = L (i - 1) + 1)) : f_X11_firstClosed 88 (nI g) (nI x) M = some (nth n F i) := by
  have hx2 : x ≤ 200 := by
    rcases hx with z | z
    · omega
    · have := h.1 (i - 1) (by omega); omega
  obtain ⟨r, r1, r2⟩ := c_first (cl := cl) (cs88 hc) hcl hg hx2
  rw [r1, h.first hi hx r2]
theorem nth_no (h : CLI (cl g) 200 n F L) {i : Nat} (hi : i < n) : ¬ nth n F i = -1 := fun z => by
  unfold nth at z
  rw [if_pos hi] at z
  have h1 := h.1 i hi
  have z2 : nI (F i) = mI := z
  rw [cneg (by omega)] at z2; exact z2
theorem c_count (hc : ClsS M.1 M.2.2.2) (hcl : ∀ g t, g < 6 → t < 256 → rb (M.2.2.1 88) g t = cl g t) (hg : g < 6) (h : CLI (cl g) 200 n F L) : f_X11_countClosings 0 (nI g) M = some (nI n) := by
  have hn := h.cnt
  unfold f_X11_countClosings f_X11_countClosings_L15
  have f0 := c_firstN hc hcl hg h (i := 0) (x := 0) (Nat.zero_le _) (Or.inl ⟨rfl, rfl⟩)
  replace f0 : f_X11_firstClosed 88 (nI g) 0 M = some (nth n F 0) := f0
  rw [sr0 hc, gr0_11 hc, Option.bind_some, f0, Option.bind_some]
  obtain ⟨b, b1, b2⟩ := itr_g (f := fun a : (Int32 × Int32 × Int32) => f_X11_countClosings_K15 0 (nI g) a.1 a.2.1 a.2.2 M) (fun j (_ : Unit) => (nI j, nth n F j, nI j)) (fun j _ => j ≤ n) (fun b => b = nI n) n (by omega) (by
    intro j s hj hI
    dsimp only
    unfold f_X11_countClosings_K15
    rw [if_neg (by rw [show (200 : Int32) = nI 200 from rfl, cle (by decide) (by omega)]; omega)]
    by_cases q : j = n
    · right
      rw [if_pos (show nth n F j = -1 from (by unfold nth; rw [if_neg (by omega)]; rfl))]
      exact ⟨_, rfl, by rw [q]⟩
    · left
      have hjn : j < n := by omega
      have e1 : nth n F j = nI (F j) := by unfold nth; rw [if_pos hjn]
      have f1 := c_firstN hc hcl hg h (i := j + 1) (x := L j + 1) (by omega) (Or.inr ⟨by omega, by rw [Nat.add_sub_cancel]⟩)
      rw [if_neg (nth_no h hjn), gr0_11 hc, Option.bind_some, e1, c_lastOf hc hcl hg h hjn, Option.bind_some, nI_1, f1, Option.bind_some, nI_1]
      exact ⟨by omega, (), rfl, by omega⟩) (i := 0) (s := ()) (by omega) (by omega)
  replace b1 : sItr (fun a : (Int32 × Int32 × Int32) => f_X11_countClosings_K15 0 (nI g) a.1 a.2.1 a.2.2 M) sFuel (0, nth n F 0, 0) = some b := b1
  rw [b1, b2]
  rfl
end CLC
