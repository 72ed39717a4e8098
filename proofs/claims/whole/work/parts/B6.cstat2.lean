/-! THE CLASS reads statements: what tells of a table -/
def gateR (b : Nat → Int32) (T : Tk) (sa sz : Nat → Nat) (d : Ds) (at' : Int32) (t : Nat) : Flt ⊕ (Ds × Nat) := sb (fullR d 0 at' t) fun _ t => sb (nwR b T sa sz d t) fun L t => sb (aW T 2 t) fun _ t => sb (numR T 0 d.1.1 t) fun v t => .inr (addD d 0 (L, [v, 0, 0, 0]), t)
def placeR (b : Nat → Int32) (T : Tk) (sa sz : Nat → Nat) (d : Ds) (at' : Int32) (t : Nat) : Flt ⊕ (Ds × Nat) := sb (fullR d 1 at' t) fun _ t => sb (nwR b T sa sz d t) fun L t => .inr (addD d 1 (L, [0, 0, 0, 0]), t)
def wayR (b : Nat → Int32) (T : Tk) (sa sz : Nat → Nat) (d : Ds) (ov : Bool) (at' : Int32) (t : Nat) : Flt ⊕ (Ds × Nat) := sb (fullR d 4 at' t) fun _ t => sb (odR b T sa sz (d.2.1 1) (-1) t) fun x t => sb (aW T 5 t) fun _ t => sb (odR b T sa sz (d.2.1 1) x t) fun y t => sb (aW T 6 t) fun _ t => sb (numR T 1 60 t) fun v t => if ov then sb (aW T 8 t) fun _ t => sb (odR b T sa sz (d.2.1 0) (-1) t) fun g t => .inr (addD d 4 ([], [x, y, v, g]), t) else .inr (addD d 4 ([], [x, y, v, -1]), t)
def eraR (b : Nat → Int32) (T : Tk) (sa sz : Nat → Nat) (d : Ds) (at' : Int32) (t : Nat) : Flt ⊕ (Ds × Nat) := sb (fullR d 2 at' t) fun _ t => sb (nwR b T sa sz d t) fun L t => sb (aW T 10 t) fun _ t => sb (numR T 1 30 t) fun x t => sb (aW T 11 t) fun _ t => sb (numR T 1 9 t) fun y t => sb (aW T 12 t) fun _ t => sb (numR T 0 99 t) fun z t => .inr (addD d 2 (L, [x, y, z, 0]), t)
def carR (b : Nat → Int32) (T : Tk) (sa sz : Nat → Nat) (d : Ds) (at' : Int32) (t : Nat) : Flt ⊕ (Ds × Nat) := sb (fullR d 3 at' t) fun _ t => sb (nwR b T sa sz d t) fun L t => sb (aW T 2 t) fun _ t => sb (odR b T sa sz (d.2.1 1) (-1) t) fun x t => sb (aW T 5 t) fun _ t => sb (odR b T sa sz (d.2.1 1) x t) fun y t => sb (aW T 12 t) fun _ t => sb (numR T 0 99 t) fun z t => .inr (addD d 3 (L, [x, y, z, 0]), t)
def CH {α : Type} (e : Nat) (N : sMem) (r : Flt ⊕ (α × Nat)) (P : α → Prop) : Prop := match r with | .inl q => CS e N (.inl q) | .inr q => P q.1 ∧ CS e N (.inr q.2)
def csR {α : Type} (r : Flt ⊕ (α × Nat)) : Cs := match r with | .inl q => .inl q | .inr q => .inr q.2
def GB (b : Nat → Int32) (n : Nat) (T : Tk) (e D : Nat) (d : Ds) (M : sMem) : Prop := CT b n M ∧ TG T e M ∧ TWa M D ∧ TA M D d
section CS3
variable {b : Nat → Int32} {n e t c D kd : Nat} {T : Tk} {sa sz : Nat → Nat} {M N : sMem} {s : Cs} {d : Ds} {rows : List Row} {L : List Nat} {α : Type} {r : Flt ⊕ (α × Nat)} {P : α → Prop}
theorem sb_a {α β γ : Type} (r : Flt ⊕ (α × Nat)) (f : α → Nat → Flt ⊕ (β × Nat)) (g : β → Nat → Flt ⊕ γ) : sb (sb r f) g = sb r fun a t => sb (f a t) g := by
  match r with
  | .inl q => rfl
  | .inr q => rfl
theorem sb_r {α γ : Type} (a : α) (t : Nat) (g : α → Nat → Flt ⊕ γ) : sb (.inr (a, t)) g = g a t := rfl
theorem CH.cs (h : CH e M r P) : CS e M (csR r) := by
  match r, h with
  | .inl q, h => exact h
  | .inr q, h => exact h.2
theorem CH.go {β : Type} {g : Nat → Flt ⊕ (β × Nat)} {g' : α → Nat → Flt ⊕ (β × Nat)} {v : β} (h : CH e M r P) (k : CV2 e N (csR r) g v) (hg : ∀ a, P a → g' a = g) : CH e N (sb r fun a t => sb (g' a t) fun x t' => .inr ((a, x), t')) fun q => P q.1 ∧ v = q.2 := by
  match r, h, k with
  | .inl q, h, k => exact k
  | .inr (a, t), h, k =>
    have : CV2 e N (.inr t) (g' a) v := by rw [hg a h.1]; exact k
    rw [sb_r]
    unfold CV2 at this
    dsimp only at this
    match z : g' a t with
    | .inl q => rw [z] at this; exact this
    | .inr (x, t') => rw [z] at this; exact ⟨⟨h.1, this.1⟩, this.2⟩
theorem CH.wd {w : Nat} {z : Int32} (h : CH e M r P) (hz : z = nI w) (k : CS e N (ndW T z (csR r))) : CH e N (sb r fun a t => sb (aW T w t) fun _ t' => .inr (a, t')) P := by
  match r, h, k with
  | .inl q, h, k => exact k
  | .inr (a, t), h, k =>
    rw [sb_r]
    subst hz
    have e0 : ndW T (nI w) (csR (.inr (a, t))) = if T 3 t = 1 ∧ T 6 t = nI w then .inr (t + 1) else .inl (1, T 4 t) := rfl
    rw [e0] at k
    unfold aW
    by_cases q : T 3 t = 1 ∧ T 6 t = nI w
    · rw [if_pos q] at k ⊢; exact ⟨h.1, k⟩
    · rw [if_neg q] at k ⊢; exact k
theorem GB.tp (h : GB b n T e D d M) (hD : D = 10 ∨ D = 32) (hF : Fr tpX q0 M N) : GB b n T e D d N := ⟨h.1.fr hF rfl (fun _ => rfl), h.2.1.fr hF, h.2.2.1.tp hD hF, h.2.2.2.tp hD hF⟩
theorem g_w (hD : D = 10 ∨ D = 32) (hB : GB b n T e D d M) (h : CH e M r P) (w : Nat) {z : Int32} (hz : z = nI w) : ∃ N, f_X10_needWord 1 z M = some N ∧ Fr tpX q0 M N ∧ GB b n T e D d N ∧ CH e N (sb r fun a t => sb (aW T w t) fun _ t' => .inr (a, t')) P := by
  obtain ⟨N, a1, a2, a3⟩ := c_needW hB.2.1 h.cs z
  exact ⟨N, a1, a2, hB.tp hD a2, h.wd hz a3⟩
theorem g_n (hD : D = 10 ∨ D = 32) (hB : GB b n T e D d M) (h : CH e M r P) (lo hi : Int32) : ∃ v N, f_X10_number 1 lo hi M = some (v, N) ∧ Fr tpX q0 M N ∧ GB b n T e D d N ∧ CH e N (sb r fun a t => sb (numR T lo hi t) fun x t' => .inr ((a, x), t')) fun q => P q.1 ∧ v = q.2 := by
  obtain ⟨v, N, a1, a2, a3⟩ := c_number hB.2.1 h.cs lo hi
  exact ⟨v, N, a1, a2, hB.tp hD a2, h.go a3 (fun _ _ => rfl)⟩
theorem g_o (hL : Lex b n T e sa sz) (hD : D = 10 ∨ D = 32) (hG : GdD d) (hk : kd < 4) (hB : GB b n T e D d M) (h : CH e M r P) (but : Int32) (bf : α → Int32) (hb : ∀ a, P a → but = bf a) : ∃ v N, f_X5_oldName 7 (D + ofK kd) but M = some (v, N) ∧ Fr tpX q0 M N ∧ GB b n T e D d N ∧ CH e N (sb r fun a t => sb (odR b T sa sz (d.2.1 kd) (bf a) t) fun x t' => .inr ((a, x), t')) fun q => P q.1 ∧ v = q.2 := by
  obtain ⟨v, N, a1, a2, a3⟩ := c_oldName hL hB.1 hB.2.1 hD hk hB.2.2.1 hB.2.2.2 hG h.cs but
  exact ⟨v, N, a1, a2, hB.tp hD a2, h.go a3 (fun a ha => by rw [hb a ha])⟩
theorem g_new (hL : Lex b n T e sa sz) (hD : D = 10 ∨ D = 32) (hG : GdD d) (hB : GB b n T e D d M) (h : CS e M (.inr t)) : ∃ v N, f_X5_newName 7 D M = some (v, N) ∧ Fr tpX q0 M N ∧ GB b n T e D d N ∧ CH e N (nwR b T sa sz d t) fun L => v = nI (nv L 6) := by
  obtain ⟨v, N, a1, a2, a3⟩ := c_newName hL hB.1 hB.2.1 hD hB.2.2.1 hB.2.2.2 hG h
  refine ⟨v, N, a1, a2, hB.tp hD a2, ?_⟩
  unfold CH
  match z : nwR b T sa sz d t with
  | .inl q => rw [z] at a3; exact a3
  | .inr q => rw [z] at a3; exact a3
/-- what a statement of a table ends with -/
def SE (e D : Nat) (M N : sMem) (R : Flt ⊕ (Ds × Nat)) : Prop := Fr (stX D) q0 M N ∧ (∀ i, N.2.1 D i = M.2.1 D i) ∧ TWa N D ∧ CH e N R fun d' => TA N D d'
theorem g_add {f : α → Row} (hD : D = 10 ∨ D = 32) (hk : kd < 5) (hl : (d.2.1 kd).length < mxK kd) (hF : Fr tpX q0 N M) (hB : GB b n T e D d M) (h : CH e M r P) (v x y z w : Int32) (hf : ∀ a, P a → ∃ L, f a = (L, [x, y, z, w]) ∧ v = nI (nv L 6)) : ∃ O, f_X9_add (D + ofK kd) v x y z w M = some O ∧ SE e D N O (sb r fun a t => .inr (addD d kd (f a), t)) := by
  match r, h with
  | .inl q, h =>
    obtain ⟨O, a1, a2, a3, a4, a5, a6⟩ := t_add (d := d) (L := []) hB.2.1.1 hD hk hB.2.2.1 v x y z w
    exact ⟨O, a1, (up_st hF).tr a2, fun i => (a4 i).trans (hF.i (tp_out (by omega))), a5, CS.eq (show CS e M (.inl q) from h) a3⟩
  | .inr (a, t), h =>
    obtain ⟨L, l1, l2⟩ := hf a h.1
    obtain ⟨O, a1, a2, a3, a4, a5, a6⟩ := t_add (d := d) (L := L) hB.2.1.1 hD hk hB.2.2.1 v x y z w
    refine ⟨O, a1, (up_st hF).tr a2, fun i => (a4 i).trans (hF.i (tp_out (by omega))), a5, ?_⟩
    rw [sb_r, l1]
    exact ⟨a6 hB.2.2.2 hl l2, CS.eq h.2 a3⟩
theorem g_full (hD : D = 10 ∨ D = 32) (hk : kd < 5) (hB : GB b n T e D d M) (h : CS e M (.inr t)) (at' : Int32) : ∃ x N, f_X5_isFull 7 (D + ofK kd) at' M = some (x, N) ∧ ((fullR d kd at' t = .inl (5, at') ∧ x = 1 ∧ SE e D M N (.inl (5, at'))) ∨ (fullR d kd at' t = .inr ((), t) ∧ (d.2.1 kd).length < mxK kd ∧ x = 0 ∧ N = M)) := by
  obtain ⟨x, N, a1, a2, a3⟩ := c_full hB.2.1 hD hk hB.2.2.1 h (hB.2.2.2 kd hk) at'
  refine ⟨x, N, a1, ?_⟩
  rcases a3 with ⟨l, x1, k⟩ | ⟨l, x0, k⟩
  · exact Or.inl ⟨by unfold fullR; rw [if_pos l], x1, up_st a2, fun i => a2.i (tp_out (by omega)), hB.2.2.1.tp hD a2, k⟩
  · exact Or.inr ⟨by unfold fullR; rw [if_neg (by omega)], l, x0, k⟩
theorem c_gate (hL : Lex b n T e sa sz) (hD : D = 10 ∨ D = 32) (hG : GdD d) (hB : GB b n T e D d M) (h : CS e M (.inr t)) (hm : M.2.1 D 0 = d.1.1) (at' : Int32) : ∃ N, f_X5_readGate 7 D at' M = some N ∧ SE e D M N (gateR b T sa sz d at' t) := by
  have hc := hB.2.1.1
  obtain ⟨x, M1, a1, a2⟩ := g_full (kd := 0) hD (by decide) hB h at'
  unfold f_X5_readGate gateR
  rw [sr7 hc, grD_1 hc hD, Option.bind_some, show D + 1 = D + ofK 0 from rfl, a1]
  dsimp only [Option.bind_some]
  rcases a2 with ⟨e1, x1, k⟩ | ⟨e1, l, x0, k⟩
  · rw [x1, if_neg (by decide), e1]; exact ⟨M1, rfl, k⟩
  · subst k
    rw [x0, if_pos rfl, e1, sb_r]
    obtain ⟨v, N1, b1, b2, b3, b4⟩ := g_new hL hD hG hB h
    obtain ⟨N2, c1, c2, c3, c4⟩ := g_w hD b3 b4 2 (z := 2) rfl
    obtain ⟨y, N3, d1, d2, d3, d4⟩ := g_n hD c3 c4 0 d.1.1
    have F := (b2.tr c2).tr d2
    obtain ⟨O, o1, o2⟩ := g_add (f := fun a : List Nat × Int32 => (a.1, [a.2, 0, 0, 0])) hD (show 0 < 5 by decide) l F d3 d4 v y 0 0 0 (fun a ha => ⟨a.1, by rw [ha.2], ha.1⟩)
    have hm2 : N2.2.1 D 0 = d.1.1 := by rw [(b2.tr c2).i (tp_out (by omega))]; exact hm
    rw [b1]; dsimp only [Option.bind_some]
    rw [gr7_0 b3.2.1.1, Option.bind_some, c1, Option.bind_some, grD_1 c3.2.1.1 hD, Option.bind_some, gr7_0 c3.2.1.1, Option.bind_some, giD c3.2.1.1 hD, Option.bind_some, hm2, d1]
    dsimp only [Option.bind_some]
    rw [show D + 1 = D + ofK 0 from rfl, o1, Option.bind_some]
    simp only [sb_a, sb_r] at o2
    exact ⟨O, rfl, o2⟩
theorem c_place1 (hL : Lex b n T e sa sz) (hD : D = 10 ∨ D = 32) (hG : GdD d) (hB : GB b n T e D d M) (h : CS e M (.inr t)) (at' : Int32) : ∃ N, f_X5_readPlace 7 D at' M = some N ∧ SE e D M N (placeR b T sa sz d at' t) := by
  have hc := hB.2.1.1
  obtain ⟨x, M1, a1, a2⟩ := g_full (kd := 1) hD (by decide) hB h at'
  unfold f_X5_readPlace placeR
  rw [sr7 hc, grD_2 hc hD, Option.bind_some, show D + 4 = D + ofK 1 from rfl, a1]
  dsimp only [Option.bind_some]
  rcases a2 with ⟨e1, x1, k⟩ | ⟨e1, l, x0, k⟩
  · rw [x1, if_neg (by decide), e1]; exact ⟨M1, rfl, k⟩
  · subst k
    rw [x0, if_pos rfl, e1, sb_r]
    obtain ⟨v, N1, b1, b2, b3, b4⟩ := g_new hL hD hG hB h
    obtain ⟨O, o1, o2⟩ := g_add (f := fun a : List Nat => (a, [0, 0, 0, 0])) hD (show 1 < 5 by decide) l b2 b3 b4 v 0 0 0 0 (fun a ha => ⟨a, rfl, ha⟩)
    rw [grD_2 hc hD, Option.bind_some, b1]; dsimp only [Option.bind_some]
    rw [show D + 4 = D + ofK 1 from rfl, o1, Option.bind_some]
    exact ⟨O, rfl, o2⟩
theorem c_era (hL : Lex b n T e sa sz) (hD : D = 10 ∨ D = 32) (hG : GdD d) (hB : GB b n T e D d M) (h : CS e M (.inr t)) (at' : Int32) : ∃ N, f_X5_readEra 7 D at' M = some N ∧ SE e D M N (eraR b T sa sz d at' t) := by
  have hc := hB.2.1.1
  obtain ⟨x, M1, a1, a2⟩ := g_full (kd := 2) hD (by decide) hB h at'
  unfold f_X5_readEra eraR
  rw [sr7 hc, grD_4 hc hD, Option.bind_some, show D + 10 = D + ofK 2 from rfl, a1]
  dsimp only [Option.bind_some]
  rcases a2 with ⟨e1, x1, k⟩ | ⟨e1, l, x0, k⟩
  · rw [x1, if_neg (by decide), e1]; exact ⟨M1, rfl, k⟩
  · subst k
    rw [x0, if_pos rfl, e1, sb_r]
    obtain ⟨v, N1, b1, b2, b3, b4⟩ := g_new hL hD hG hB h
    obtain ⟨N2, c1, c2, c3, c4⟩ := g_w hD b3 b4 10 (z := 10) rfl
    obtain ⟨y, N3, d1, d2, d3, d4⟩ := g_n hD c3 c4 1 30
    obtain ⟨N4, e1, e2, e3, e4⟩ := g_w hD d3 d4 11 (z := 11) rfl
    obtain ⟨y2, N5, i1, i2, i3, i4⟩ := g_n hD e3 e4 1 9
    obtain ⟨N6, j1, j2, j3, j4⟩ := g_w hD i3 i4 12 (z := 12) rfl
    obtain ⟨y3, N7, k1, k2, k3, k4⟩ := g_n hD j3 j4 0 99
    have F := (((((b2.tr c2).tr d2).tr e2).tr i2).tr j2).tr k2
    obtain ⟨O, o1, o2⟩ := g_add (f := fun a : ((List Nat × Int32) × Int32) × Int32 => (a.1.1.1, [a.1.1.2, a.1.2, a.2, 0])) hD (show 2 < 5 by decide) l F k3 k4 v y y2 y3 0 (fun a ha => ⟨a.1.1.1, by rw [ha.2, ha.1.2, ha.1.1.2], ha.1.1.1⟩)
    rw [b1]; dsimp only [Option.bind_some]
    rw [gr7_0 b3.2.1.1, Option.bind_some, c1, Option.bind_some, gr7_0 c3.2.1.1, Option.bind_some, d1]
    dsimp only [Option.bind_some]
    rw [gr7_0 d3.2.1.1, Option.bind_some, e1, Option.bind_some, gr7_0 e3.2.1.1, Option.bind_some, i1]
    dsimp only [Option.bind_some]
    rw [gr7_0 i3.2.1.1, Option.bind_some, j1, Option.bind_some, grD_4 j3.2.1.1 hD, Option.bind_some, gr7_0 j3.2.1.1, Option.bind_some, k1]
    dsimp only [Option.bind_some]
    rw [show D + 10 = D + ofK 2 from rfl, o1, Option.bind_some]
    simp only [sb_a, sb_r] at o2
    exact ⟨O, rfl, o2⟩
theorem c_car (hL : Lex b n T e sa sz) (hD : D = 10 ∨ D = 32) (hG : GdD d) (hB : GB b n T e D d M) (h : CS e M (.inr t)) (at' : Int32) : ∃ N, f_X5_readCar 7 D at' M = some N ∧ SE e D M N (carR b T sa sz d at' t) := by
  have hc := hB.2.1.1
  obtain ⟨x, M1, a1, a2⟩ := g_full (kd := 3) hD (by decide) hB h at'
  unfold f_X5_readCar carR
  rw [sr7 hc, grD_5 hc hD, Option.bind_some, show D + 13 = D + ofK 3 from rfl, a1]
  dsimp only [Option.bind_some]
  rcases a2 with ⟨e1, x1, k⟩ | ⟨e1, l, x0, k⟩
  · rw [x1, if_neg (by decide), e1]; exact ⟨M1, rfl, k⟩
  · subst k
    rw [x0, if_pos rfl, e1, sb_r]
    obtain ⟨v, N1, b1, b2, b3, b4⟩ := g_new hL hD hG hB h
    obtain ⟨N2, c1, c2, c3, c4⟩ := g_w hD b3 b4 2 (z := 2) rfl
    obtain ⟨y, N3, d1, d2, d3, d4⟩ := g_o hL hD hG (show 1 < 4 by decide) c3 c4 (-1) (fun _ => -1) (fun _ _ => rfl)
    obtain ⟨N4, e1, e2, e3, e4⟩ := g_w hD d3 d4 5 (z := 5) rfl
    obtain ⟨y2, N5, i1, i2, i3, i4⟩ := g_o hL hD hG (show 1 < 4 by decide) e3 e4 y (fun a => a.2) (fun a ha => ha.2)
    obtain ⟨N6, j1, j2, j3, j4⟩ := g_w hD i3 i4 12 (z := 12) rfl
    obtain ⟨y3, N7, k1, k2, k3, k4⟩ := g_n hD j3 j4 0 99
    have F := (((((b2.tr c2).tr d2).tr e2).tr i2).tr j2).tr k2
    obtain ⟨O, o1, o2⟩ := g_add (f := fun a : ((List Nat × Int32) × Int32) × Int32 => (a.1.1.1, [a.1.1.2, a.1.2, a.2, 0])) hD (show 3 < 5 by decide) l F k3 k4 v y y2 y3 0 (fun a ha => ⟨a.1.1.1, by rw [ha.2, ha.1.2, ha.1.1.2], ha.1.1.1⟩)
    rw [b1]; dsimp only [Option.bind_some]
    rw [gr7_0 b3.2.1.1, Option.bind_some, c1, Option.bind_some, grD_2 c3.2.1.1 hD, Option.bind_some, show D + 4 = D + ofK 1 from rfl, d1]
    dsimp only [Option.bind_some]
    rw [gr7_0 d3.2.1.1, Option.bind_some, e1, Option.bind_some, grD_2 e3.2.1.1 hD, Option.bind_some, show D + 4 = D + ofK 1 from rfl, i1]
    dsimp only [Option.bind_some]
    rw [gr7_0 i3.2.1.1, Option.bind_some, j1, Option.bind_some, grD_5 j3.2.1.1 hD, Option.bind_some, gr7_0 j3.2.1.1, Option.bind_some, k1]
    dsimp only [Option.bind_some]
    rw [show D + 13 = D + ofK 3 from rfl, o1, Option.bind_some]
    simp only [sb_a, sb_r] at o2
    exact ⟨O, rfl, o2⟩
theorem c_way (hL : Lex b n T e sa sz) (hD : D = 10 ∨ D = 32) (hG : GdD d) (hB : GB b n T e D d M) (h : CS e M (.inr t)) (ov : Bool) (at' : Int32) : ∃ N, f_X5_readWay 7 D at' (if ov then 1 else 0) M = some N ∧ SE e D M N (wayR b T sa sz d ov at' t) := by
  have hc := hB.2.1.1
  obtain ⟨x, M1, a1, a2⟩ := g_full (kd := 4) hD (by decide) hB h at'
  unfold f_X5_readWay wayR f_X5_readWay_B92
  rw [sr7 hc, grD_3 hc hD, Option.bind_some, show D + 7 = D + ofK 4 from rfl, a1]
  dsimp only [Option.bind_some]
  rcases a2 with ⟨e1, x1, k⟩ | ⟨e1, l, x0, k⟩
  · rw [x1, if_neg (by decide), e1]; exact ⟨M1, rfl, k⟩
  · subst k
    rw [x0, if_pos rfl, e1, sb_r]
    have h0 : CH e M1 (.inr ((), t)) (fun _ : Unit => True) := ⟨trivial, h⟩
    obtain ⟨y, N3, d1, d2, d3, d4⟩ := g_o hL hD hG (show 1 < 4 by decide) hB h0 (-1) (fun _ => -1) (fun _ _ => rfl)
    obtain ⟨N4, e1, e2, e3, e4⟩ := g_w hD d3 d4 5 (z := 5) rfl
    obtain ⟨y2, N5, i1, i2, i3, i4⟩ := g_o hL hD hG (show 1 < 4 by decide) e3 e4 y (fun a => a.2) (fun a ha => ha.2)
    obtain ⟨N6, j1, j2, j3, j4⟩ := g_w hD i3 i4 6 (z := 6) rfl
    obtain ⟨y3, N7, k1, k2, k3, k4⟩ := g_n hD j3 j4 1 60
    have F := (((d2.tr e2).tr i2).tr j2).tr k2
    rw [grD_2 hc hD, Option.bind_some, show D + 4 = D + ofK 1 from rfl, d1]
    dsimp only [Option.bind_some]
    rw [gr7_0 d3.2.1.1, Option.bind_some, e1, Option.bind_some, grD_2 e3.2.1.1 hD, Option.bind_some, show D + 4 = D + ofK 1 from rfl, i1]
    dsimp only [Option.bind_some]
    rw [gr7_0 i3.2.1.1, Option.bind_some, j1, Option.bind_some, gr7_0 j3.2.1.1, Option.bind_some, k1]
    dsimp only [Option.bind_some]
    cases ov
    · obtain ⟨O, o1, o2⟩ := g_add (f := fun a : ((Unit × Int32) × Int32) × Int32 => ([], [a.1.1.2, a.1.2, a.2, -1])) hD (show 4 < 5 by decide) l F k3 k4 0 y y2 y3 (-1) (fun a ha => ⟨[], by rw [ha.2, ha.1.2, ha.1.1.2], rfl⟩)
      rw [if_pos (by decide), grD_3 k3.2.1.1 hD, Option.bind_some, show D + 7 = D + ofK 4 from rfl, o1, Option.bind_some]
      simp only [sb_a, sb_r] at o2
      refine ⟨O, rfl, ?_⟩
      simpa only [Bool.false_eq_true, if_false] using o2
    · obtain ⟨N8, l1, l2, l3, l4⟩ := g_w hD k3 k4 8 (z := 8) rfl
      obtain ⟨y4, N9, m1, m2, m3, m4⟩ := g_o hL hD hG (show 0 < 4 by decide) l3 l4 (-1) (fun _ => -1) (fun _ _ => rfl)
      obtain ⟨O, o1, o2⟩ := g_add (f := fun a : (((Unit × Int32) × Int32) × Int32) × Int32 => ([], [a.1.1.1.2, a.1.1.2, a.1.2, a.2])) hD (show 4 < 5 by decide) l ((F.tr l2).tr m2) m3 m4 0 y y2 y3 y4 (fun a ha => ⟨[], by rw [ha.2, ha.1.2, ha.1.1.2, ha.1.1.1.2], rfl⟩)
      rw [if_neg (by decide), gr7_0 k3.2.1.1, Option.bind_some, l1, Option.bind_some, grD_1 l3.2.1.1 hD, Option.bind_some, show D + 1 = D + ofK 0 from rfl, m1]
      dsimp only [Option.bind_some]
      rw [grD_3 m3.2.1.1 hD, Option.bind_some, show D + 7 = D + ofK 4 from rfl, o1, Option.bind_some]
      simp only [sb_a, sb_r] at o2
      refine ⟨O, rfl, ?_⟩
      simpa only [if_true] using o2
end CS3
