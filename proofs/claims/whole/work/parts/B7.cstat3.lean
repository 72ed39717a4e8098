/-! THE CLASS reads statements: all of them -/
def pr3 (D wh : Nat) : Nat := D + 16 + 2 * wh
def SF (D : Nat) (M N : sMem) : Prop :=
  (∀ (a : Nat) (q : Nat × Nat), M.1[a]? = some q → N.1[a]? = some q) ∧ (∀ a k, a < M.1.length → tpX a k = false → ¬ (D ≤ a ∧ a ≤ D + 21) → (∀ i, i < 3 → M.2.2.2 (pr3 D i) 0 ≠ some a) → N.2.1 a k = M.2.1 a k) ∧ (∀ a k, a < M.1.length → N.2.2.1 a k = M.2.2.1 a k) ∧ (∀ a k, a < M.1.length → (∀ i, i < 3 → ¬ (a = pr3 D i ∧ k = 0)) → N.2.2.2 a k = M.2.2.2 a k) ∧ (∀ i, i < 3 → N.2.2.2 (pr3 D i) 0 = M.2.2.2 (pr3 D i) 0 ∨ ∃ q, N.2.2.2 (pr3 D i) 0 = some q ∧ M.1.length ≤ q) ∧ Pot N ≤ Pot M
def CD (M : sMem) (D : Nat) (d : Ds) : Prop := TA M D d ∧ M.2.1 D 0 = d.1.1 ∧ M.2.1 D 9 = d.1.2 ∧ ∀ wh, wh < 3 → Pc M (pr3 D wh) ((d.2.2 wh).getD [])
def GdC (d : Ds) : Prop := ∀ wh, wh < 3 → ∀ c, d.2.2 wh = some c → tyA c [] = some [wh == 0] ∧ ∀ x ∈ c, okCode wh x = true
def codeR (T : Tk) (d : Ds) (wh : Nat) (at' : Int32) (t : Nat) : Flt ⊕ (Ds × Nat) := if (d.2.2 wh).isSome = true then .inl (5, at') else match (if wh = 0 then pTest 0 T 6 t else pSum wh T 6 t) with | .inl q => .inl q | .inr q => .inr ((d.1, d.2.1, fun k => if k = wh then some q.1 else d.2.2 k), q.2)
def smR (b : Nat → Int32) (T : Tk) (sa sz : Nat → Nat) (first : Bool) (d : Ds) (t : Nat) : Flt ⊕ (Ds × Nat) :=
  if T 3 t = 1 ∧ T 6 t ≠ -1 ∧ (first = true ↔ T 6 t = 0) then
    if T 6 t = 0 then sb (numR T 5 60 (t + 1)) fun v t => .inr (((v, d.1.2), d.2), t)
    else if T 6 t = 1 then gateR b T sa sz d (T 4 t) (t + 1)
    else if T 6 t = 3 then placeR b T sa sz d (T 4 t) (t + 1)
    else if T 6 t = 4 then wayR b T sa sz d false (T 4 t) (t + 1)
    else if T 6 t = 7 then wayR b T sa sz d true (T 4 t) (t + 1)
    else if T 6 t = 9 then eraR b T sa sz d (T 4 t) (t + 1)
    else if T 6 t = 13 then carR b T sa sz d (T 4 t) (t + 1)
    else if T 6 t = 14 then codeR T d 0 (T 4 t) (t + 1)
    else if T 6 t = 15 then codeR T d 1 (T 4 t) (t + 1)
    else if T 6 t = 16 then codeR T d 2 (T 4 t) (t + 1)
    else if T 6 t = 17 then sb (numR T 0 100 (t + 1)) fun v t => .inr (((d.1.1, v), d.2), t)
    else .inl (1, T 4 t)
  else .inl (1, T 4 t)
section CS4
variable {b : Nat → Int32} {n e t c D kd wh : Nat} {T : Tk} {sa sz : Nat → Nat} {M N O : sMem} {s : Cs} {d : Ds} {R : Flt ⊕ (Ds × Nat)}
theorem pr3_in (hD : D = 10 ∨ D = 32) (hw : wh < 3) : pr3 D wh ∈ prgL := by
  have : ∀ wh, wh < 3 → pr3 10 wh ∈ prgL ∧ pr3 32 wh ∈ prgL := by decide
  rcases hD with rfl | rfl
  · exact (this wh hw).1
  · exact (this wh hw).2
theorem SF.rf : SF D M M := ⟨fun _ _ h => h, fun _ _ _ _ _ _ => rfl, fun _ _ _ => rfl, fun _ _ _ _ => rfl, fun _ _ => Or.inl rfl, Nat.le_refl _⟩
theorem SF.len (h : SF D M N) : M.1.length ≤ N.1.length := by
  rcases Nat.eq_zero_or_pos M.1.length with h0 | h0
  · omega
  · have := lt_of_sh (h.1 (M.1.length - 1) _ (List.getElem?_eq_getElem (by omega)))
    omega
theorem SF.tr (h : SF D M N) (h2 : SF D N O) : SF D M O := by
  have hl := h.len
  refine ⟨fun a q z => h2.1 a q (h.1 a q z), fun a k l z z1 z2 => ?_, fun a k l => (h2.2.2.1 a k (by omega)).trans (h.2.2.1 a k l), fun a k l z => (h2.2.2.2.1 a k (by omega) z).trans (h.2.2.2.1 a k l z), fun i hi => ?_, Nat.le_trans h2.2.2.2.2.2 h.2.2.2.2.2⟩
  · refine (h2.2.1 a k (by omega) z z1 (fun i hi => ?_)).trans (h.2.1 a k l z z1 z2)
    rcases h.2.2.2.2.1 i hi with q | ⟨q, q1, q2⟩
    · rw [q]; exact z2 i hi
    · rw [q1]; intro w; have := Option.some.inj w; omega
  · rcases h2.2.2.2.2.1 i hi with q | ⟨q, q1, q2⟩
    · rcases h.2.2.2.2.1 i hi with w | ⟨w, w1, w2⟩
      · exact Or.inl (q.trans w)
      · exact Or.inr ⟨w, q.trans w1, w2⟩
    · exact Or.inr ⟨q, q1, by omega⟩
theorem st_out {a k : Nat} (h1 : tpX a k = false) (h2 : ¬ (D ≤ a ∧ a ≤ D + 15)) : stX D a k = false := by
  unfold stX
  rw [h1, Bool.false_or]
  by_cases q1 : D ≤ a
  · have q2 : ¬ a ≤ D + 15 := fun z => h2 ⟨q1, z⟩
    simp [q1, q2]
  · simp [q1]
theorem SF.fr (h : Fr (stX D) q0 M N) : SF D M N := ⟨fun a q z => by rw [h.1]; exact z, fun a k _ z z1 _ => h.i (st_out z (by omega)), fun a k _ => h.j rfl, fun a k _ _ => by rw [h.2.1], fun _ _ => Or.inl (by rw [h.2.1]), Nat.le_of_eq h.pot⟩
theorem SF.fp (hD : D = 10 ∨ D = 32) (hl : 187 ≤ M.1.length) (hw : wh < 3) (h : FP (pr3 D wh) M N) : SF D M N := by
  refine ⟨h.1, fun a k l z z1 z2 => h.2.1 a k l z (fun w => z1 (by rw [w]; unfold pr3; omega)) (z2 wh hw), h.2.2.1, fun a k l z => h.2.2.2.1 a k l (z wh hw), fun i hi => ?_, h.2.2.2.2.2⟩
  by_cases q : i = wh
  · rw [q]; exact h.2.2.2.2.1
  · exact Or.inl (h.2.2.2.1 _ _ (by unfold pr3; omega) (fun w => q (by have := w.1; unfold pr3 at this; omega)))
/-- all that reading stands on -/
def GA (b : Nat → Int32) (n : Nat) (T : Tk) (e D : Nat) (M : sMem) : Prop := CT b n M ∧ TG T e M ∧ PA M ∧ TWa M D
def SQ (b : Nat → Int32) (n : Nat) (T : Tk) (e D : Nat) (M N : sMem) (R : Flt ⊕ (Ds × Nat)) : Prop := SF D M N ∧ GA b n T e D N ∧ CH e N R fun d' => CD N D d'
theorem tk_st (hD : D = 10 ∨ D = 32) (h : TG T e M) (hF : Fr (stX D) q0 M N) : TG T e N :=
  ⟨hF.hc h.1, fun a k h1 h2 => by rw [hF.i (st_out (tp_out (by omega)) (by omega))]; exact h.2.1 a k h1 h2, by rw [hF.i (st_out rfl (by omega))]; exact h.2.2.1, h.2.2.2⟩
theorem pa_st (hD : D = 10 ∨ D = 32) (h : PA M) (hF : Fr (stX D) q0 M N) : PA N := h.fr hF (by rcases hD with rfl | rfl <;> decide)
theorem pc_st (hD : D = 10 ∨ D = 32) {p : Nat} {cs : List Nat} (hp : p ∈ prgL) (hA : PA M) (h : Pc M p cs) (hF : Fr (stX D) q0 M N) : Pc N p cs := by
  have : ∀ p ∈ prgL, stX 10 p 1 = false ∧ stX 32 p 1 = false ∧ ∀ i, i < 2 → (stX 10 (p + 1) i = false ∧ stX 32 (p + 1) i = false) ∧ ¬ (10 ≤ p + 1 ∧ p + 1 ≤ 25) ∧ ¬ (32 ≤ p + 1 ∧ p + 1 ≤ 47) := by decide
  obtain ⟨c1, c2, c3⟩ := this p hp
  refine h.fr hF (by rcases hD with rfl | rfl; exact c1; exact c2) (fun q hq i => ?_)
  have hq1 := (hA.2.1 p hp).q1 hp hq
  have c4 := (c3 0 (by decide)).2
  exact st_out (tp_out (by omega)) (by rcases hD with rfl | rfl <;> omega)
theorem ct_st (hD : D = 10 ∨ D = 32) (h : CT b n M) (hF : Fr (stX D) q0 M N) : CT b n N := h.fr hF (st_out rfl (by omega)) (fun i => st_out rfl (by omega))
theorem GA.st (hD : D = 10 ∨ D = 32) (h : GA b n T e D M) (hF : Fr (stX D) q0 M N) (hW : TWa N D) : GA b n T e D N := ⟨ct_st hD h.1 hF, tk_st hD h.2.1 hF, pa_st hD h.2.2.1 hF, hW⟩
theorem GA.tp (hD : D = 10 ∨ D = 32) (h : GA b n T e D M) (hF : Fr tpX q0 M N) : GA b n T e D N := h.st hD (up_st hF) (h.2.2.2.tp hD hF)
theorem CD.st (hD : D = 10 ∨ D = 32) (hA : PA M) (h : CD M D d) (hF : Fr (stX D) q0 M N) (hT : TA N D d) (h0 : ∀ i, N.2.1 D i = M.2.1 D i) : CD N D d := ⟨hT, by rw [h0]; exact h.2.1, by rw [h0]; exact h.2.2.1, fun wh hw => pc_st hD (pr3_in hD hw) hA (h.2.2.2 wh hw) hF⟩
theorem CD.tp (hD : D = 10 ∨ D = 32) (hA : PA M) (h : CD M D d) (hF : Fr tpX q0 M N) : CD N D d := h.st hD hA (up_st hF) (h.1.tp hD hF) (fun i => hF.i (tp_out (by omega)))
/-- from a statement of a table -/
theorem SE.sq (hD : D = 10 ∨ D = 32) (hF : Fr tpX q0 O M) (hA : GA b n T e D M) (h : CD M D d) (hR : ∀ d' t', R = .inr (d', t') → d'.1 = d.1 ∧ d'.2.2 = d.2.2) (k : SE e D M N R) : SQ b n T e D O N R := by
  obtain ⟨k1, k2, k3, k4⟩ := k
  refine ⟨(SF.fr (up_st hF)).tr (SF.fr k1), hA.st hD k1 k3, ?_⟩
  match R, hR, k4 with
  | .inl q, hR, k4 => exact k4
  | .inr (d', t'), hR, k4 =>
    obtain ⟨r1, r2⟩ := hR d' t' rfl
    exact ⟨⟨k4.1, by rw [k2, r1]; exact h.2.1, by rw [k2, r1]; exact h.2.2.1, fun wh hw => by rw [r2]; exact pc_st hD (pr3_in hD hw) hA.2.2.1 (h.2.2.2 wh hw) k1⟩, k4.2⟩
theorem sb_ex {α β : Type} {r : Flt ⊕ (α × Nat)} {f : α → Nat → Flt ⊕ β} {x : β} (h : sb r f = .inr x) : ∃ a t, r = .inr (a, t) ∧ f a t = .inr x := by
  match r, h with
  | .inl q, h => cases h
  | .inr (a, t), h => exact ⟨a, t, rfl, h⟩
theorem add_12 {kd : Nat} {r : Row} : (addD d kd r).1 = d.1 ∧ (addD d kd r).2.2 = d.2.2 := ⟨rfl, rfl⟩
theorem gateR_12 {at' : Int32} {d' : Ds} {t' : Nat} (h : gateR b T sa sz d at' t = .inr (d', t')) : d'.1 = d.1 ∧ d'.2.2 = d.2.2 := by
  unfold gateR at h
  obtain ⟨_, _, _, h⟩ := sb_ex h
  obtain ⟨_, _, _, h⟩ := sb_ex h
  obtain ⟨_, _, _, h⟩ := sb_ex h
  obtain ⟨_, _, _, h⟩ := sb_ex h
  obtain ⟨rfl, rfl⟩ := Prod.mk.inj (Sum.inr.inj h)
  exact add_12
theorem placeR_12 {at' : Int32} {d' : Ds} {t' : Nat} (h : placeR b T sa sz d at' t = .inr (d', t')) : d'.1 = d.1 ∧ d'.2.2 = d.2.2 := by
  unfold placeR at h
  obtain ⟨_, _, _, h⟩ := sb_ex h
  obtain ⟨_, _, _, h⟩ := sb_ex h
  obtain ⟨rfl, rfl⟩ := Prod.mk.inj (Sum.inr.inj h)
  exact add_12
theorem eraR_12 {at' : Int32} {d' : Ds} {t' : Nat} (h : eraR b T sa sz d at' t = .inr (d', t')) : d'.1 = d.1 ∧ d'.2.2 = d.2.2 := by
  unfold eraR at h
  obtain ⟨_, _, _, h⟩ := sb_ex h
  obtain ⟨_, _, _, h⟩ := sb_ex h
  obtain ⟨_, _, _, h⟩ := sb_ex h
  obtain ⟨_, _, _, h⟩ := sb_ex h
  obtain ⟨_, _, _, h⟩ := sb_ex h
  obtain ⟨_, _, _, h⟩ := sb_ex h
  obtain ⟨_, _, _, h⟩ := sb_ex h
  obtain ⟨_, _, _, h⟩ := sb_ex h
  obtain ⟨rfl, rfl⟩ := Prod.mk.inj (Sum.inr.inj h)
  exact add_12
theorem carR_12 {at' : Int32} {d' : Ds} {t' : Nat} (h : carR b T sa sz d at' t = .inr (d', t')) : d'.1 = d.1 ∧ d'.2.2 = d.2.2 := by
  unfold carR at h
  obtain ⟨_, _, _, h⟩ := sb_ex h
  obtain ⟨_, _, _, h⟩ := sb_ex h
  obtain ⟨_, _, _, h⟩ := sb_ex h
  obtain ⟨_, _, _, h⟩ := sb_ex h
  obtain ⟨_, _, _, h⟩ := sb_ex h
  obtain ⟨_, _, _, h⟩ := sb_ex h
  obtain ⟨_, _, _, h⟩ := sb_ex h
  obtain ⟨_, _, _, h⟩ := sb_ex h
  obtain ⟨rfl, rfl⟩ := Prod.mk.inj (Sum.inr.inj h)
  exact add_12
theorem wayR_12 {at' : Int32} {ov : Bool} {d' : Ds} {t' : Nat} (h : wayR b T sa sz d ov at' t = .inr (d', t')) : d'.1 = d.1 ∧ d'.2.2 = d.2.2 := by
  unfold wayR at h
  obtain ⟨_, _, _, h⟩ := sb_ex h
  obtain ⟨_, _, _, h⟩ := sb_ex h
  obtain ⟨_, _, _, h⟩ := sb_ex h
  obtain ⟨_, _, _, h⟩ := sb_ex h
  obtain ⟨_, _, _, h⟩ := sb_ex h
  obtain ⟨_, _, _, h⟩ := sb_ex h
  cases ov
  · rw [if_neg (by decide)] at h
    obtain ⟨rfl, rfl⟩ := Prod.mk.inj (Sum.inr.inj h)
    exact add_12
  · rw [if_pos rfl] at h
    obtain ⟨_, _, _, h⟩ := sb_ex h
    obtain ⟨_, _, _, h⟩ := sb_ex h
    obtain ⟨rfl, rfl⟩ := Prod.mk.inj (Sum.inr.inj h)
    exact add_12
/-- a number of the district -/
theorem c_dnum (hD : D = 10 ∨ D = 32) (hF : Fr tpX q0 O M) (hA : GA b n T e D M) (hC : CD M D d) (h : CS e M (.inr t)) (lo hi : Int32) (k : Nat) (hk : k = 0 ∨ k = 9) : ∃ N, ((f_X10_number 1 lo hi M).bind fun (x34, M35) => (pI 1 10 k M35 D x34).bind fun M36 => some M36) = some N ∧ SQ b n T e D O N (sb (numR T lo hi t) fun v t => .inr ((if k = 0 then (v, d.1.2) else (d.1.1, v), d.2), t)) := by
  obtain ⟨v, N1, a1, a2, a3⟩ := c_number hA.2.1 h lo hi
  rw [a1]
  dsimp only [Option.bind_some]
  have hA1 := hA.tp hD a2
  rw [pI_of (dsh0 hA1.2.1.1 hD), Option.bind_some]
  have F : Fr (stX D) q0 N1 (wrI N1 D k v) := Fr.rf.wi (by unfold stX; simp)
  have o : ∀ a i, a ≠ D → (wrI N1 D k v).2.1 a i = N1.2.1 a i := fun a i ha => wrI_ne (by omega)
  have m1 := fun kd (hk : kd < 5) => mx_le hk
  refine ⟨_, rfl, ((SF.fr (up_st hF)).tr (SF.fr (up_st a2))).tr (SF.fr F), hA1.st hD F (fun kd hk => (hA1.2.2.2 kd hk).of (fun i => o _ i (by have := m1 kd hk; omega))), ?_⟩
  have s1 : ∀ s, CS e N1 s → CS e (wrI N1 D k v) s := fun s hs => CS.eq hs (fun i => o 1 i (by omega))
  unfold CV2 at a3
  dsimp only at a3
  match z : numR T lo hi t with
  | .inl q => rw [z] at a3; exact s1 _ a3
  | .inr (v', t') =>
    rw [z] at a3
    obtain ⟨q1, q2⟩ := a3
    dsimp only at q1 q2
    subst q1
    rw [sb_r]
    have hC1 := hC.tp hD hA.2.2.1 a2
    refine ⟨⟨fun kd hk => (hC1.1 kd hk).of hk (fun a i h1 h2 => o _ i (by have := m1 kd hk; omega)), ?_, ?_, fun wh hw => pc_st hD (pr3_in hD hw) hA1.2.2.1 (hC1.2.2.2 wh hw) F⟩, s1 _ q2⟩
    · rcases hk with rfl | rfl
      · rw [if_pos rfl]; exact wrI_eq
      · rw [if_neg (by decide), wrI_ne (by omega)]; exact hC1.2.1
    · rcases hk with rfl | rfl
      · rw [if_pos rfl, wrI_ne (by omega)]; exact hC1.2.2.1
      · rw [if_neg (by decide)]; exact wrI_eq
end CS4
