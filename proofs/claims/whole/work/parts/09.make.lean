/-! WHAT IS MADE; copies; calls -/
section R5
variable {G : sG} {l : Launch} {d : Nat} {y : MethodName} {cc : ByteArray} {mL : Nat} {ret : Option FieldType} {M0 : sMem} {r : Option Value} {M' : sMem} {pc pc2 : Nat} {ls : List (Option Value)} {st st2 : List Value} {M : sMem} {γ : Type} {K : γ → Prop}
theorem sNew_len (c n : Nat) (M : sMem) : sLen (sNew c n M) = sLen M + 1 := by simp [sLen, sNew]
theorem sNew_slots (c n : Nat) (M : sMem) : sSlots (sNew c n M) = sSlots M + n := by simp [sSlots, sNew]
theorem up1_ne {α : Type} {f : Nat → Nat → α} {a b : Nat} {g : Nat → α} (h : b ≠ a) : up1 f a g b = f b := if_neg h
theorem up1_same {α : Type} (f : Nat → Nat → α) (a : Nat) (g : Nat → α) : up1 f a g a = g := if_pos rfl
theorem sws_new (c n : Nat) : sws G (sNew c n M) = sws G M ++ [(sad G (sLen M), scell G (sNew c n M) (sLen M) (c, n))] := by
  show (M.1 ++ [(c, n)]).mapIdx _ = _
  rw [List.mapIdx_append]
  have e2 : List.mapIdx (fun i q => (sad G (i + M.1.length), scell G (sNew c n M) (i + M.1.length) q)) [(c, n)] = [(sad G (sLen M), scell G (sNew c n M) (sLen M) (c, n))] := by
    show [(sad G (0 + M.1.length), scell G (sNew c n M) (0 + M.1.length) (c, n))] = _
    rw [Nat.zero_add]; rfl
  rw [e2]
  congr 1
  unfold sws
  apply List.ext_getElem?
  intro b
  rw [List.getElem?_mapIdx, List.getElem?_mapIdx]
  cases hb : M.1[b]? with
  | none => rfl
  | some q =>
    have hlt : b < sLen M := (List.getElem?_eq_some_iff.mp hb).1
    show some (sad G b, scell G (sNew c n M) b q) = some (sad G b, scell G M b q)
    rw [scell_eq (M1 := sNew c n M) (M := M) (up1_ne (by omega)) (up1_ne (by omega)) (up1_ne (by omega))]
theorem sarr_newR {c n : Nat} (hc : c = 17 ∨ c = 18) : sarr G (sNew c n M) (sLen M) c = .inr (.inr (.inr (.inr (fun _ => none)))) := by
  rcases hc with rfl | rfl <;> simp [sarr, sNew, up1_same]
/-- the address of what is made -/
theorem sNew_at {s : State} {H1 : Heap} {q : Nat} {e : va_E} (h0 : s.heap.size = sB G + sLen M0) (hl : sLen M0 ≤ sLen M) (hm : sLen M ≤ 1000000) (hz : H1.size ≤ s.heap.size + (sLen M - sLen M0 + 1)) (hP : va_P G.1 vwCl (sws G M ++ [(q, e)]) H1) (hD : va_D (sA G) (sws G M ++ [(q, e)])) : q = sad G (sLen M) := by
  rw [sad_lt (by omega)]
  have hq : (sws G M ++ [(q, e)])[sLen M]? = some (q, e) := by rw [← sws_len G M]; simp
  have h1 : q < H1.size := (hP _ _ hq).lt
  have h2 : sB G ≤ q := hD.2 _ _ hq
  by_cases h3 : q - sB G < sLen M
  · exfalso
    have hlt : q - sB G < M.1.length := h3
    have hg := sws_get (G := G) (M := M) (List.getElem?_eq_getElem hlt)
    have hg2 : (sws G M ++ [(q, e)])[q - sB G]? = some (sad G (q - sB G), scell G M (q - sB G) (M.1[q - sB G])) := by
      rw [List.getElem?_append_left (by rw [sws_len]; exact h3)]; exact hg
    have := hD.1 _ _ _ _ hg2 hq (by rw [sad_lt (by omega)]; show _ = q; omega)
    omega
  · omega
def sCw (own : String) (i c n : Nat) : Prop := ∃ (C : String) (T : u_T), vwCl[c]? = some (C, T, n) ∧ c < 13 ∧ (∀ w ∈ u_ws C T n, w ∈ sTb) ∧ (∀ j, j < n → parseFieldDescriptor (T j).2.2.1 = some (sTy c j)) ∧ Cond.classLink own i C ∈ sTb ∧ Cond.instantiable C n ∈ sTb ∧ Cond.initialized C ∈ sTb ∧ ∀ j, j < n → sTy c j ≠ .float ∧ sTy c j ≠ .double
theorem sX_new {i c n : Nat} {k : Option γ} (lw : sCw y.cls i c n) (hd : decode cc pc = .ok (.new i, 3)) (hd0 : 1 ≤ d) (kk : sX G l d y cc mL ret M0 r M' (pc + 3) ls (.ref (sLen M) :: st) (sNew c n M) k K) : sX G l d y cc mL ret M0 r M' pc ls st M k K := by
  obtain ⟨C, T, f1, f2, f3, f4, f5, f6, f7, f8⟩ := lw
  intro x h1 h2 hm
  obtain ⟨a1, a2, a4⟩ := kk x h1 h2 hm
  rw [sNew_len] at a1
  rw [sNew_slots] at a2
  refine ⟨by omega, by omega, fun p e s m args below meth c0 H locs lsM hA b1 b2 hR hS hL => ?_⟩
  have hfs : ∀ j, j < n → defaultValue (sTy c j) = vp_V ((List.range n).map (sfv G (sNew c n M) (sLen M) c)) j := by
    intro j hj
    have e1 : vp_V ((List.range n).map (sfv G (sNew c n M) (sLen M) c)) j = sfv G (sNew c n M) (sLen M) c j := by
      unfold vp_V
      rw [List.getD_eq_getElem?_getD, List.getElem?_map, List.getElem?_range hj]; rfl
    rw [e1]
    have hf := f8 j hj
    unfold sfv sNew
    simp only [up1_same]
    cases hty : sTy c j <;> first | rfl | exact absurd hty hf.1 | exact absurd hty hf.2
  refine va_new (own := y.cls) hA.1 hA.2.1 hA.2.2.2.2.2.1 f3 (sTy c) f4 hA.2.2.2.2.1 (hA.2.2.2.2.2.1 _ f5) (hA.2.2.2.2.2.1 _ f6) (hA.2.2.2.2.2.1 _ f7) hA.2.2.2.2.2.2.2.2.1.1 hR.2.2.1 (sD hR.2.1) hS (fun q hq => by show sB G ≤ q; have := hA.2.2.2.2.2.2.2.2.2.1; omega) f1 hfs (by show _ ≤ sLen M' - sLen M0; omega) (by show _ ≤ sSlots M' - sSlots M0; omega) hd (fun q H1 hP1 hD1 hS1 => ?_)
  refine sW_sized (fun hz => ?_)
  have hq := sNew_at hA.2.2.2.2.2.2.2.2.2.1 b1 hR.2.1 hz hP1 hD1
  subst hq
  have e0 : sws G (sNew c n M) = sws G M ++ [(sad G (sLen M), .inr (c, (List.range n).map (sfv G (sNew c n M) (sLen M) c)))] := by
    rw [sws_new, scell_obj G _ _ f2]
  rw [← e0] at hP1
  have w := a4 p e s m args below meth c0 H1 locs lsM hA (by rw [sNew_len]; omega) (by rw [sNew_slots]; omega) (sRel_of hA.2.2.2.2.2.2.2.2.2.1 hA.2.2.2.2.2.2.2.2.2.2 (by rw [sNew_len]; omega) (by rw [sNew_len]; omega) (by rw [sNew_len, show sLen M + 1 - sLen M0 = sLen M - sLen M0 + 1 by omega]; exact hz) hP1 hS1) hS1 hL
  rw [sNew_len, sNew_slots, show sLen M + 1 - sLen M0 = sLen M - sLen M0 + 1 by omega, show sSlots M + n - sSlots M0 = sSlots M - sSlots M0 + n by omega] at w
  exact w
/-- which array type is which kind -/
def sAk (t : ArrayType) (c : Nat) (ty : FieldType) : Prop := newarray.typeOf t = ty ∧ Cond.arrayClass ty ∈ sTb ∧ 13 ≤ c ∧ c < 17 ∧ (∀ G : sG, (sTys G)[c - 13]? = some (G.2.1 c, ty)) ∧ componentBytes ty ≤ 8 ∧ (∀ U : State, ∀ cA : ClassId, va_RA U cA ty → U.vm.findClass ("[" ++ ty.toString) = some cA) ∧ ∀ (G : sG) (M : sMem) (n : Nat) (cA : ClassId), vp_cell cA (n, sarr G (sNew c n M) (sLen M) c) = arrV cA n (fun _ => defaultValue ty)
theorem sX_newa {t : ArrayType} {c : Nat} {ty : FieldType} {n : Int32} {f : Nat × sMem → Option γ} (la : sAk t c ty) (hd : decode cc pc = .ok (.newarray t, 2)) (hd0 : 1 ≤ d) (kk : ∀ q M1, sX G l d y cc mL ret M0 r M' (pc + 2) ls (.ref q :: st) M1 (f (q, M1)) K) : sX G l d y cc mL ret M0 r M' pc ls (.int n :: st) M ((nA c M n).bind f) K := by
  obtain ⟨f1, f2, f3, f4, f5, f6, f7, f8⟩ := la
  unfold nA
  split
  · rename_i hn
    intro x h1 h2 hm
    obtain ⟨a1, a2, a4⟩ := kk (sLen M) (sNew c n.toNatClampNeg M) x h1 h2 hm
    rw [sNew_len] at a1
    rw [sNew_slots] at a2
    refine ⟨by omega, by omega, fun p e s m args below meth c0 H locs lsM hA b1 b2 hR hS hL => ?_⟩
    have hb8 : n.toNatClampNeg * componentBytes ty ≤ 536870912 := Nat.le_trans (Nat.mul_le_mul hn.2 f6) (by decide)
    refine va_newa hA.1 hA.2.1 (by rw [f1]; exact hA.2.2.2.2.2.1 _ f2) f1 hA.2.2.2.2.2.2.2.2.1.1 hR.2.2.1 (sD hR.2.1) hS (fun q hq => by show sB G ≤ q; have := hA.2.2.2.2.2.2.2.2.2.1; omega) (f8 G M n.toNatClampNeg) hn.1 rfl hb8 (by show _ ≤ sLen M' - sLen M0; omega) (by show _ ≤ sSlots M' - sSlots M0; omega) hd (fun q cA H1 hK1 hP1 hD1 hS1 => ?_)
    refine sW_sized (fun hz => ?_)
    have hq := sNew_at hA.2.2.2.2.2.2.2.2.2.1 b1 hR.2.1 hz hP1 hD1
    subst hq
    have hcA : cA = G.2.1 c := by
      have g1 := f7 s cA (hK1.2 (sTys G).length (cA, ty) (by simp)).2
      have g2 := f7 s (G.2.1 c) (hA.2.2.2.2.2.2.2.2.1.1.2 (c - 13) _ (f5 G)).2
      exact Option.some.inj (g1.symm.trans g2)
    subst hcA
    have e0 : sws G (sNew c n.toNatClampNeg M) = sws G M ++ [(sad G (sLen M), .inl (G.2.1 c, n.toNatClampNeg, sarr G (sNew c n.toNatClampNeg M) (sLen M) c))] := by
      rw [sws_new, scell_arr G _ _ (by omega)]
    rw [← e0] at hP1
    have w := a4 p e s m args below meth c0 H1 locs lsM hA (by rw [sNew_len]; omega) (by rw [sNew_slots]; omega) (sRel_of hA.2.2.2.2.2.2.2.2.2.1 hA.2.2.2.2.2.2.2.2.2.2 (by rw [sNew_len]; omega) (by rw [sNew_len]; omega) (by rw [sNew_len, show sLen M + 1 - sLen M0 = sLen M - sLen M0 + 1 by omega]; exact hz) hP1 hS1) hS1 hL
    rw [sNew_len, sNew_slots, show sLen M + 1 - sLen M0 = sLen M - sLen M0 + 1 by omega, show sSlots M + n.toNatClampNeg - sSlots M0 = sSlots M - sSlots M0 + n.toNatClampNeg by omega] at w
    exact w
  · exact sX_none
theorem sX_newS {i : Nat} {n : Int32} {f : Nat × sMem → Option γ} (hw : Cond.classLink y.cls i "CenturyGates$State" ∈ sTb) (hd : decode cc pc = .ok (.anewarray i, 3)) (hd0 : 1 ≤ d) (kk : ∀ q M1, sX G l d y cc mL ret M0 r M' (pc + 3) ls (.ref q :: st) M1 (f (q, M1)) K) : sX G l d y cc mL ret M0 r M' pc ls (.int n :: st) M ((nA 17 M n).bind f) K := by
  unfold nA
  split
  · rename_i hn
    intro x h1 h2 hm
    obtain ⟨a1, a2, a4⟩ := kk (sLen M) (sNew 17 n.toNatClampNeg M) x h1 h2 hm
    rw [sNew_len] at a1
    rw [sNew_slots] at a2
    refine ⟨by omega, by omega, fun p e s m args below meth c0 H locs lsM hA b1 b2 hR hS hL => ?_⟩
    have hKw := hA.2.2.2.2.2.2.2.2.1
    refine va_newq (own := y.cls) hA.1 hA.2.1 hA.2.2.2.2.1 (hA.2.2.2.2.2.1 _ hw) hKw.2.2.1 hKw.1 hR.2.2.1 (sD hR.2.1) hS (fun q hq => by show sB G ≤ q; have := hA.2.2.2.2.2.2.2.2.2.1; omega) hn.1 rfl (by omega) (by show _ ≤ sLen M' - sLen M0; omega) (by show _ ≤ sSlots M' - sSlots M0; omega) hd (fun q cA H1 hK1 hP1 hD1 hS1 => ?_)
    refine sW_sized (fun hz => ?_)
    have hq := sNew_at hA.2.2.2.2.2.2.2.2.2.1 b1 hR.2.1 hz hP1 hD1
    subst hq
    have hcA : cA = G.2.1 17 := by
      obtain ⟨-, -, -, -, -, g1⟩ := (hK1.2 (sTys G).length (cA, .object "CenturyGates$State") (by simp)).2
      obtain ⟨-, -, -, -, -, g2⟩ := (hKw.1.2 4 (G.2.1 17, .object "CenturyGates$State") rfl).2
      exact Option.some.inj (g1.symm.trans g2)
    subst hcA
    have e0 : sws G (sNew 17 n.toNatClampNeg M) = sws G M ++ [(sad G (sLen M), .inl (G.2.1 17, n.toNatClampNeg, .inr (.inr (.inr (.inr (fun _ => none))))))] := by
      rw [sws_new, scell_arr G _ _ (by decide)]
      rw [sarr_newR (by decide)]
    rw [← e0] at hP1
    have w := a4 p e s m args below meth c0 H1 locs lsM hA (by rw [sNew_len]; omega) (by rw [sNew_slots]; omega) (sRel_of hA.2.2.2.2.2.2.2.2.2.1 hA.2.2.2.2.2.2.2.2.2.2 (by rw [sNew_len]; omega) (by rw [sNew_len]; omega) (by rw [sNew_len, show sLen M + 1 - sLen M0 = sLen M - sLen M0 + 1 by omega]; exact hz) hP1 hS1) hS1 hL
    rw [sNew_len, sNew_slots, show sLen M + 1 - sLen M0 = sLen M - sLen M0 + 1 by omega, show sSlots M + n.toNatClampNeg - sSlots M0 = sSlots M - sSlots M0 + n.toNatClampNeg by omega] at w
    exact w
  · exact sX_none
/-- a row of rows of longs -/
theorem sX_newL {i : Nat} {n : Int32} {f : Nat × sMem → Option γ} (hw : Cond.classLink y.cls i (FieldType.array .long).toString ∈ sTb) (hd : decode cc pc = .ok (.anewarray i, 3)) (hd0 : 1 ≤ d) (kk : ∀ q M1, sX G l d y cc mL ret M0 r M' (pc + 3) ls (.ref q :: st) M1 (f (q, M1)) K) : sX G l d y cc mL ret M0 r M' pc ls (.int n :: st) M ((nA 18 M n).bind f) K := by
  unfold nA
  split
  · rename_i hn
    intro x h1 h2 hm
    obtain ⟨a1, a2, a4⟩ := kk (sLen M) (sNew 18 n.toNatClampNeg M) x h1 h2 hm
    rw [sNew_len] at a1
    rw [sNew_slots] at a2
    refine ⟨by omega, by omega, fun p e s m args below meth c0 H locs lsM hA b1 b2 hR hS hL => ?_⟩
    have hKw := hA.2.2.2.2.2.2.2.2.1
    refine W.anewA (own := y.cls) hA.1 hA.2.1 hA.2.2.2.2.1 (hA.2.2.2.2.2.1 _ hw) hKw.2.2.2.1 rfl hd rfl hn.1 (by omega) (by show _ ≤ sLen M' - sLen M0; omega) (by show _ ≤ sSlots M' - sSlots M0; omega) (fun cA kA comp g1 g2 g3 g4 => ?_)
    have hcA : cA = G.2.1 18 := Option.some.inj (g1.symm.trans (hKw.1.2 5 (G.2.1 18, .array .long) rfl).2)
    subst hcA
    have hsz : H.size = sad G (sLen M) := by rw [sad_lt (by have := hR.2.1; omega)]; exact hR.1
    generalize hH1 : H.push ({ cls := G.2.1 18, slots := Array.replicate n.toNatClampNeg .null, vm := .none } : Cell) = H1
    have z1 : H1.size = H.size + 1 := by rw [← hH1, Array.size_push]
    have o1 : ∀ q, q < H.size → H1[q]? = H[q]? := fun q hq => by rw [← hH1, Array.getElem?_push, if_neg (Nat.ne_of_lt hq)]
    have e1 : H1[H.size]? = some (arrV (G.2.1 18) n.toNatClampNeg (fun _ => .null)) := by rw [← hH1, Array.getElem?_push_size, ← arrV_new]
    have e0 : sws G (sNew 18 n.toNatClampNeg M) = sws G M ++ [(sad G (sLen M), .inl (G.2.1 18, n.toNatClampNeg, .inr (.inr (.inr (.inr (fun _ => none))))))] := by
      rw [sws_new, scell_arr G _ _ (by decide)]
      rw [sarr_newR (by decide)]
    have hP1 : va_P G.1 vwCl (sws G (sNew 18 n.toNatClampNeg M)) H1 := by
      rw [e0]
      refine va_P.app (hR.2.2.1.kept (fun k x hx => o1 x.1 ((hR.2.2.1 k x hx).lt))) (fun k x hx => ?_)
      have hz : k < 1 := (List.getElem?_eq_some_iff.mp hx).1
      rw [show k = 0 by omega] at hx
      cases hx
      show H1[sad G (sLen M)]? = some (vp_cell _ _)
      rw [← hsz, e1, vp_cell_q]; rfl
    have hS1 : va_S (sA G) s.heap H1 locs := ⟨Nat.le_trans hS.1 (by omega), fun x h1 h2 => (o1 x (Nat.lt_of_lt_of_le h1 hS.1)).trans (hS.2.1 x h1 h2), hS.2.2⟩
    rw [hsz]
    refine sW_sized (fun hz => ?_)
    have w := a4 p e s m args below meth c0 H1 locs lsM hA (by rw [sNew_len]; omega) (by rw [sNew_slots]; omega) (sRel_of hA.2.2.2.2.2.2.2.2.2.1 hA.2.2.2.2.2.2.2.2.2.2 (by rw [sNew_len]; omega) (by rw [sNew_len]; omega) (by rw [sNew_len, show sLen M + 1 - sLen M0 = sLen M - sLen M0 + 1 by omega]; exact hz) hP1 hS1) hS1 hL
    rw [sNew_len, sNew_slots, show sLen M + 1 - sLen M0 = sLen M - sLen M0 + 1 by omega, show sSlots M + n.toNatClampNeg - sSlots M0 = sSlots M - sSlots M0 + n.toNatClampNeg by omega] at w
    exact w
  · exact sX_none
end R5
