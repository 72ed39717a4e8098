/-! CALLS -/
def rvI (x : Int32) : Option Value := some (.int x)
def rvJ (x : Int64) : Option Value := some (.long x)
def rvR (x : Nat) : Option Value := some (.ref x)
def rvV (_ : Unit) : Option Value := none
/-- the receiver is what it must be -/
def sRc {γ : Type} (c n : Nat) (M : sMem) (o : Nat) (b : Option γ) : Option γ := if M.1[o]? = some (c, n) then b else none
def sMf (y : MethodName) (cb : ByteArray) (mL : Nat) (ret : Option FieldType) (n : Nat) : Prop := Cond.code y cb mL ret ∈ sTb ∧ Cond.initialized y.cls ∈ sTb ∧ (y.cls ≠ "java/lang/invoke/MethodHandle" ∧ y.cls ≠ "java/lang/invoke/VarHandle") ∧ (parseMethodDescriptor y.desc).map (fun d => d.parameters.length) = some n ∧ mL ≤ 81
def sMl (own : String) (i : Nat) (y : MethodName) : Prop := Cond.methodLink own i y ∈ sTb ∨ ∃ host : String, Cond.methodLinkNest own i y host ∈ lw_tbl
theorem sTb_good {w : Cond} (h : w ∈ sTb) : goodWord w = true := by
  have := (List.mem_filter.mp h).2
  exact this
theorem sTb_warm {args : Array Value} {s : State} (hts : ∀ w ∈ sTb, w.before args s = true) {w : Cond} (hw : w ∈ sTb) (a' : Array Value) (U : State) (hW : s.WarmedH U.vm) : w.before a' U = true := word_at hW (good_of_word (sTb_good hw)) (hts w hw)
section R6
variable {G : sG} {l : Launch} {d : Nat} {y : MethodName} {cc : ByteArray} {mL : Nat} {ret : Option FieldType} {M0 : sMem} {r : Option Value} {M' : sMem} {pc : Nat} {ls : List (Option Value)} {st st0 : List Value} {M : sMem} {γ : Type} {K : γ → Prop}
/-- behind a call -/
theorem s_call {p : Program} {e : Env} {R : Room} {s : State} {m : MethodId} {args a : Array Value} {below : List Frame} {meth : Method} {c : Code} {H : Heap} {locs : List Loc} {cells slots mc ms : Nat} {Q : State → Prop} {lsM : Array Slot} {stM rest : List Value} {r1 : Option Value} {M1 : sMem}
    (hA : sAt G y cc mL ret M0 p s m args meth c) (hl : sLen M0 ≤ sLen M1) (hS : va_S (sA G) s.heap H locs) (hr : va_Run p l e R s m args below meth c H locs cells slots mc ms (F0 m pc lsM stM) rest (sQ G r1 M1 a) (sA G))
    (kk : ∀ (H1 : Heap) (locs1 : List Loc), sRel G M1 H1 → va_S (sA G) s.heap H1 locs1 → W p l e R s m args below meth c H1 locs1 (cells + mc) (slots + ms) Q (F0 m (pc + 3) lsM ((r1.map (svm G)).toList ++ rest))) : W p l e R s m args below meth c H locs cells slots Q (F0 m pc lsM stM) := by
  intro T hT X
  obtain ⟨v, st₀, t, T', L, h0, X', hL, e1, e2, ⟨hv, hrel⟩, stp⟩ := hr T hT X
  cases hv
  rw [← e1] at hrel
  have hS1 : va_S (sA G) s.heap T'.heap (locs ++ L) := by
    refine ⟨by rw [hrel.1, hA.2.2.2.2.2.2.2.2.2.1]; omega, fun q h1 h2 => ?_, fun q hq => ?_⟩
    · have hqb : q < sB G := Nat.not_le.mp h2
      rw [hrel.2.2.2 q hqb, hA.2.2.2.2.2.2.2.2.2.2 q hqb]
    · rcases List.mem_append.mp hq with h | h
      · exact hS.2.2 q h
      · exact hL q h
  obtain ⟨t2, b1, b2⟩ := kk T'.heap (locs ++ L) hrel hS1 T' rfl X'
  exact ⟨t2, stp t2 b1, b2⟩
theorem sPc_blind {vs : List Value} : FrameBlind (sPc G vs M) := fun a U g mk q => ⟨q.1, q.2.1, sK.warm (s := U) (U := U.calling g mk a) (State.WarmedH.refl U) q.2.2⟩
theorem svm_toList (o : Option Value) : (o.map (svm G)).toList = o.toList.map (svm G) := by cases o <;> rfl
/-- a call, all kinds: 'run' is the machine's own part -/
theorem sX_call {yc : MethodName} {cb : ByteArray} {mLc dc : Nat} {retc : Option FieldType} {vs : List Value} {R : Type} {rv : R → Option Value} {k0 : Option (R × sMem)} {f : R × sMem → Option γ}
    (hC : sC G l dc yc cb mLc retc vs M rv k0) (hdc : dc + 1 ≤ d)
    (run : ∀ (x : R) (M1 : sMem), sM G l dc yc cb mLc retc vs M (rv x) M1 → ∀ {p : Program} {e : Env} {s : State} {m : MethodId} {args : Array Value} {below : List Frame} {meth : Method} {c : Code} {H : Heap} {locs : List Loc} {cells slots : Nat} {lsM : Array Slot}, sAt G y cc mL ret M0 p s m args meth c → sRel G M H → sLo G lsM mL ls → cells + (sLen M1 - sLen M) ≤ (sRoom d M0 M').cells → slots + (sSlots M1 - sSlots M) ≤ (sRoom d M0 M').slots → ∃ a, va_Run p l e (sRoom d M0 M') s m args below meth c H locs cells slots (sLen M1 - sLen M) (sSlots M1 - sSlots M) (F0 m pc lsM (st0.map (svm G))) (st.map (svm G)) (sQ G (rv x) M1 a) (sA G))
    (kk : ∀ (x : R) (M1 : sMem), k0 = some (x, M1) → sX G l d y cc mL ret M0 r M' (pc + 3) ls ((rv x).toList ++ st) M1 (f (x, M1)) K) : sX G l d y cc mL ret M0 r M' pc ls st0 M (k0.bind f) K := by
  intro z h1 h2 hm
  obtain ⟨⟨x, M1⟩, h3, h4⟩ := Option.bind_eq_some_iff.mp h1
  obtain ⟨a1, a2, a4⟩ := kk x M1 h3 z h4 h2 hm
  have hMM := hC x M1 h3 (by omega)
  have hMM2 := hMM
  obtain ⟨m1, m2, -⟩ := hMM
  refine ⟨by omega, by omega, fun p e s m args below meth c H locs lsM hA b1 b2 hR hS hL => ?_⟩
  obtain ⟨a, hr⟩ := run x M1 hMM2 (p := p) (e := e) (s := s) (m := m) (args := args) (below := below) (meth := meth) (c := c) (H := H) (locs := locs) (cells := sLen M - sLen M0) (slots := sSlots M - sSlots M0) (lsM := lsM) hA hR hL (by show _ ≤ sLen M' - sLen M0; omega) (by show _ ≤ sSlots M' - sSlots M0; omega)
  refine s_call hA (by omega) hS hr (fun H1 locs1 hR1 hS1 => ?_)
  have w := a4 p e s m args below meth c H1 locs1 lsM hA (by omega) (by omega) hR1 hS1 hL
  rw [List.map_append, ← svm_toList] at w
  rw [show sLen M - sLen M0 + (sLen M1 - sLen M) = sLen M1 - sLen M0 by omega, show sSlots M - sSlots M0 + (sSlots M1 - sSlots M) = sSlots M1 - sSlots M0 by omega]
  exact w
theorem s_callB {p : Program} {s : State} {m : MethodId} {args : Array Value} {meth : Method} {c : Code} {yc : MethodName} {cb : ByteArray} {mLc dc na : Nat} {retc : Option FieldType} {M1 : sMem} (hA : sAt G y cc mL ret M0 p s m args meth c) (hm : sMf yc cb mLc retc na) (hdc : dc + 1 ≤ d) : (sRoom dc M M1).frames + 1 ≤ (sRoom d M0 M').frames ∧ 8 + (mLc + 11) + (sRoom dc M M1).locals ≤ (sRoom d M0 M').locals ∧ (∀ w ∈ Cond.code yc cb mLc retc :: sTb, ∀ (a' : Array Value) (U : State), s.WarmedH U.vm → w.before a' U = true) ∧ (Cond.code yc cb mLc retc).before args s = true ∧ (Cond.initialized yc.cls).before args s = true ∧ (∀ sig, parseMethodDescriptor yc.desc = some sig → na = sig.parameters.length) := by
  obtain ⟨h1, h2, h3, h4, h5⟩ := hm
  refine ⟨hdc, by show 8 + (mLc + 11) + 100 * dc ≤ 100 * d; omega, fun w hw a' U hW => ?_, hA.2.2.2.2.2.1 _ h1, hA.2.2.2.2.2.1 _ h2, fun sig h => ?_⟩
  · rcases List.mem_cons.mp hw with rfl | hw
    · exact sTb_warm hA.2.2.2.2.2.1 h1 a' U hW
    · exact sTb_warm hA.2.2.2.2.2.1 hw a' U hW
  · rw [h] at h4
    exact (Option.some.inj h4).symm
theorem s_cats (h : (st.map fun v => v.category).sum ≤ 8) {m : MethodId} {lsM : Array Slot} {stM : List Value} : 2 * (F0 m pc lsM stM).monitorRoom + ((st.map (svm G)).map fun v => v.category).sum ≤ 8 := by
  rw [svm_cats]; exact lv_room h
theorem sX_callV {i c n o na : Nat} {yc : MethodName} {cb : ByteArray} {mLc dc : Nat} {retc : Option FieldType} {As : List Value} {R : Type} {rv : R → Option Value} {k0 : Option (R × sMem)} {f : R × sMem → Option γ}
    (hd : decode cc pc = .ok (.invokevirtual i, 3)) (hl : sMl y.cls i yc) (hm : sMf yc cb mLc retc na) (hi : Cond.instanceMethod yc ∈ sTb ∧ Cond.selects yc.cls yc yc ∈ sTb) (hcl : ∃ T : u_T, c < 13 ∧ vwCl[c]? = some (yc.cls, T, n)) (hC : sC G l dc yc cb mLc retc (.ref o :: As) M rv k0) (hg : ∀ z, k0 = some z → M.1[o]? = some (c, n)) (hdc : dc + 1 ≤ d) (hna : As.length = na) (hst0 : As.reverse ++ .ref o :: st = st0) (hcat : (st.map fun v => v.category).sum ≤ 8)
    (kk : ∀ (x : R) (M1 : sMem), k0 = some (x, M1) → sX G l d y cc mL ret M0 r M' (pc + 3) ls ((rv x).toList ++ st) M1 (f (x, M1)) K) : sX G l d y cc mL ret M0 r M' pc ls st0 M (k0.bind f) K := by
  obtain ⟨T, hc13, hcl⟩ := hcl
  by_cases hsh : M.1[o]? = some (c, n)
  · refine sX_call hC hdc (fun x M1 hMM => ?_) kk
    intro p e s m args below meth c0 H locs cells slots lsM hA hR hL hr1 hr2
    refine ⟨(Value.ref (sad G o) :: As.map (svm G)).toArray, ?_⟩
    subst hst0
    have hcell := sws_get (G := G) hsh
    rw [scell_obj G M o hc13] at hcell
    obtain ⟨g1, g2, g3, g4, g5, g6⟩ := s_callB (d := d) (M0 := M0) (M' := M') (M := M) (M1 := M1) (dc := dc) hA hm hdc
    have hPre : PreV s H yc.cls (sad G o) (sPc G (.ref o :: As) M) (As.map (svm G)) := ⟨sPc_blind, va_recv hA.2.2.2.2.2.2.2.2.1.1 hR.2.2.1 hcl hcell, fun U hU hW => ⟨rfl, by rw [hU]; exact hR, hA.2.2.2.2.2.2.2.2.1.warm hW⟩⟩
    have hstk : (As.reverse ++ .ref o :: st).map (svm G) = (As.map (svm G)).reverse ++ .ref (sad G o) :: st.map (svm G) := by simp [svm_ref]
    rcases hl with hl | ⟨host, hl⟩
    · exact va_runV (C := yc.cls) (Ts := sTb) ⟨hA.1, hA.2.1, hA.2.2.2.1, hA.2.2.2.2.1, hA.2.2.2.2.2.1⟩ hMM.2.2 ⟨⟨rfl, rfl, g1, g2, g3, List.mem_cons_self, g4, g5, hm.2.2.1, g6, hA.2.2.2.2.2.1 _ hl⟩, hA.2.2.2.2.2.1 _ hi.1, hA.2.2.2.2.2.1 _ hi.2⟩ hPre rfl (by simpa using hna) hL.1 hstk (s_cats hcat) hd ⟨hr1, hr2⟩
    · exact va_runVN (C := yc.cls) (Ts := sTb) ⟨hA.1, hA.2.1, hA.2.2.2.1, hA.2.2.2.2.1, hA.2.2.2.2.2.1⟩ hMM.2.2 ⟨⟨⟨rfl, rfl, g1, g2, g3, List.mem_cons_self⟩, g4, g5, hm.2.2.1, g6, va_Nw.use rfl (hA.2.2.2.2.2.2.2.2.1.2.1 _ hl rfl)⟩, hA.2.2.2.2.2.1 _ hi.1, hA.2.2.2.2.2.1 _ hi.2⟩ hPre rfl (by simpa using hna) hL.1 hstk (s_cats hcat) hd ⟨hr1, hr2⟩
  · cases hk : k0 with
    | none => exact sX_none
    | some z => exact absurd (hg z hk) hsh
theorem sX_callI {i o na : Nat} {yc : MethodName} {cb : ByteArray} {mLc dc : Nat} {As : List Value} {R : Type} {rv : R → Option Value} {k0 : Option (R × sMem)} {f : R × sMem → Option γ}
    (hd : decode cc pc = .ok (.invokespecial i, 3)) (hl : sMl y.cls i yc) (hm : sMf yc cb mLc none na) (hi : yc.name = "<init>" ∧ Cond.instanceMethod yc ∈ sTb) (hC : sC G l dc yc cb mLc none (.ref o :: As) M rv k0) (hdc : dc + 1 ≤ d) (hna : As.length = na) (hst0 : As.reverse ++ .ref o :: st = st0) (hcat : (st.map fun v => v.category).sum ≤ 8)
    (kk : ∀ (x : R) (M1 : sMem), k0 = some (x, M1) → sX G l d y cc mL ret M0 r M' (pc + 3) ls ((rv x).toList ++ st) M1 (f (x, M1)) K) : sX G l d y cc mL ret M0 r M' pc ls st0 M (k0.bind f) K := by
  refine sX_call hC hdc (fun x M1 hMM => ?_) kk
  intro p e s m args below meth c0 H locs cells slots lsM hA hR hL hr1 hr2
  refine ⟨(Value.ref (sad G o) :: As.map (svm G)).toArray, ?_⟩
  subst hst0
  obtain ⟨g1, g2, g3, g4, g5, g6⟩ := s_callB (d := d) (M0 := M0) (M' := M') (M := M) (M1 := M1) (dc := dc) hA hm hdc
  have hPre : PreS s H (sPc G (.ref o :: As) M) (.ref (sad G o) :: As.map (svm G)) := ⟨sPc_blind, fun U hU hW => ⟨rfl, by rw [hU]; exact hR, hA.2.2.2.2.2.2.2.2.1.warm hW⟩⟩
  have hstk : (As.reverse ++ .ref o :: st).map (svm G) = (As.map (svm G)).reverse ++ .ref (sad G o) :: st.map (svm G) := by simp [svm_ref]
  rcases hl with hl | ⟨host, hl⟩
  · exact va_runI (Ts := sTb) ⟨hA.1, hA.2.1, hA.2.2.2.1, hA.2.2.2.2.1, hA.2.2.2.2.2.1⟩ hMM.2.2 ⟨⟨rfl, rfl, g1, g2, g3, List.mem_cons_self, g4, g5, hm.2.2.1, g6, hA.2.2.2.2.2.1 _ hl⟩, hi.1, hA.2.2.2.2.2.1 _ hi.2⟩ hPre rfl (by simpa using hna) hL.1 hstk (s_cats hcat) hd ⟨hr1, hr2⟩
  · exact va_runIN (Ts := sTb) ⟨hA.1, hA.2.1, hA.2.2.2.1, hA.2.2.2.2.1, hA.2.2.2.2.2.1⟩ hMM.2.2 ⟨⟨⟨rfl, rfl, g1, g2, g3, List.mem_cons_self⟩, g4, g5, hm.2.2.1, g6, va_Nw.use rfl (hA.2.2.2.2.2.2.2.2.1.2.1 _ hl rfl)⟩, hi.1, hA.2.2.2.2.2.1 _ hi.2⟩ hPre rfl (by simpa using hna) hL.1 hstk (s_cats hcat) hd ⟨hr1, hr2⟩
theorem sX_callS {i na : Nat} {yc : MethodName} {cb : ByteArray} {mLc dc : Nat} {retc : Option FieldType} {As : List Value} {R : Type} {rv : R → Option Value} {k0 : Option (R × sMem)} {f : R × sMem → Option γ}
    (hd : decode cc pc = .ok (.invokestatic i, 3)) (hl : sMl y.cls i yc) (hm : sMf yc cb mLc retc na) (hi : Cond.static yc ∈ sTb) (hC : sC G l dc yc cb mLc retc As M rv k0) (hdc : dc + 1 ≤ d) (hna : As.length = na) (hst0 : As.reverse ++ st = st0) (hcat : (st.map fun v => v.category).sum ≤ 8)
    (kk : ∀ (x : R) (M1 : sMem), k0 = some (x, M1) → sX G l d y cc mL ret M0 r M' (pc + 3) ls ((rv x).toList ++ st) M1 (f (x, M1)) K) : sX G l d y cc mL ret M0 r M' pc ls st0 M (k0.bind f) K := by
  refine sX_call hC hdc (fun x M1 hMM => ?_) kk
  intro p e s m args below meth c0 H locs cells slots lsM hA hR hL hr1 hr2
  refine ⟨(As.map (svm G)).toArray, ?_⟩
  subst hst0
  obtain ⟨g1, g2, g3, g4, g5, g6⟩ := s_callB (d := d) (M0 := M0) (M' := M') (M := M) (M1 := M1) (dc := dc) hA hm hdc
  have hPre : PreS s H (sPc G As M) (As.map (svm G)) := ⟨sPc_blind, fun U hU hW => ⟨rfl, by rw [hU]; exact hR, hA.2.2.2.2.2.2.2.2.1.warm hW⟩⟩
  have hstk : (As.reverse ++ st).map (svm G) = (As.map (svm G)).reverse ++ st.map (svm G) := by simp
  rcases hl with hl | ⟨host, hl⟩
  · exact va_runS (Ts := sTb) ⟨hA.1, hA.2.1, hA.2.2.2.1, hA.2.2.2.2.1, hA.2.2.2.2.2.1⟩ hMM.2.2 ⟨⟨rfl, rfl, g1, g2, g3, List.mem_cons_self, g4, g5, hm.2.2.1, g6, hA.2.2.2.2.2.1 _ hl⟩, hA.2.2.2.2.2.1 _ hi⟩ hPre rfl (by simpa using hna) hL.1 hstk (s_cats hcat) hd ⟨hr1, hr2⟩
  · exact va_runSN (Ts := sTb) ⟨hA.1, hA.2.1, hA.2.2.2.1, hA.2.2.2.2.1, hA.2.2.2.2.2.1⟩ hMM.2.2 ⟨⟨⟨rfl, rfl, g1, g2, g3, List.mem_cons_self⟩, g4, g5, hm.2.2.1, g6, va_Nw.use rfl (hA.2.2.2.2.2.2.2.2.1.2.1 _ hl rfl)⟩, hA.2.2.2.2.2.1 _ hi, trivial⟩ hPre rfl (by simpa using hna) hL.1 hstk (s_cats hcat) hd ⟨hr1, hr2⟩
theorem sX_objI {i a : Nat} {k : Option γ} (hd : decode cc pc = .ok (.invokespecial i, 3)) (hl : Cond.methodLink y.cls i Lib.objectInit ∈ sTb) (hi : Cond.instanceMethod Lib.objectInit ∈ sTb ∧ Cond.code Lib.objectInit ⟨#[0xb1]⟩ 1 none ∈ sTb) (hd0 : 1 ≤ d) (hcat : (st.map fun v => v.category).sum ≤ 8) (kk : sX G l d y cc mL ret M0 r M' (pc + 3) ls st M k K) : sX G l d y cc mL ret M0 r M' pc ls (.ref a :: st) M k K := by
  refine sX_step (M1 := M) (dc := 0) (ds := 0) rfl rfl (fun hA hL hR hD hS _ _ hf hlo w => ?_) hd0 kk
  refine W.objInit (own := y.cls) hA.1 hA.2.1 hA.2.2.2.2.1 (hA.2.2.2.2.2.1 _ hl) (hA.2.2.2.2.2.1 _ hi.1) (hA.2.2.2.2.2.1 _ hi.2) rfl (hL.1.trans hA.2.2.2.1.symm) rfl hd hf ?_ (w _ _ hR.2.2.1 hS)
  have := s_cats (G := G) (pc := pc) hcat (m := default) (lsM := default) (stM := [])
  show 2 * 0 + ((st.map (svm G)).map fun v => v.category).sum + 12 ≤ _
  rw [svm_cats]
  omega
theorem sX_copy {i a0 a1 : Nat} {sp dp n : Int32} {f : sMem → Option γ} (hd : decode cc pc = .ok (.invokestatic i, 3)) (hl : Cond.methodLink y.cls i arraycopyName ∈ sTb) (hi : Cond.native arraycopyName ∈ sTb ∧ Cond.static arraycopyName ∈ sTb ∧ Cond.initialized "java/lang/System" ∈ sTb) (hd0 : 1 ≤ d) (hcat : (st.map fun v => v.category).sum ≤ 8)
    (kk : ∀ M1, sX G l d y cc mL ret M0 r M' (pc + 3) ls st M1 (f M1) K) : sX G l d y cc mL ret M0 r M' pc ls (.int n :: .int dp :: .ref a1 :: .int sp :: .ref a0 :: st) M ((cpI M a0 sp a1 dp n).bind f) K := by
  unfold cpI
  cases hn0 : sAr 14 M a0 with
  | none => exact sX_none
  | some n0 =>
    cases hn1 : sAr 14 M a1 with
    | none => exact sX_none
    | some n1 =>
      show sX G l d y cc mL ret M0 r M' pc ls _ M (Option.bind (ite _ _ _) f) K
      split
      · rename_i hi0
        obtain ⟨q1, q2, q3, q4, q5⟩ := hi0
        refine sX_step (M1 := (M.1, up1 M.2.1 a1 (va_cpy (M.2.1 a0) (M.2.1 a1) sp.toNatClampNeg dp.toNatClampNeg n.toNatClampNeg), M.2.2.1, M.2.2.2)) (dc := 0) (ds := 0) rfl rfl (fun hA hL hR hD hS _ _ hf hlo w => ?_) hd0 (kk _)
        rw [sws_arr (M1 := (M.1, up1 M.2.1 a1 (va_cpy (M.2.1 a0) (M.2.1 a1) sp.toNatClampNeg dp.toNatClampNeg n.toNatClampNeg), M.2.2.1, M.2.2.2)) hn1 (by decide) rfl (fun b q h => scell_eq (M1 := (M.1, up1 M.2.1 a1 (va_cpy (M.2.1 a0) (M.2.1 a1) sp.toNatClampNeg dp.toNatClampNeg n.toNatClampNeg), M.2.2.1, M.2.2.2)) (M := M) (up1_ne h) rfl rfl q) (x := .inl (va_cpy (M.2.1 a0) (M.2.1 a1) sp.toNatClampNeg dp.toNatClampNeg n.toNatClampNeg)) (congrArg Sum.inl (up1_same _ _ _))] at w
        refine va_copyi (own := y.cls) hA.1 hA.2.1 (hA.2.2.2.1.trans hL.1.symm) hA.2.2.2.2.1 (hA.2.2.2.2.2.1 _ hl) (hA.2.2.2.2.2.1 _ hi.1) (hA.2.2.2.2.2.1 _ hi.2.1) (hA.2.2.2.2.2.1 _ hi.2.2) hA.2.2.2.2.2.2.2.2.1.1 hR.2.2.1 hD hS a0 a1 1 1 (sAr_cell hn0 (by decide)) (sAr_cell hn1 (by decide)) rfl rfl rfl q1 q2 q3 q4 q5 (fun _ _ => rfl) hf ?_ hd (fun H1 locs1 hP1 _ hS1 => w H1 locs1 hP1 hS1)
        have e : nativeFrameWords "java/lang/System" "arraycopy" 5 + 11 ≤ 92 := by decide
        rw [svm_cats]
        omega
      · exact sX_none

/-- the forms of a method's computation: that only reads; that answers nothing -/
def sCp (G : sG) (l : Launch) (d : Nat) (y : MethodName) (cc : ByteArray) (mL : Nat) (ret : Option FieldType) (vs : List Value) (M : sMem) {R : Type} (rv : R → Option Value) (k : Option R) : Prop := sC G l d y cc mL ret vs M rv (k.map fun x => (x, M))
def sCv (G : sG) (l : Launch) (d : Nat) (y : MethodName) (cc : ByteArray) (mL : Nat) (ret : Option FieldType) (vs : List Value) (M : sMem) (k : Option sMem) : Prop := sC G l d y cc mL ret vs M rvV (k.map fun M1 => ((), M1))
theorem map_rcp {R : Type} {c n o : Nat} {b : Option R} {f : R → R × sMem} : (sRc c n M o b).map f = sRc c n M o (b.map f) := by unfold sRc; split <;> rfl
theorem map_rcv {c n o : Nat} {b : Option sMem} {f : sMem → Unit × sMem} : (sRc c n M o b).map f = sRc c n M o (b.map f) := by unfold sRc; split <;> rfl
theorem bind_p {R : Type} {k : Option R} {f : R → Option γ} : k.bind f = (k.map fun x => (x, M)).bind (fun q => f q.1) := by cases k <;> rfl
theorem bind_v {k : Option sMem} {f : sMem → Option γ} : k.bind f = (k.map fun M1 => ((), M1)).bind (fun q => f q.2) := by cases k <;> rfl
theorem sX_callVp {i c n o na : Nat} {yc : MethodName} {cb : ByteArray} {mLc dc : Nat} {retc : Option FieldType} {As : List Value} {R : Type} {rv : R → Option Value} {k0 : Option R} {f : R → Option γ} (hd : decode cc pc = .ok (.invokevirtual i, 3)) (hl : sMl y.cls i yc) (hm : sMf yc cb mLc retc na) (hi : Cond.instanceMethod yc ∈ sTb ∧ Cond.selects yc.cls yc yc ∈ sTb) (hcl : ∃ T : u_T, c < 13 ∧ vwCl[c]? = some (yc.cls, T, n)) (hC : sCp G l dc yc cb mLc retc (.ref o :: As) M rv k0) (hg : ∀ z, k0 = some z → M.1[o]? = some (c, n)) (hdc : dc + 1 ≤ d) (hna : As.length = na) (hst0 : As.reverse ++ .ref o :: st = st0) (hcat : (st.map fun v => v.category).sum ≤ 8) (kk : ∀ x : R, sX G l d y cc mL ret M0 r M' (pc + 3) ls ((rv x).toList ++ st) M (f x) K) : sX G l d y cc mL ret M0 r M' pc ls st0 M (k0.bind f) K := by
  rw [bind_p (M := M) (k := k0)]
  exact sX_callV hd hl hm hi hcl hC (fun z h => by obtain ⟨w, h1, _⟩ := Option.map_eq_some_iff.mp h; exact hg w h1) hdc hna hst0 hcat (fun x M1 h => by obtain ⟨z, _, h2⟩ := Option.map_eq_some_iff.mp h; cases h2; exact kk _)
theorem sX_callVv {i c n o na : Nat} {yc : MethodName} {cb : ByteArray} {mLc dc : Nat} {retc : Option FieldType} {As : List Value} {k0 : Option sMem} {f : sMem → Option γ} (hd : decode cc pc = .ok (.invokevirtual i, 3)) (hl : sMl y.cls i yc) (hm : sMf yc cb mLc retc na) (hi : Cond.instanceMethod yc ∈ sTb ∧ Cond.selects yc.cls yc yc ∈ sTb) (hcl : ∃ T : u_T, c < 13 ∧ vwCl[c]? = some (yc.cls, T, n)) (hC : sCv G l dc yc cb mLc retc (.ref o :: As) M k0) (hg : ∀ z, k0 = some z → M.1[o]? = some (c, n)) (hdc : dc + 1 ≤ d) (hna : As.length = na) (hst0 : As.reverse ++ .ref o :: st = st0) (hcat : (st.map fun v => v.category).sum ≤ 8) (kk : ∀ M1, sX G l d y cc mL ret M0 r M' (pc + 3) ls st M1 (f M1) K) : sX G l d y cc mL ret M0 r M' pc ls st0 M (k0.bind f) K := by
  rw [bind_v (k := k0)]
  exact sX_callV hd hl hm hi hcl hC (fun z h => by obtain ⟨w, h1, _⟩ := Option.map_eq_some_iff.mp h; exact hg w h1) hdc hna hst0 hcat (fun x M1 _ => kk M1)
theorem sX_callIp {i o na : Nat} {yc : MethodName} {cb : ByteArray} {mLc dc : Nat} {As : List Value} {R : Type} {rv : R → Option Value} {k0 : Option R} {f : R → Option γ} (hd : decode cc pc = .ok (.invokespecial i, 3)) (hl : sMl y.cls i yc) (hm : sMf yc cb mLc none na) (hi : yc.name = "<init>" ∧ Cond.instanceMethod yc ∈ sTb) (hC : sCp G l dc yc cb mLc none (.ref o :: As) M rv k0) (hdc : dc + 1 ≤ d) (hna : As.length = na) (hst0 : As.reverse ++ .ref o :: st = st0) (hcat : (st.map fun v => v.category).sum ≤ 8) (kk : ∀ x : R, sX G l d y cc mL ret M0 r M' (pc + 3) ls ((rv x).toList ++ st) M (f x) K) : sX G l d y cc mL ret M0 r M' pc ls st0 M (k0.bind f) K := by
  rw [bind_p (M := M) (k := k0)]
  exact sX_callI hd hl hm hi hC hdc hna hst0 hcat (fun x M1 h => by obtain ⟨z, _, h2⟩ := Option.map_eq_some_iff.mp h; cases h2; exact kk _)
theorem sX_callIv {i o na : Nat} {yc : MethodName} {cb : ByteArray} {mLc dc : Nat} {As : List Value} {k0 : Option sMem} {f : sMem → Option γ} (hd : decode cc pc = .ok (.invokespecial i, 3)) (hl : sMl y.cls i yc) (hm : sMf yc cb mLc none na) (hi : yc.name = "<init>" ∧ Cond.instanceMethod yc ∈ sTb) (hC : sCv G l dc yc cb mLc none (.ref o :: As) M k0) (hdc : dc + 1 ≤ d) (hna : As.length = na) (hst0 : As.reverse ++ .ref o :: st = st0) (hcat : (st.map fun v => v.category).sum ≤ 8) (kk : ∀ M1, sX G l d y cc mL ret M0 r M' (pc + 3) ls st M1 (f M1) K) : sX G l d y cc mL ret M0 r M' pc ls st0 M (k0.bind f) K := by
  rw [bind_v (k := k0)]
  exact sX_callI hd hl hm hi hC hdc hna hst0 hcat (fun x M1 _ => kk M1)
theorem sX_callSp {i na : Nat} {yc : MethodName} {cb : ByteArray} {mLc dc : Nat} {retc : Option FieldType} {As : List Value} {R : Type} {rv : R → Option Value} {k0 : Option R} {f : R → Option γ} (hd : decode cc pc = .ok (.invokestatic i, 3)) (hl : sMl y.cls i yc) (hm : sMf yc cb mLc retc na) (hi : Cond.static yc ∈ sTb) (hC : sCp G l dc yc cb mLc retc As M rv k0) (hdc : dc + 1 ≤ d) (hna : As.length = na) (hst0 : As.reverse ++ st = st0) (hcat : (st.map fun v => v.category).sum ≤ 8) (kk : ∀ x : R, sX G l d y cc mL ret M0 r M' (pc + 3) ls ((rv x).toList ++ st) M (f x) K) : sX G l d y cc mL ret M0 r M' pc ls st0 M (k0.bind f) K := by
  rw [bind_p (M := M) (k := k0)]
  exact sX_callS hd hl hm hi hC hdc hna hst0 hcat (fun x M1 h => by obtain ⟨z, _, h2⟩ := Option.map_eq_some_iff.mp h; cases h2; exact kk _)
theorem sX_callSv {i na : Nat} {yc : MethodName} {cb : ByteArray} {mLc dc : Nat} {retc : Option FieldType} {As : List Value} {k0 : Option sMem} {f : sMem → Option γ} (hd : decode cc pc = .ok (.invokestatic i, 3)) (hl : sMl y.cls i yc) (hm : sMf yc cb mLc retc na) (hi : Cond.static yc ∈ sTb) (hC : sCv G l dc yc cb mLc retc As M k0) (hdc : dc + 1 ≤ d) (hna : As.length = na) (hst0 : As.reverse ++ st = st0) (hcat : (st.map fun v => v.category).sum ≤ 8) (kk : ∀ M1, sX G l d y cc mL ret M0 r M' (pc + 3) ls st M1 (f M1) K) : sX G l d y cc mL ret M0 r M' pc ls st0 M (k0.bind f) K := by
  rw [bind_v (k := k0)]
  exact sX_callS hd hl hm hi hC hdc hna hst0 hcat (fun x M1 _ => kk M1)
end R6
