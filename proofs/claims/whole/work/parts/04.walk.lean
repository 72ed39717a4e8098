/-! THE JUDGEMENTS of the pure machine -/
def sRoom (d : Nat) (M0 M' : sMem) : Room := { frames := d, cells := sLen M' - sLen M0, slots := sSlots M' - sSlots M0, locals := 100 * d }
def sQ (G : sG) (r : Option Value) (M' : sMem) : Array Value → State → Outcome → State → Prop := fun _ _ o t => o = .returned (r.map (svm G)) ∧ sRel G M' t.heap
def sPc (G : sG) (vs : List Value) (M : sMem) : Array Value → State → Prop := fun a U => a = (vs.map (svm G)).toArray ∧ sRel G M U.heap ∧ sK G U
/-- a method's contract: called with vs over the memory M, in d frames, it answers r and leaves M' -/
def sM (G : sG) (l : Launch) (d : Nat) (y : MethodName) (cc : ByteArray) (mL : Nat) (ret : Option FieldType) (vs : List Value) (M : sMem) (r : Option Value) (M' : sMem) : Prop :=
  sLen M ≤ sLen M' ∧ sSlots M ≤ sSlots M' ∧ Met l y (Cond.code y cc mL ret :: sTb) (sRoom d M M') (sPc G vs M) (sQ G r M') (sLen M' - sLen M) (sSlots M' - sSlots M) (sA G)
/-- what a method's body knows all the time -/
def sAt (G : sG) (y : MethodName) (cc : ByteArray) (mL : Nat) (ret : Option FieldType) (M0 : sMem) (p : Program) (s : State) (m : MethodId) (args : Array Value) (meth : Method) (c : Code) : Prop :=
  p.tables.exec = Jvm.exec ∧ c.code = cc ∧ meth.sig.returnType = ret ∧ c.maxLocals = mL ∧ s.vm.findClass y.cls = some m.cls ∧ (∀ w ∈ sTb, w.before args s = true) ∧ meth.locks = false ∧ (y.name = "<init>" → meth.name = "<init>") ∧ sK G s ∧ s.heap.size = sB G + sLen M0 ∧ ∀ q : Nat, q < sB G → s.heap[q]? = G.2.2.1[q]?
/-- from here on the method comes to its end, with the answer r and the memory M' -/
def sW (G : sG) (l : Launch) (d : Nat) (y : MethodName) (cc : ByteArray) (mL : Nat) (ret : Option FieldType) (M0 : sMem) (r : Option Value) (M' : sMem) (pc : Nat) (ls : List (Option Value)) (st : List Value) (M : sMem) : Prop :=
  sLen M ≤ sLen M' ∧ sSlots M ≤ sSlots M' ∧ ∀ (p : Program) (e : Env) (s : State) (m : MethodId) (args : Array Value) (below : List Frame) (meth : Method) (c : Code) (H : Heap) (locs : List Loc) (lsM : Array Slot),
    sAt G y cc mL ret M0 p s m args meth c → sLen M0 ≤ sLen M → sSlots M0 ≤ sSlots M → sRel G M H → va_S (sA G) s.heap H locs → sLo G lsM mL ls →
      W p l e (sRoom d M0 M') s m args below meth c H locs (sLen M - sLen M0) (sSlots M - sSlots M0) (MQ below (sQ G r M') args s (sLen M' - sLen M0) (sSlots M' - sSlots M0) (sA G)) (F0 m pc lsM (st.map (svm G)))
/-- the walk mirrors a computation c, whose value K takes -/
def sX (G : sG) (l : Launch) (d : Nat) (y : MethodName) (cc : ByteArray) (mL : Nat) (ret : Option FieldType) (M0 : sMem) (r : Option Value) (M' : sMem) (pc : Nat) (ls : List (Option Value)) (st : List Value) (M : sMem) {γ : Type} (k : Option γ) (K : γ → Prop) : Prop :=
  ∀ x, k = some x → K x → sLen M' ≤ 1000000 → sW G l d y cc mL ret M0 r M' pc ls st M
/-- a method's computation: what it answers is what the method does -/
def sC (G : sG) (l : Launch) (d : Nat) (y : MethodName) (cc : ByteArray) (mL : Nat) (ret : Option FieldType) (vs : List Value) (M : sMem) {R : Type} (rv : R → Option Value) (k : Option (R × sMem)) : Prop :=
  ∀ (x : R) (M' : sMem), k = some (x, M') → sLen M' ≤ 1000000 → sM G l d y cc mL ret vs M (rv x) M'
section SX
variable {G : sG} {l : Launch} {d : Nat} {y : MethodName} {cc : ByteArray} {mL : Nat} {ret : Option FieldType} {M0 : sMem} {r : Option Value} {M' : sMem} {pc pc2 : Nat} {ls ls2 : List (Option Value)} {st st2 : List Value} {M : sMem} {γ δ : Type} {k : Option γ} {K : γ → Prop}
theorem sW.le (h : sW G l d y cc mL ret M0 r M' pc ls2 st M) (hl : sLe ls2 ls) : sW G l d y cc mL ret M0 r M' pc ls st M :=
  ⟨h.1, h.2.1, fun p e s m args below meth c H locs lsM hA h1 h2 hR hS hL => h.2.2 p e s m args below meth c H locs lsM hA h1 h2 hR hS (hL.le hl)⟩
theorem sX.le (h : sX G l d y cc mL ret M0 r M' pc ls2 st M k K) (hl : sLe ls2 ls) : sX G l d y cc mL ret M0 r M' pc ls st M k K := fun x h1 h2 h3 => (h x h1 h2 h3).le hl
/-- an instruction that leaves the memory -/
theorem sX_pure (h : ∀ {p : Program} {e : Env} {R : Room} {s : State} {m : MethodId} {args : Array Value} {below : List Frame} {meth : Method} {c : Code} {H : Heap} {locs : List Loc} {cells slots : Nat} {Q : State → Prop} {lsM : Array Slot}, sAt G y cc mL ret M0 p s m args meth c → sLo G lsM mL ls → (∀ lsM2 : Array Slot, sLo G lsM2 mL ls2 → W p l e R s m args below meth c H locs cells slots Q (F0 m pc2 lsM2 (st2.map (svm G)))) → W p l e R s m args below meth c H locs cells slots Q (F0 m pc lsM (st.map (svm G))))
    (kk : sX G l d y cc mL ret M0 r M' pc2 ls2 st2 M k K) : sX G l d y cc mL ret M0 r M' pc ls st M k K := by
  intro x h1 h2 h3
  obtain ⟨a1, a2, a4⟩ := kk x h1 h2 h3
  exact ⟨a1, a2, fun p e s m args below meth c H locs lsM hA b1 b2 hR hS hL => h hA hL (fun lsM2 hL2 => a4 p e s m args below meth c H locs lsM2 hA b1 b2 hR hS hL2)⟩
/-- the same with the locals as they are -/
theorem sX_pure1 (h : ∀ {p : Program} {e : Env} {R : Room} {s : State} {m : MethodId} {args : Array Value} {below : List Frame} {meth : Method} {c : Code} {H : Heap} {locs : List Loc} {cells slots : Nat} {Q : State → Prop} {lsM : Array Slot}, p.tables.exec = Jvm.exec → c.code = cc → sLo G lsM mL ls → W p l e R s m args below meth c H locs cells slots Q (F0 m pc2 lsM (st2.map (svm G))) → W p l e R s m args below meth c H locs cells slots Q (F0 m pc lsM (st.map (svm G))))
    (kk : sX G l d y cc mL ret M0 r M' pc2 ls st2 M k K) : sX G l d y cc mL ret M0 r M' pc ls st M k K :=
  sX_pure (fun hA hL kk => h hA.1 hA.2.1 hL (kk _ hL)) kk
/-- what the heap's size is -/
theorem sW_sized {p : Program} {e : Env} {R : Room} {s : State} {m : MethodId} {args : Array Value} {below : List Frame} {meth : Method} {c : Code} {H : Heap} {locs : List Loc} {cells slots : Nat} {Q : State → Prop} {g : JFrame} (h : H.size ≤ s.heap.size + cells → W p l e R s m args below meth c H locs cells slots Q g) : W p l e R s m args below meth c H locs cells slots Q g :=
  fun T hT X => h (by rw [← hT]; exact X.heapSize) T hT X
theorem sRel_of {s : State} {H1 : Heap} {locs1 : List Loc} {M1 : sMem} (h0 : s.heap.size = sB G + sLen M0) (hq : ∀ q : Nat, q < sB G → s.heap[q]? = G.2.2.1[q]?) (hm : sLen M1 ≤ 1000000) (hl : sLen M0 ≤ sLen M1) (hz : H1.size ≤ s.heap.size + (sLen M1 - sLen M0)) (hP : va_P G.1 vwCl (sws G M1) H1) (hS : va_S (sA G) s.heap H1 locs1) : sRel G M1 H1 := by
  refine ⟨?_, hm, hP, fun q hq1 => ?_⟩
  · have lo : sB G + sLen M1 ≤ H1.size := by
      rcases Nat.eq_zero_or_pos (sLen M1) with hz0 | hp
      · have := hS.1; omega
      · have hlt : sLen M1 - 1 < M1.1.length := by unfold sLen at *; omega
        have hg := sws_get (G := G) (M := M1) (a := sLen M1 - 1) (List.getElem?_eq_getElem hlt)
        have := (hP _ _ hg).lt
        rw [sad_lt (by omega)] at this
        omega
    omega
  · rw [hS.2.1 q (by omega) (by show ¬ sB G ≤ q; omega)]
    exact hq q hq1
/-- an instruction that changes the memory -/
theorem sX_step {M1 : sMem} {dc ds : Nat} (hL1 : sLen M1 = sLen M + dc) (hS1 : sSlots M1 = sSlots M + ds)
    (h : ∀ {p : Program} {e : Env} {R : Room} {s : State} {m : MethodId} {args : Array Value} {below : List Frame} {meth : Method} {c : Code} {H : Heap} {locs : List Loc} {cells slots : Nat} {Q : State → Prop} {lsM : Array Slot}, sAt G y cc mL ret M0 p s m args meth c → sLo G lsM mL ls → sRel G M H → va_D (sA G) (sws G M) → va_S (sA G) s.heap H locs → cells + dc ≤ R.cells → slots + ds ≤ R.slots → 1 ≤ R.frames → 100 ≤ R.locals → (∀ (H1 : Heap) (locs1 : List Loc), va_P G.1 vwCl (sws G M1) H1 → va_S (sA G) s.heap H1 locs1 → W p l e R s m args below meth c H1 locs1 (cells + dc) (slots + ds) Q (F0 m pc2 lsM (st2.map (svm G)))) → W p l e R s m args below meth c H locs cells slots Q (F0 m pc lsM (st.map (svm G))))
    (hd0 : 1 ≤ d) (kk : sX G l d y cc mL ret M0 r M' pc2 ls st2 M1 k K) : sX G l d y cc mL ret M0 r M' pc ls st M k K := by
  intro x h1 h2 hm
  obtain ⟨a1, a2, a4⟩ := kk x h1 h2 hm
  refine ⟨by omega, by omega, fun p e s m args below meth c H locs lsM hA b1 b2 hR hS hL => ?_⟩
  refine h hA hL hR (sD hR.2.1) hS ?_ ?_ hd0 (by show 100 ≤ 100 * d; omega) (fun H1 locs1 hP1 hS2 => ?_)
  · show _ ≤ sLen M' - sLen M0; omega
  · show _ ≤ sSlots M' - sSlots M0; omega
  · refine sW_sized (fun hz => ?_)
    rw [show sLen M - sLen M0 + dc = sLen M1 - sLen M0 by omega] at hz ⊢
    rw [show sSlots M - sSlots M0 + ds = sSlots M1 - sSlots M0 by omega]
    exact a4 p e s m args below meth c H1 locs1 lsM hA (by omega) (by omega) (sRel_of hA.2.2.2.2.2.2.2.2.2.1 hA.2.2.2.2.2.2.2.2.2.2 (by omega) (by omega) hz hP1 hS2) hS2 hL
theorem sX_bind {a : Option δ} {f : δ → Option γ} (h : sX G l d y cc mL ret M0 r M' pc ls st M a (fun z => ∃ x, f z = some x ∧ K x)) : sX G l d y cc mL ret M0 r M' pc ls st M (a.bind f) K := by
  intro x h1 h2 hm
  obtain ⟨z, h3, h4⟩ := Option.bind_eq_some_iff.mp h1
  exact h z h3 ⟨x, h4, h2⟩ hm
theorem sX_some {x : γ} (h : K x → sLen M' ≤ 1000000 → sW G l d y cc mL ret M0 r M' pc ls st M) : sX G l d y cc mL ret M0 r M' pc ls st M (some x) K := by
  intro z h1 h2 hm
  cases h1
  exact h h2 hm
theorem sX_none : sX G l d y cc mL ret M0 r M' pc ls st M (none : Option γ) K := fun _ h => by cases h
theorem sX_if {c : Prop} {hc : Decidable c} {a b : Option γ} (h1 : c → sX G l d y cc mL ret M0 r M' pc ls st M a K) (h2 : ¬ c → sX G l d y cc mL ret M0 r M' pc ls st M b K) : sX G l d y cc mL ret M0 r M' pc ls st M (@ite _ c hc a b) K := by
  by_cases q : c
  · rw [if_pos q]; exact h1 q
  · rw [if_neg q]; exact h2 q
/-- a guard -/
theorem sX_g {c : Prop} {hc : Decidable c} {a : Option γ} (h1 : c → sX G l d y cc mL ret M0 r M' pc ls st M a K) : sX G l d y cc mL ret M0 r M' pc ls st M (@ite _ c hc a none) K := sX_if h1 (fun _ => sX_none)
end SX
/-- loops -/
def sItr {α β : Type} (f : α → Option (α ⊕ β)) : Nat → α → Option β
  | 0, _ => none
  | n + 1, a => (f a).bind (fun x => match x with | .inl a' => sItr f n a' | .inr b => some b)
def sFuel : Nat := 1000000
section SI
variable {G : sG} {l : Launch} {d : Nat} {y : MethodName} {cc : ByteArray} {mL : Nat} {ret : Option FieldType} {M0 : sMem} {r : Option Value} {M' : sMem} {pc pc2 : Nat} {st st2 : List Value} {α β : Type}
theorem sX_itr {f : α → Option (α ⊕ β)} {LS : α → List (Option Value)} {MM : α → sMem} {KE : β → Prop}
    (h : ∀ (a : α), sX G l d y cc mL ret M0 r M' pc (LS a) [] (MM a) (f a) (fun x => match x with | .inl a' => sW G l d y cc mL ret M0 r M' pc (LS a') [] (MM a') | .inr b => KE b)) :
    ∀ (n : Nat) (a : α), sX G l d y cc mL ret M0 r M' pc (LS a) [] (MM a) (sItr f n a) KE := by
  intro n
  induction n with
  | zero => intro a x h1; cases h1
  | succ n ih =>
    intro a x h1 h2 hm
    obtain ⟨z, h3, h4⟩ := Option.bind_eq_some_iff.mp h1
    refine h a z h3 ?_ hm
    match z, h4 with
    | .inl a', h4 => exact ih a' x h4 h2 hm
    | .inr b, h4 => cases h4; exact h2
end SI
/-- a method out of its body's walk -/
theorem sC_intro {G : sG} {l : Launch} {d : Nat} {y : MethodName} {cc : ByteArray} {mL : Nat} {ret : Option FieldType} {vs : List Value} {M : sMem} {R : Type} {rv : R → Option Value} {k : Option (R × sMem)} {ls : List (Option Value)}
    (hy : plainFor y = true) (hls : sEn vs mL = ls) (hn : (vs.map fun v => v.category).sum ≤ mL)
    (h : ∀ (r : Option Value) (M' : sMem), sX G l d y cc mL ret M r M' 0 ls [] M k (fun x => rv x.1 = r ∧ x.2 = M')) : sC G l d y cc mL ret vs M rv k := by
  intro x M' hk hm
  obtain ⟨h1, h2, h4⟩ := h (rv x) M' (x, M') hk ⟨rfl, rfl⟩ hm
  refine ⟨h1, h2, ?_⟩
  refine va_MetF (cc := cc) (maxL := mL) (ret := ret) hy rfl ?_
  intro p e s m args below meth c s₁ B hml hv
  obtain ⟨rfl, hR, hK⟩ := hv
  have hts := atoms_spec (ws := Cond.code y cc mL ret :: sTb) B.pre
  have hA : sAt G y cc mL ret M p s m (vs.map (svm G)).toArray meth c := ⟨B.exec, B.bytes, B.returns, hml, findClass_of_methodNamed B.named, fun w hw => hts w (List.mem_cons_of_mem _ hw), B.notSynchronized, (fun hn => (name_of_methodNamed B.named B.method).1.trans hn), hK, hR.1, hR.2.2.2⟩
  have hlen : (lg_sl (vs.map (svm G))).length ≤ mL := by
    have e : ∀ us : List Value, (lg_sl (us.map (svm G))).length ≤ (us.map fun v => v.category).sum := by
      intro us
      induction us with
      | nil => simp [lg_sl]
      | cons u us ih =>
        have hu := lv_cat u
        rw [List.map_cons]
        show (List.flatMap _ (svm G u :: _)).length ≤ _
        rw [List.flatMap_cons, List.length_append, List.map_cons, List.sum_cons, svm_cat]
        have : (lg_sl (us.map (svm G))).length ≤ (us.map fun v => v.category).sum := ih
        unfold lg_sl at this
        refine Nat.add_le_add ?_ this
        rcases hu with hu | hu <;> simp [hu]
    exact Nat.le_trans (e vs) hn
  rw [lg_entry_eq]
  have hL : sLo G ((lg_sl (vs.map (svm G)) ++ List.replicate (mL - (lg_sl (vs.map (svm G))).length) Slot.unset).toArray) mL ls := by
    refine sLo.of (lv_entry (vs.map (svm G)) hlen) (fun i v hi => ?_)
    rw [← hls] at hi
    have := sEn_in (G := G) vs mL 0 i v hi
    rwa [Nat.zero_add] at this
  have := h4 p e s m (vs.map (svm G)).toArray below meth c s.heap [] _ hA (Nat.le_refl _) (Nat.le_refl _) hR va_S.rf hL
  rw [Nat.sub_self, Nat.sub_self] at this
  exact this
