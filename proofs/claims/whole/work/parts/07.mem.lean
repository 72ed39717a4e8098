/-! MEMORY: what reads and writes it -/
def up2 {α : Type} (f : Nat → Nat → α) (a i : Nat) (x : α) : Nat → Nat → α := fun b j => if b = a ∧ j = i then x else f b j
def up1 {α : Type} (f : Nat → Nat → α) (a : Nat) (g : Nat → α) : Nat → Nat → α := fun b => if b = a then g else f b
def wrI (M : sMem) (a i : Nat) (x : Int32) : sMem := (M.1, up2 M.2.1 a i x, M.2.2.1, M.2.2.2)
def wrJ (M : sMem) (a i : Nat) (x : Int64) : sMem := (M.1, M.2.1, up2 M.2.2.1 a i x, M.2.2.2)
def wrR (M : sMem) (a i : Nat) (x : Option Nat) : sMem := (M.1, M.2.1, M.2.2.1, up2 M.2.2.2 a i x)
def sNew (c n : Nat) (M : sMem) : sMem := (M.1 ++ [(c, n)], up1 M.2.1 (sLen M) (fun _ => 0), up1 M.2.2.1 (sLen M) (fun _ => 0), up1 M.2.2.2 (sLen M) (fun _ => none))
/-- an object's fields: c its class, n the number of its fields, k the field -/
def gI (c n k : Nat) (M : sMem) (a : Nat) : Option Int32 := if M.1[a]? = some (c, n) then some (M.2.1 a k) else none
def gJ (c n k : Nat) (M : sMem) (a : Nat) : Option Int64 := if M.1[a]? = some (c, n) then some (M.2.2.1 a k) else none
def gR (c n k : Nat) (M : sMem) (a : Nat) : Option Nat := if M.1[a]? = some (c, n) then M.2.2.2 a k else none
def pI (c n k : Nat) (M : sMem) (a : Nat) (x : Int32) : Option sMem := if M.1[a]? = some (c, n) then some (wrI M a k x) else none
def pZ (c n k : Nat) (M : sMem) (a : Nat) (x : Int32) : Option sMem := if M.1[a]? = some (c, n) ∧ (x = 0 ∨ x = 1) then some (wrI M a k x) else none
def pJ (c n k : Nat) (M : sMem) (a : Nat) (x : Int64) : Option sMem := if M.1[a]? = some (c, n) then some (wrJ M a k x) else none
def pR (c n k : Nat) (M : sMem) (a : Nat) (x : Nat) : Option sMem := if M.1[a]? = some (c, n) then some (wrR M a k (some x)) else none
/-- an array's length; its elements -/
def sAr (c : Nat) (M : sMem) (a : Nat) : Option Nat := (M.1[a]?).bind fun q => if q.1 = c then some q.2 else none
def aL (c : Nat) (M : sMem) (a : Nat) : Option Int32 := (sAr c M a).bind fun n => some (Int32.ofNat n)
def sOk (i : Int32) (n : Nat) : Prop := ¬ i < 0 ∧ i.toNatClampNeg < n
def ldI (c : Nat) (M : sMem) (a : Nat) (i : Int32) : Option Int32 := (sAr c M a).bind fun n => if ¬ i < 0 ∧ i.toNatClampNeg < n then some (M.2.1 a i.toNatClampNeg) else none
def ldJ (M : sMem) (a : Nat) (i : Int32) : Option Int64 := (sAr 15 M a).bind fun n => if ¬ i < 0 ∧ i.toNatClampNeg < n then some (M.2.2.1 a i.toNatClampNeg) else none
def ldR (c : Nat) (M : sMem) (a : Nat) (i : Int32) : Option (Option Nat) := (sAr c M a).bind fun n => if ¬ i < 0 ∧ i.toNatClampNeg < n then some (M.2.2.2 a i.toNatClampNeg) else none
def stI (M : sMem) (a : Nat) (i x : Int32) : Option sMem := (sAr 14 M a).bind fun n => if ¬ i < 0 ∧ i.toNatClampNeg < n then some (wrI M a i.toNatClampNeg x) else none
def stC (M : sMem) (a : Nat) (i x : Int32) : Option sMem := (sAr 13 M a).bind fun n => if ¬ i < 0 ∧ i.toNatClampNeg < n then some (wrI M a i.toNatClampNeg (vp_nar .char x)) else none
def stZ (M : sMem) (a : Nat) (i x : Int32) : Option sMem := (sAr 16 M a).bind fun n => if ¬ i < 0 ∧ i.toNatClampNeg < n then some (wrI M a i.toNatClampNeg (vp_nar .boolean x)) else none
def stJ (M : sMem) (a : Nat) (i : Int32) (x : Int64) : Option sMem := (sAr 15 M a).bind fun n => if ¬ i < 0 ∧ i.toNatClampNeg < n then some (wrJ M a i.toNatClampNeg x) else none
/-- c: the array's kind, e: the kind of what is stored -/
def stR (c e : Nat) (M : sMem) (a : Nat) (i : Int32) (x : Nat) : Option sMem := (sAr c M a).bind fun n => (M.1[x]?).bind fun q => if q.1 = e ∧ ¬ i < 0 ∧ i.toNatClampNeg < n then some (wrR M a i.toNatClampNeg (some x)) else none
def nA (c : Nat) (M : sMem) (n : Int32) : Option (Nat × sMem) := if ¬ n < 0 ∧ n.toNatClampNeg ≤ 1000000 then some (sLen M, sNew c n.toNatClampNeg M) else none
/-- System.arraycopy of ints -/
def cpI (M : sMem) (a0 : Nat) (sp : Int32) (a1 : Nat) (dp n : Int32) : Option sMem := (sAr 14 M a0).bind fun n0 => (sAr 14 M a1).bind fun n1 => if ¬ sp < 0 ∧ ¬ dp < 0 ∧ ¬ n < 0 ∧ sp.toNatClampNeg + n.toNatClampNeg ≤ n0 ∧ dp.toNatClampNeg + n.toNatClampNeg ≤ n1 then some (M.1, up1 M.2.1 a1 (va_cpy (M.2.1 a0) (M.2.1 a1) sp.toNatClampNeg dp.toNatClampNeg n.toNatClampNeg), M.2.2.1, M.2.2.2) else none
theorem sAr_some {c : Nat} {M : sMem} {a n : Nat} (h : sAr c M a = some n) : M.1[a]? = some (c, n) := by
  obtain ⟨q, h1, h2⟩ := Option.bind_eq_some_iff.mp h
  split at h2
  · rename_i hc
    cases h2
    rw [h1, ← hc]
  · cases h2
theorem sAr_of {c : Nat} {M : sMem} {a n : Nat} (h : M.1[a]? = some (c, n)) : sAr c M a = some n := by
  unfold sAr; rw [h]; simp
theorem scell_obj (G : sG) (M : sMem) (a : Nat) {c n : Nat} (h : c < 13) : scell G M a (c, n) = .inr (c, (List.range n).map (sfv G M a c)) := if_pos h
theorem scell_arr (G : sG) (M : sMem) (a : Nat) {c n : Nat} (h : ¬ c < 13) : scell G M a (c, n) = .inl (G.2.1 c, n, sarr G M a c) := if_neg h
/-- one cell changes -/
theorem sws_set {G : sG} {M M1 : sMem} {a : Nat} {q : Nat × Nat} {e : va_E} (hs : M1.1 = M.1) (ha : M.1[a]? = some q) (ho : ∀ (b : Nat) (q : Nat × Nat), b ≠ a → scell G M1 b q = scell G M b q) (he : scell G M1 a q = e) : sws G M1 = (sws G M).set a (sad G a, e) := by
  apply List.ext_getElem?
  intro b
  have hl : a < (sws G M).length := by rw [sws_len]; exact (List.getElem?_eq_some_iff.mp ha).1
  by_cases hb : b = a
  · subst hb
    rw [List.getElem?_set_self hl, sws_get (q := q) (by rw [hs]; exact ha), he]
  · rw [List.getElem?_set_ne (Ne.symm hb)]
    unfold sws
    rw [List.getElem?_mapIdx, List.getElem?_mapIdx, hs]
    cases M.1[b]? with
    | none => rfl
    | some x => show some (sad G b, scell G M1 b x) = some (sad G b, scell G M b x); rw [ho b x hb]
theorem sfv_eq {G : sG} {M M1 : sMem} {b : Nat} (h1 : M1.2.1 b = M.2.1 b) (h2 : M1.2.2.1 b = M.2.2.1 b) (h3 : M1.2.2.2 b = M.2.2.2 b) (c k : Nat) : sfv G M1 b c k = sfv G M b c k := by
  unfold sfv; rw [h1, h2, h3]
theorem scell_eq {G : sG} {M M1 : sMem} {b : Nat} (h1 : M1.2.1 b = M.2.1 b) (h2 : M1.2.2.1 b = M.2.2.1 b) (h3 : M1.2.2.2 b = M.2.2.2 b) (q : Nat × Nat) : scell G M1 b q = scell G M b q := by
  unfold scell
  have e : sfv G M1 b q.1 = sfv G M b q.1 := funext (fun k => sfv_eq h1 h2 h3 q.1 k)
  have e2 : sarr G M1 b q.1 = sarr G M b q.1 := by unfold sarr; rw [h1, h2, h3]
  rw [e, e2]
theorem up2_ne {α : Type} {f : Nat → Nat → α} {a i b : Nat} {x : α} (h : b ≠ a) : up2 f a i x b = f b := by
  funext j; unfold up2; rw [if_neg (fun q => h q.1)]
theorem up2_same {α : Type} (f : Nat → Nat → α) (a i : Nat) (x : α) : up2 f a i x a = fun j => if j = i then x else f a j := by
  funext j; unfold up2; by_cases h : j = i <;> simp [h]
theorem range_map_set {n k : Nat} {f g : Nat → Value} {v : Value} (hk : k < n) (hv : g k = v) (hg : ∀ j, j ≠ k → g j = f j) : (List.range n).map g = ((List.range n).map f).set k v := by
  apply List.ext_getElem?
  intro j
  by_cases hj : j = k
  · subst hj
    rw [List.getElem?_set_self (by simpa using hk), List.getElem?_map, List.getElem?_range hk]
    simp [hv]
  · rw [List.getElem?_set_ne (Ne.symm hj), List.getElem?_map, List.getElem?_map]
    by_cases hjn : j < n
    · rw [List.getElem?_range hjn]; simp [hg j hj]
    · rw [List.getElem?_eq_none (by simpa using hjn)]; rfl
/-- a field's link: own class, pool index; the field's class, slot, number of fields; whether it is final -/
def sFl (own : String) (i c k n : Nat) (fin : Bool) : Prop := ∃ (C : String) (T : u_T), vwCl[c]? = some (C, T, n) ∧ c < 13 ∧ k < n ∧ (∀ w ∈ u_ws C T n, w ∈ sTb) ∧ (∀ j, j < n → parseFieldDescriptor (T j).2.2.1 = some (sTy c j)) ∧ (∀ a, a < n → ∀ b, b < n → a ≠ b → (T a).2.1 ≠ (T b).2.1) ∧ (T k).2.2.2 = fin ∧ (T k).1 = C ∧
  (Cond.fieldLink own i (T k).1 (T k).2.1 (T k).2.2.1 ∈ sTb ∨ ∃ host : String, Cond.fieldLinkNest own i (T k).1 (T k).2.1 (T k).2.2.1 host ∈ lw_tbl)
section R3
variable {G : sG} {l : Launch} {d : Nat} {y : MethodName} {cc : ByteArray} {mL : Nat} {ret : Option FieldType} {M0 : sMem} {r : Option Value} {M' : sMem} {pc : Nat} {ls : List (Option Value)} {st : List Value} {M : sMem} {γ : Type} {K : γ → Prop}
/-- a field read: its value v -/
theorem sX_get {i c k n a : Nat} {fin : Bool} {v : Value} {kk0 : Option γ} (lf : sFl y.cls i c k n fin) (hd : decode cc pc = .ok (.getfield i, 3)) (hsh : M.1[a]? = some (c, n)) (hv : sfv G M a c k = svm G v) (kk : sX G l d y cc mL ret M0 r M' (pc + 3) ls (v :: st) M kk0 K) : sX G l d y cc mL ret M0 r M' pc ls (.ref a :: st) M kk0 K := by
  obtain ⟨C, T, f1, f2, f3, f4, f5, f6, f7, f8, f9⟩ := lf
  intro x h1 h2 hm
  obtain ⟨a1, a2, a4⟩ := kk x h1 h2 hm
  refine ⟨a1, a2, fun p e s m args below meth c0 H locs lsM hA b1 b2 hR hS hL => ?_⟩
  have w := a4 p e s m args below meth c0 H locs lsM hA b1 b2 hR hS hL
  have hc := sws_get (G := G) hsh
  rw [scell_obj G M a f2] at hc
  have hf : ((List.range n).map (sfv G M a c))[k]? = some (svm G v) := by
    rw [List.getElem?_map, List.getElem?_range f3]; simp [hv]
  rcases f9 with f9 | ⟨host, f9⟩
  · exact va_get (own := y.cls) (ref := (T k).1) hA.1 hA.2.1 hA.2.2.2.2.2.1 f4 hA.2.2.2.2.1 hA.2.2.2.2.2.2.2.2.1.1 hR.2.2.1 a hc f1 k f3 (hA.2.2.2.2.2.1 _ f9) (fun _ h => h) hf hd w
  · exact va_getN (own := y.cls) (ref := (T k).1) hA.1 hA.2.1 hA.2.2.2.2.2.1 f4 hA.2.2.2.2.1 hA.2.2.2.2.2.2.2.2.1.1 hR.2.2.1 a hc f1 k f3 (va_Nw.use rfl (hA.2.2.2.2.2.2.2.2.1.2.1 _ f9 rfl)) (fun _ h => h) hf hd w
theorem sX_getI {i c k n a : Nat} {fin : Bool} {f : Int32 → Option γ} (lf : sFl y.cls i c k n fin) (hk : skd (sTy c k) = 0) (hd : decode cc pc = .ok (.getfield i, 3)) (kk : ∀ x, sX G l d y cc mL ret M0 r M' (pc + 3) ls (.int x :: st) M (f x) K) : sX G l d y cc mL ret M0 r M' pc ls (.ref a :: st) M ((gI c n k M a).bind f) K := by
  unfold gI
  split
  · rename_i hs
    exact sX_get lf hd hs (by unfold sfv; rw [hk]; rfl) (kk _)
  · exact sX_none
theorem sX_getJ {i c k n a : Nat} {fin : Bool} {f : Int64 → Option γ} (lf : sFl y.cls i c k n fin) (hk : skd (sTy c k) = 1) (hd : decode cc pc = .ok (.getfield i, 3)) (kk : ∀ x, sX G l d y cc mL ret M0 r M' (pc + 3) ls (.long x :: st) M (f x) K) : sX G l d y cc mL ret M0 r M' pc ls (.ref a :: st) M ((gJ c n k M a).bind f) K := by
  unfold gJ
  split
  · rename_i hs
    exact sX_get lf hd hs (by unfold sfv; rw [hk]; rfl) (kk _)
  · exact sX_none
theorem sX_getR {i c k n a : Nat} {fin : Bool} {f : Nat → Option γ} (lf : sFl y.cls i c k n fin) (hk : skd (sTy c k) = 2) (hd : decode cc pc = .ok (.getfield i, 3)) (kk : ∀ x, sX G l d y cc mL ret M0 r M' (pc + 3) ls (.ref x :: st) M (f x) K) : sX G l d y cc mL ret M0 r M' pc ls (.ref a :: st) M ((gR c n k M a).bind f) K := by
  unfold gR
  split
  · rename_i hs
    cases hv : M.2.2.2 a k with
    | none => exact sX_none
    | some q => exact sX_get lf hd hs (by unfold sfv; rw [hk, hv]; rfl) (kk _)
  · exact sX_none
/-- a field written -/
theorem sX_put {i c k n a : Nat} {v : Value} {M1 : sMem} {kk0 : Option γ} (lf : sFl y.cls i c k n false) (hd : decode cc pc = .ok (.putfield i, 3)) (hsh : M.1[a]? = some (c, n)) (hn : narrow (sTy c k) (svm G v) = svm G v) (hfit : fits (sTy c k) (svm G v) = true)
    (hs1 : M1.1 = M.1) (hv : sfv G M1 a c k = svm G v) (hoth : ∀ j, j ≠ k → sfv G M1 a c j = sfv G M a c j) (hcel : ∀ (b : Nat) (q : Nat × Nat), b ≠ a → scell G M1 b q = scell G M b q) (hd0 : 1 ≤ d)
    (kk : sX G l d y cc mL ret M0 r M' (pc + 3) ls st M1 kk0 K) : sX G l d y cc mL ret M0 r M' pc ls (v :: .ref a :: st) M kk0 K := by
  obtain ⟨C, T, f1, f2, f3, f4, f5, f6, f7, f8, f9⟩ := lf
  refine sX_step (M1 := M1) (dc := 0) (ds := 0) (by unfold sLen; rw [hs1]; rfl) (by unfold sSlots; rw [hs1]; rfl) (fun hA hL hR hD hS _ _ _ _ w => ?_) hd0 kk
  have hc := sws_get (G := G) hsh
  rw [scell_obj G M a f2] at hc
  have hset : sws G M1 = (sws G M).set a (sad G a, .inr (c, ((List.range n).map (sfv G M a c)).set k (svm G v))) := by
    refine sws_set hs1 hsh hcel ?_
    rw [scell_obj G M1 a f2, range_map_set f3 hv hoth]
  rw [hset] at w
  have hlen : k < ((List.range n).map (sfv G M a c)).length := by simpa using f3
  rcases f9 with f9 | ⟨host, f9⟩
  · exact va_put (own := y.cls) (ref := (T k).1) hA.1 hA.2.1 hA.2.2.2.2.2.1 f4 (sTy c) f5 f6 hA.2.2.2.2.1 hA.2.2.2.2.2.2.2.2.1.1 hR.2.2.1 hD hS a hc f1 k f3 (hA.2.2.2.2.2.1 _ f9) (fun _ h => h) f7 (f5 k f3) hn hfit hlen hd (fun H1 locs1 hP1 _ hS1 => w H1 locs1 hP1 hS1)
  · exact va_putN (own := y.cls) (ref := (T k).1) hA.1 hA.2.1 hA.2.2.2.2.2.1 f4 (sTy c) f5 f6 hA.2.2.2.2.1 hA.2.2.2.2.2.2.2.2.1.1 hR.2.2.1 hD hS a hc f1 k f3 (va_Nw.use rfl (hA.2.2.2.2.2.2.2.2.1.2.1 _ f9 rfl)) (fun _ h => h) f7 (f5 k f3) hn hfit hlen hd (fun H1 locs1 hP1 _ hS1 => w H1 locs1 hP1 hS1)
/-- the link of a final field of the own class -/
def sFf (own : String) (i c k n : Nat) : Prop := ∃ T : u_T, vwCl[c]? = some (own, T, n) ∧ c < 13 ∧ k < n ∧ (∀ w ∈ u_ws own T n, w ∈ sTb) ∧ (∀ j, j < n → parseFieldDescriptor (T j).2.2.1 = some (sTy c j)) ∧ (∀ a, a < n → ∀ b, b < n → a ≠ b → (T a).2.1 ≠ (T b).2.1) ∧ (T k).2.2.2 = true ∧ (T k).1 = own ∧ Cond.fieldLink own i (T k).1 (T k).2.1 (T k).2.2.1 ∈ sTb
theorem sX_putF {i c k n a : Nat} {v : Value} {M1 : sMem} {kk0 : Option γ} (lf : sFf y.cls i c k n) (hn1 : y.name = "<init>") (hd : decode cc pc = .ok (.putfield i, 3)) (hsh : M.1[a]? = some (c, n)) (hn : narrow (sTy c k) (svm G v) = svm G v) (hfit : fits (sTy c k) (svm G v) = true)
    (hs1 : M1.1 = M.1) (hv : sfv G M1 a c k = svm G v) (hoth : ∀ j, j ≠ k → sfv G M1 a c j = sfv G M a c j) (hcel : ∀ (b : Nat) (q : Nat × Nat), b ≠ a → scell G M1 b q = scell G M b q) (hd0 : 1 ≤ d)
    (kk : sX G l d y cc mL ret M0 r M' (pc + 3) ls st M1 kk0 K) : sX G l d y cc mL ret M0 r M' pc ls (v :: .ref a :: st) M kk0 K := by
  obtain ⟨T, f1, f2, f3, f4, f5, f6, f7, f8, f9⟩ := lf
  refine sX_step (M1 := M1) (dc := 0) (ds := 0) (by unfold sLen; rw [hs1]; rfl) (by unfold sSlots; rw [hs1]; rfl) (fun hA hL hR hD hS _ _ _ _ w => ?_) hd0 kk
  have hc := sws_get (G := G) hsh
  rw [scell_obj G M a f2] at hc
  have hset : sws G M1 = (sws G M).set a (sad G a, .inr (c, ((List.range n).map (sfv G M a c)).set k (svm G v))) := by
    refine sws_set hs1 hsh hcel ?_
    rw [scell_obj G M1 a f2, range_map_set f3 hv hoth]
  rw [hset] at w
  have hlen : k < ((List.range n).map (sfv G M a c)).length := by simpa using f3
  exact va_putF (own := y.cls) (ref := (T k).1) hA.1 hA.2.1 hA.2.2.2.2.2.1 f4 (sTy c) f5 f6 hA.2.2.2.2.1 hA.2.2.2.2.2.2.2.2.1.1 hR.2.2.1 hD hS a hc f1 k f3 (hA.2.2.2.2.2.1 _ f9) (fun _ h => h) f7 (hA.2.2.2.2.2.2.2.1 hn1) f8 (f5 k f3) hn hfit hlen hd (fun H1 locs1 hP1 _ hS1 => w H1 locs1 hP1 hS1)
theorem wrI_cel {a i : Nat} {x : Int32} (b : Nat) (q : Nat × Nat) (h : b ≠ a) : scell G (wrI M a i x) b q = scell G M b q := scell_eq (M1 := wrI M a i x) (M := M) (up2_ne h) rfl rfl q
theorem wrJ_cel {a i : Nat} {x : Int64} (b : Nat) (q : Nat × Nat) (h : b ≠ a) : scell G (wrJ M a i x) b q = scell G M b q := scell_eq (M1 := wrJ M a i x) (M := M) rfl (up2_ne h) rfl q
theorem wrR_cel {a i : Nat} {x : Option Nat} (b : Nat) (q : Nat × Nat) (h : b ≠ a) : scell G (wrR M a i x) b q = scell G M b q := scell_eq (M1 := wrR M a i x) (M := M) rfl rfl (up2_ne h) q
theorem wrI_oth {a i c : Nat} {x : Int32} (j : Nat) (h : j ≠ i) : sfv G (wrI M a i x) a c j = sfv G M a c j := by
  unfold sfv wrI up2; simp only [h, and_false, if_false]
theorem wrJ_oth {a i c : Nat} {x : Int64} (j : Nat) (h : j ≠ i) : sfv G (wrJ M a i x) a c j = sfv G M a c j := by
  unfold sfv wrJ up2; simp only [h, and_false, if_false]
theorem wrR_oth {a i c : Nat} {x : Option Nat} (j : Nat) (h : j ≠ i) : sfv G (wrR M a i x) a c j = sfv G M a c j := by
  unfold sfv wrR up2; simp only [h, and_false, if_false]
theorem wrI_at {a k c : Nat} {x : Int32} (hk : skd (sTy c k) = 0) : sfv G (wrI M a k x) a c k = .int x := by
  unfold sfv; rw [hk]; simp [wrI, up2]
theorem wrJ_at {a k c : Nat} {x : Int64} (hk : skd (sTy c k) = 1) : sfv G (wrJ M a k x) a c k = .long x := by
  unfold sfv; rw [hk]; simp [wrJ, up2]
theorem wrR_at {a k c : Nat} {x : Nat} (hk : skd (sTy c k) = 2) : sfv G (wrR M a k (some x)) a c k = .ref (sad G x) := by
  unfold sfv; rw [hk]; simp [wrR, up2, va_rf]
theorem nar_int (x : Int32) : narrow .int (.int x) = .int x := rfl
theorem nar_ref {t : FieldType} (h : skd t = 2) (x : Nat) : narrow t (.ref x) = .ref x ∧ fits t (.ref x) = true := by
  cases t <;> first | (simp [skd] at h; done) | exact ⟨rfl, rfl⟩
theorem nar_bool {x : Int32} (h : x = 0 ∨ x = 1) : narrow .boolean (.int x) = .int x ∧ fits .boolean (.int x) = true := by
  rcases h with rfl | rfl <;> exact ⟨by decide, by decide⟩
theorem sX_putI {i c k n a : Nat} {x : Int32} {f : sMem → Option γ} (lf : sFl y.cls i c k n false) (hk : sTy c k = .int) (hd : decode cc pc = .ok (.putfield i, 3)) (hd0 : 1 ≤ d) (kk : ∀ M1, sX G l d y cc mL ret M0 r M' (pc + 3) ls st M1 (f M1) K) : sX G l d y cc mL ret M0 r M' pc ls (.int x :: .ref a :: st) M ((pI c n k M a x).bind f) K := by
  unfold pI
  split
  · rename_i hs
    exact sX_put (M1 := wrI M a k x) lf hd hs (by rw [hk]; rfl) (by rw [hk]; rfl) rfl (wrI_at (by rw [hk]; rfl)) (fun j h => wrI_oth j h) (fun b q h => wrI_cel b q h) hd0 (kk (wrI M a k x))
  · exact sX_none
theorem sX_putZ {i c k n a : Nat} {x : Int32} {f : sMem → Option γ} (lf : sFl y.cls i c k n false) (hk : sTy c k = .boolean) (hd : decode cc pc = .ok (.putfield i, 3)) (hd0 : 1 ≤ d) (kk : ∀ M1, sX G l d y cc mL ret M0 r M' (pc + 3) ls st M1 (f M1) K) : sX G l d y cc mL ret M0 r M' pc ls (.int x :: .ref a :: st) M ((pZ c n k M a x).bind f) K := by
  unfold pZ
  split
  · rename_i hs
    have hb := nar_bool hs.2
    exact sX_put (M1 := wrI M a k x) lf hd hs.1 (by rw [hk]; exact hb.1) (by rw [hk]; exact hb.2) rfl (wrI_at (by rw [hk]; rfl)) (fun j h => wrI_oth j h) (fun b q h => wrI_cel b q h) hd0 (kk (wrI M a k x))
  · exact sX_none
theorem sX_putJ {i c k n a : Nat} {x : Int64} {f : sMem → Option γ} (lf : sFl y.cls i c k n false) (hk : sTy c k = .long) (hd : decode cc pc = .ok (.putfield i, 3)) (hd0 : 1 ≤ d) (kk : ∀ M1, sX G l d y cc mL ret M0 r M' (pc + 3) ls st M1 (f M1) K) : sX G l d y cc mL ret M0 r M' pc ls (.long x :: .ref a :: st) M ((pJ c n k M a x).bind f) K := by
  unfold pJ
  split
  · rename_i hs
    exact sX_put (M1 := wrJ M a k x) lf hd hs (by rw [hk]; rfl) (by rw [hk]; rfl) rfl (wrJ_at (by rw [hk]; rfl)) (fun j h => wrJ_oth j h) (fun b q h => wrJ_cel b q h) hd0 (kk (wrJ M a k x))
  · exact sX_none
theorem sX_putR {i c k n a x : Nat} {f : sMem → Option γ} (lf : sFl y.cls i c k n false) (hk : skd (sTy c k) = 2) (hd : decode cc pc = .ok (.putfield i, 3)) (hd0 : 1 ≤ d) (kk : ∀ M1, sX G l d y cc mL ret M0 r M' (pc + 3) ls st M1 (f M1) K) : sX G l d y cc mL ret M0 r M' pc ls (.ref x :: .ref a :: st) M ((pR c n k M a x).bind f) K := by
  unfold pR
  split
  · rename_i hs
    exact sX_put (M1 := wrR M a k (some x)) lf hd hs (nar_ref hk _).1 (nar_ref hk _).2 rfl (wrR_at hk) (fun j h => wrR_oth j h) (fun b q h => wrR_cel b q h) hd0 (kk (wrR M a k (some x)))
  · exact sX_none
theorem sX_putFI {i c k n a : Nat} {x : Int32} {f : sMem → Option γ} (lf : sFf y.cls i c k n) (hn1 : y.name = "<init>") (hk : sTy c k = .int) (hd : decode cc pc = .ok (.putfield i, 3)) (hd0 : 1 ≤ d) (kk : ∀ M1, sX G l d y cc mL ret M0 r M' (pc + 3) ls st M1 (f M1) K) : sX G l d y cc mL ret M0 r M' pc ls (.int x :: .ref a :: st) M ((pI c n k M a x).bind f) K := by
  unfold pI
  split
  · rename_i hs
    exact sX_putF (M1 := wrI M a k x) lf hn1 hd hs (by rw [hk]; rfl) (by rw [hk]; rfl) rfl (wrI_at (by rw [hk]; rfl)) (fun j h => wrI_oth j h) (fun b q h => wrI_cel b q h) hd0 (kk (wrI M a k x))
  · exact sX_none
theorem sX_putFR {i c k n a x : Nat} {f : sMem → Option γ} (lf : sFf y.cls i c k n) (hn1 : y.name = "<init>") (hk : skd (sTy c k) = 2) (hd : decode cc pc = .ok (.putfield i, 3)) (hd0 : 1 ≤ d) (kk : ∀ M1, sX G l d y cc mL ret M0 r M' (pc + 3) ls st M1 (f M1) K) : sX G l d y cc mL ret M0 r M' pc ls (.ref x :: .ref a :: st) M ((pR c n k M a x).bind f) K := by
  unfold pR
  split
  · rename_i hs
    exact sX_putF (M1 := wrR M a k (some x)) lf hn1 hd hs (nar_ref hk _).1 (nar_ref hk _).2 rfl (wrR_at hk) (fun j h => wrR_oth j h) (fun b q h => wrR_cel b q h) hd0 (kk (wrR M a k (some x)))
  · exact sX_none
end R3
