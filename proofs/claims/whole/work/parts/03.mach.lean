/-! A PURE MACHINE over the kit's rows. A memory: the shapes of the cells (kind, number of slots), and what they hold: ints, longs, references, by cell and slot. -/
abbrev sMem : Type := List (Nat × Nat) × (Nat → Nat → Int32) × (Nat → Nat → Int64) × (Nat → Nat → Option Nat)
def sLen (M : sMem) : Nat := M.1.length
def sSlots (M : sMem) : Nat := (M.1.map Prod.snd).sum
/-- the world: class tables, array classes by kind, the heap at the law's start, the script (its cell, its length, its ints), the words' text (its cell, its bytes' cell) -/
abbrev sG : Type := va_G × (Nat → ClassId) × Heap × Nat × Nat × (Nat → Int32) × Nat × Nat × Option Nat
def sB (G : sG) : Nat := G.2.2.1.size
def sA (G : sG) : Nat → Prop := fun q => sB G ≤ q
def sSCR : Nat := 1000000007
def sSTR : Nat := 1000000009
def sSTV : Nat := 1000000021
def sFMT : Nat := 1000000033
def sad (G : sG) (k : Nat) : Nat := if k = sSCR then G.2.2.2.1 else if k = sSTR then G.2.2.2.2.2.2.1 else if k = sSTV then G.2.2.2.2.2.2.2.1 else if k = sFMT then G.2.2.2.2.2.2.2.2.getD 0 else sB G + k
def svm (G : sG) : Value → Value
  | .ref k => .ref (sad G k)
  | v => v
theorem svm_int (G : sG) (x : Int32) : svm G (.int x) = .int x := rfl
theorem svm_long (G : sG) (x : Int64) : svm G (.long x) = .long x := rfl
theorem svm_ref (G : sG) (x : Nat) : svm G (.ref x) = .ref (sad G x) := rfl
theorem svm_null (G : sG) : svm G .null = .null := rfl
theorem svm_cat (G : sG) (v : Value) : (svm G v).category = v.category := by cases v <;> rfl
theorem svm_rf (G : sG) (o : Option Nat) : svm G (va_rf o) = va_rf (o.map (sad G)) := by cases o <;> rfl
theorem svm_cats (G : sG) (st : List Value) : ((st.map (svm G)).map fun v => v.category) = st.map fun v => v.category := by
  rw [List.map_map]
  exact List.map_congr_left (fun v _ => svm_cat G v)
def skd : FieldType → Nat
  | .long => 1
  | .object _ => 2
  | .array _ => 2
  | _ => 0
def sfv (G : sG) (M : sMem) (a c k : Nat) : Value := if skd (sTy c k) = 1 then .long (M.2.2.1 a k) else if skd (sTy c k) = 2 then va_rf ((M.2.2.2 a k).map (sad G)) else .int (M.2.1 a k)
def sarr (G : sG) (M : sMem) (a c : Nat) : (Nat → Int32) ⊕ (Nat → Int64) ⊕ (Nat → UInt32) ⊕ (Nat → UInt64) ⊕ (Nat → Option Nat) :=
  if c = 15 then .inr (.inl (M.2.2.1 a)) else if c = 17 then .inr (.inr (.inr (.inr (fun j => (M.2.2.2 a j).map (sad G))))) else if c = 18 then .inr (.inr (.inr (.inr (fun j => (M.2.2.2 a j).map (sad G))))) else .inl (M.2.1 a)
def scell (G : sG) (M : sMem) (a : Nat) (q : Nat × Nat) : va_E :=
  if q.1 < 13 then .inr (q.1, (List.range q.2).map (sfv G M a q.1)) else .inl (G.2.1 q.1, q.2, sarr G M a q.1)
def sws (G : sG) (M : sMem) : va_W := M.1.mapIdx (fun k q => (sad G k, scell G M k q))
theorem sws_get {G : sG} {M : sMem} {a : Nat} {q : Nat × Nat} (h : M.1[a]? = some q) : (sws G M)[a]? = some (sad G a, scell G M a q) := by
  rw [sws, List.getElem?_mapIdx, h]; rfl
theorem sws_len (G : sG) (M : sMem) : (sws G M).length = sLen M := by simp [sws, sLen]
theorem sad_lt {G : sG} {k : Nat} (h : k < 1000001) : sad G k = sB G + k := by
  unfold sad sSCR sSTR sSTV sFMT
  rw [if_neg (by omega), if_neg (by omega), if_neg (by omega), if_neg (by omega)]
theorem sD {G : sG} {M : sMem} (h : sLen M ≤ 1000000) : va_D (sA G) (sws G M) := by
  have key : ∀ (i : Nat) (p : Nat × va_E), (sws G M)[i]? = some p → i < sLen M ∧ p.1 = sB G + i := by
    intro i p hp
    have hi : i < sLen M := by
      have := (List.getElem?_eq_some_iff.mp hp).1
      rwa [sws_len] at this
    refine ⟨hi, ?_⟩
    rw [sws, List.getElem?_mapIdx] at hp
    obtain ⟨q, -, rfl⟩ := Option.map_eq_some_iff.mp hp
    exact sad_lt (by omega)
  refine ⟨fun i j p q hi hj hpq => ?_, fun k q hk => ?_⟩
  · have h1 := key i p hi
    have h2 := key j q hj
    omega
  · have h1 := key k q hk
    show sB G ≤ q.1
    omega
/-- the heap holds the memory; what was there at the start stays -/
def sRel (G : sG) (M : sMem) (H : Heap) : Prop := H.size = sB G + sLen M ∧ sLen M ≤ 1000000 ∧ va_P G.1 vwCl (sws G M) H ∧ ∀ q : Nat, q < sB G → H[q]? = G.2.2.1[q]?
def sTys (G : sG) : List (ClassId × FieldType) := [(G.2.1 13, .char), (G.2.1 14, .int), (G.2.1 15, .long), (G.2.1 16, .boolean), (G.2.1 17, .object "CenturyGates$State"), (G.2.1 18, .array .long)]
def sNest : Cond → Bool
  | .fieldLinkNest .. => true
  | .methodLinkNest .. => true
  | _ => false
def sText : String := "district gate at place road to steps lane over era long pace from car shuts late sees pigs ahead behind minute day waits knows number closed drive or and not all min max first last often total most least "
def sChars : List Int32 := [100, 105, 115, 116, 114, 105, 99, 116, 32, 103, 97, 116, 101, 32, 97, 116, 32, 112, 108, 97, 99, 101, 32, 114, 111, 97, 100, 32, 116, 111, 32, 115, 116, 101, 112, 115, 32, 108, 97, 110, 101, 32, 111, 118, 101, 114, 32, 101, 114, 97, 32, 108, 111, 110, 103, 32, 112, 97, 99, 101, 32, 102, 114, 111, 109, 32, 99, 97, 114, 32, 115, 104, 117, 116, 115, 32, 108, 97, 116, 101, 32, 115, 101, 101, 115, 32, 112, 105, 103, 115, 32, 97, 104, 101, 97, 100, 32, 98, 101, 104, 105, 110, 100, 32, 109, 105, 110, 117, 116, 101, 32, 100, 97, 121, 32, 119, 97, 105, 116, 115, 32, 107, 110, 111, 119, 115, 32, 110, 117, 109, 98, 101, 114, 32, 99, 108, 111, 115, 101, 100, 32, 100, 114, 105, 118, 101, 32, 111, 114, 32, 97, 110, 100, 32, 110, 111, 116, 32, 97, 108, 108, 32, 109, 105, 110, 32, 109, 97, 120, 32, 102, 105, 114, 115, 116, 32, 108, 97, 115, 116, 32, 111, 102, 116, 101, 110, 32, 116, 111, 116, 97, 108, 32, 109, 111, 115, 116, 32, 108, 101, 97, 115, 116, 32]
/-- what stands outside the memory: the script, the words' text -/
def sExt (G : sG) (U : State) : Prop := va_X G.2.2.2.1 G.2.2.2.2.1 G.2.2.2.2.2.1 U G.2.2.1 ∧ G.2.2.2.1 < sB G ∧ vk_R "CenturyGates$Tape" 88 sText G.2.2.2.2.2.2.1 U ∧ vk_S 1 [sChars.length] [sChars] (fun _ => G.2.2.2.2.2.2.1) (fun _ => G.2.2.2.2.2.2.2.1) (sA G) U G.2.2.1 ∧ va_Z "java/lang/String" "COMPACT_STRINGS" "Z" (.int 1) (sA G) U G.2.2.1 ∧ va_Z "jdk/internal/util/Preconditions" "SIOOBE_FORMATTER" "Ljava/util/function/BiFunction;" (va_rf G.2.2.2.2.2.2.2.2) (sA G) U G.2.2.1
def sAOA (U : State) : Prop := (Cond.arrayOver (.array .long)).before #[] U = true
def sK (G : sG) (U : State) : Prop := va_K G.1 vwCl (sTys G) U ∧ (∀ w ∈ lw_tbl, sNest w = true → va_Nw w U) ∧ va_AO "CenturyGates$State" U ∧ sAOA U ∧ sExt G U
theorem sAOA.moved {u U : State} (hvm : u.vm.Alike U.vm) (h : sAOA u) : sAOA U := by
  have e : (Cond.arrayOver (.array .long)).before #[] U = (Cond.arrayOver (.array .long)).before #[] (u.setVm U.vm) := rfl
  unfold sAOA at h ⊢
  rw [e, Cond.arrayOver_setVmC hvm]
  exact h
theorem sNest_warm {w : Cond} (hw : sNest w = true) {s U : State} (hW : s.WarmedH U.vm) (h : va_Nw w s) : va_Nw w U := by
  cases w <;> first | (simp [sNest] at hw; done) | exact va_Nw.warmF hW h | exact va_Nw.warmM hW h
theorem sK.warm {G : sG} {s U : State} (hW : s.WarmedH U.vm) (h : sK G s) : sK G U := by
  obtain ⟨h1, h2, h3, h4, h5, h6, h7, h8, h9, h10⟩ := h
  exact ⟨h1.moved hW.alike, fun w hw hn => sNest_warm hn hW (h2 w hw hn), h3.moved hW.alike, h4.moved hW.alike, h5.moved hW.alike, h6, h7.warm hW, h8.moved hW.alike, h9.moved hW.alike, h10.moved hW.alike⟩

/-! locals: what is known of each -/
def sAs (G : sG) : Nat → List (Option Value) → List (Nat × Value)
  | _, [] => []
  | k, none :: ls => sAs G (k + 1) ls
  | k, some v :: ls => (k, svm G v) :: sAs G (k + 1) ls
theorem sAs_mem {G : sG} : ∀ (ls : List (Option Value)) (k : Nat) (q : Nat × Value), q ∈ sAs G k ls → ∃ (i : Nat) (v : Value), q = (k + i, svm G v) ∧ ls[i]? = some (some v)
  | [], k, q, h => absurd h List.not_mem_nil
  | none :: ls, k, q, h => by
    obtain ⟨i, v, h1, h2⟩ := sAs_mem ls (k + 1) q h
    exact ⟨i + 1, v, by rw [h1, show k + 1 + i = k + (i + 1) by omega], by simpa using h2⟩
  | some v :: ls, k, q, h => by
    rcases List.mem_cons.mp h with h | h
    · exact ⟨0, v, by rw [h]; rfl, by simp⟩
    · obtain ⟨i, w, h1, h2⟩ := sAs_mem ls (k + 1) q h
      exact ⟨i + 1, w, by rw [h1, show k + 1 + i = k + (i + 1) by omega], by simpa using h2⟩
theorem sAs_in {G : sG} : ∀ (ls : List (Option Value)) (k i : Nat) (v : Value), ls[i]? = some (some v) → (k + i, svm G v) ∈ sAs G k ls
  | [], k, i, v, h => by simp at h
  | none :: ls, k, 0, v, h => by simp at h
  | none :: ls, k, i + 1, v, h => by
    have := sAs_in (G := G) ls (k + 1) i v (by simpa using h)
    rw [show k + 1 + i = k + (i + 1) by omega] at this
    exact this
  | some w :: ls, k, 0, v, h => by
    have : w = v := by simpa using h
    subst this
    exact List.mem_cons_self
  | some w :: ls, k, i + 1, v, h => by
    have := sAs_in (G := G) ls (k + 1) i v (by simpa using h)
    rw [show k + 1 + i = k + (i + 1) by omega] at this
    exact List.mem_cons_of_mem _ this
def sLo (G : sG) (lsM : Array Slot) (n : Nat) (ls : List (Option Value)) : Prop := lv_has lsM n (sAs G 0 ls)
theorem sLo.at {G : sG} {lsM : Array Slot} {n : Nat} {ls : List (Option Value)} (h : sLo G lsM n ls) {i : Nat} {v : Value} (hi : ls[i]? = some (some v)) : lsM[i]? = some (.val (svm G v)) := by
  have := sAs_in (G := G) ls 0 i v hi
  rw [Nat.zero_add] at this
  exact h.2.2 _ this
/-- fewer known -/
def sLe : List (Option Value) → List (Option Value) → Prop
  | [], _ => True
  | none :: a, _ :: b => sLe a b
  | some v :: a, w :: b => w = some v ∧ sLe a b
  | _ :: _, [] => False
theorem sLe.get : ∀ {a b : List (Option Value)}, sLe a b → ∀ {i : Nat} {v : Value}, a[i]? = some (some v) → b[i]? = some (some v)
  | [], _, _, i, v, h => by simp at h
  | none :: a, w :: b, hab, 0, v, h => by simp at h
  | none :: a, w :: b, hab, i + 1, v, h => by
    have := sLe.get (a := a) (b := b) hab (i := i) (v := v) (by simpa using h)
    simpa using this
  | some x :: a, w :: b, hab, 0, v, h => by
    have : x = v := by simpa using h
    subst this
    simpa using hab.1
  | some x :: a, w :: b, hab, i + 1, v, h => by
    have := sLe.get (a := a) (b := b) hab.2 (i := i) (v := v) (by simpa using h)
    simpa using this
  | x :: a, [], hab, i, v, h => by cases x <;> exact absurd hab (by simp [sLe])
theorem sLo.of {G : sG} {lsM : Array Slot} {n : Nat} {l : List (Nat × Value)} {ls : List (Option Value)} (h : lv_has lsM n l) (hl : ∀ (i : Nat) (v : Value), ls[i]? = some (some v) → (i, svm G v) ∈ l) : sLo G lsM n ls := by
  refine ⟨h.1, h.2.1, fun q hq => ?_⟩
  obtain ⟨i, v, rfl, hi⟩ := sAs_mem ls 0 q hq
  rw [Nat.zero_add]
  exact h.2.2 _ (hl i v hi)
theorem sLo.le {G : sG} {lsM : Array Slot} {n : Nat} {a b : List (Option Value)} (h : sLo G lsM n b) (hab : sLe a b) : sLo G lsM n a :=
  sLo.of h (fun i v hi => by have := sAs_in (G := G) b 0 i v (hab.get hi); rwa [Nat.zero_add] at this)
def sKil : Nat → List (Option Value) → List (Option Value)
  | 0, ls => ls
  | _, [] => []
  | 1, some (.long _) :: ls => none :: ls
  | 1, some (.double _) :: ls => none :: ls
  | 1, o :: ls => o :: ls
  | k + 2, o :: ls => o :: sKil (k + 1) ls
theorem sKil_get : ∀ (i : Nat) (ls : List (Option Value)) (j : Nat) (v : Value), (sKil i ls)[j]? = some (some v) → ls[j]? = some (some v) ∧ ¬ (j + 1 = i ∧ v.category = 2)
  | 0, ls, j, v, h => ⟨h, by omega⟩
  | i + 1, [], j, v, h => by simp [sKil] at h
  | 1, none :: ls, 0, v, h => by simp [sKil] at h
  | 1, some w :: ls, 0, v, h => by
    cases w <;> simp [sKil] at h <;> (subst h; refine ⟨by simp, fun q => ?_⟩; exact absurd q.2 (by simp [Value.category]))
  | 1, none :: ls, j + 1, v, h => ⟨by simpa [sKil] using h, by omega⟩
  | 1, some w :: ls, j + 1, v, h => ⟨by cases w <;> simpa [sKil] using h, by omega⟩
  | k + 2, o :: ls, 0, v, h => ⟨by simpa [sKil] using h, by omega⟩
  | k + 2, o :: ls, j + 1, v, h => by
    obtain ⟨h1, h2⟩ := sKil_get (k + 1) ls j v (by simpa [sKil] using h)
    exact ⟨by simpa using h1, fun q => h2 ⟨by omega, q.2⟩⟩
/-- a store of one slot, of two -/
def sSt1 (i : Nat) (v : Value) (ls : List (Option Value)) : List (Option Value) := (sKil i ls).set i (some v)
def sSt2 (i : Nat) (v : Value) (ls : List (Option Value)) : List (Option Value) := ((sKil i ls).set (i + 1) none).set i (some v)
theorem sLo.st1 {G : sG} {lsM : Array Slot} {n i : Nat} {v : Value} {ls : List (Option Value)} (h : lv_has lsM n ((i, svm G v) :: (sAs G 0 ls).filter (fun q => !(q.1 == i) && !(q.1 + 1 == i && q.2.category == 2)))) : sLo G lsM n (sSt1 i v ls) := by
  refine sLo.of h (fun j w hj => ?_)
  by_cases hji : j = i
  · subst hji
    unfold sSt1 at hj
    have hl : j < (sKil j ls).length := by
      have := (List.getElem?_eq_some_iff.mp hj).1
      simpa using this
    rw [List.getElem?_set_self hl] at hj
    have : v = w := by simpa using hj
    subst this
    exact List.mem_cons_self
  · unfold sSt1 at hj
    rw [List.getElem?_set_ne (Ne.symm hji)] at hj
    obtain ⟨h1, h2⟩ := sKil_get i ls j w hj
    refine List.mem_cons_of_mem _ (List.mem_filter.mpr ⟨?_, ?_⟩)
    · have := sAs_in (G := G) ls 0 j w h1
      rwa [Nat.zero_add] at this
    · simp only [Bool.and_eq_true, Bool.not_eq_true', beq_eq_false_iff_ne, ne_eq, Bool.and_eq_false_iff, svm_cat]
      exact ⟨hji, by by_cases q : j + 1 = i; exact Or.inr (fun z => h2 ⟨q, z⟩); exact Or.inl q⟩
theorem sLo.st2 {G : sG} {lsM : Array Slot} {n i : Nat} {v : Value} {ls : List (Option Value)} (h : lv_has lsM n ((i, svm G v) :: (sAs G 0 ls).filter (fun q => !(q.1 == i) && (!(q.1 == i + 1) && !(q.1 + 1 == i && q.2.category == 2))))) : sLo G lsM n (sSt2 i v ls) := by
  refine sLo.of h (fun j w hj => ?_)
  unfold sSt2 at hj
  by_cases hji : j = i
  · subst hji
    have hl : j < ((sKil j ls).set (j + 1) none).length := by
      have := (List.getElem?_eq_some_iff.mp hj).1
      simpa using this
    rw [List.getElem?_set_self hl] at hj
    have : v = w := by simpa using hj
    subst this
    exact List.mem_cons_self
  · rw [List.getElem?_set_ne (Ne.symm hji)] at hj
    by_cases hj1 : j = i + 1
    · subst hj1
      have hl : i + 1 < (sKil i ls).length := by
        have := (List.getElem?_eq_some_iff.mp hj).1
        simpa using this
      rw [List.getElem?_set_self hl] at hj
      simp at hj
    · rw [List.getElem?_set_ne (Ne.symm hj1)] at hj
      obtain ⟨h1, h2⟩ := sKil_get i ls j w hj
      refine List.mem_cons_of_mem _ (List.mem_filter.mpr ⟨?_, ?_⟩)
      · have := sAs_in (G := G) ls 0 j w h1
        rwa [Nat.zero_add] at this
      · simp only [Bool.and_eq_true, Bool.not_eq_true', beq_eq_false_iff_ne, ne_eq, Bool.and_eq_false_iff, svm_cat]
        exact ⟨hji, hj1, by by_cases q : j + 1 = i; exact Or.inr (fun z => h2 ⟨q, z⟩); exact Or.inl q⟩
/-- the locals with which a method begins -/
def sEn : List Value → Nat → List (Option Value)
  | [], n => List.replicate n none
  | v :: vs, n => if v.category = 2 then some v :: none :: sEn vs (n - 2) else some v :: sEn vs (n - 1)
theorem sEn_in {G : sG} : ∀ (vs : List Value) (n k i : Nat) (v : Value), (sEn vs n)[i]? = some (some v) → (k + i, svm G v) ∈ lv_args k (vs.map (svm G))
  | [], n, k, i, v, h => by
    simp only [sEn, List.getElem?_replicate] at h
    split at h <;> simp at h
  | w :: vs, n, k, i, v, h => by
    show _ ∈ lv_args k (svm G w :: vs.map (svm G))
    unfold lv_args
    rw [svm_cat]
    unfold sEn at h
    by_cases hc : w.category = 2
    · rw [if_pos hc] at h ⊢
      match i, h with
      | 0, h =>
        have : w = v := by simpa using h
        subst this
        exact List.mem_cons_self
      | 1, h => simp at h
      | i + 2, h =>
        have := sEn_in (G := G) vs (n - 2) (k + 2) i v (by simpa using h)
        rw [show k + 2 + i = k + (i + 2) by omega] at this
        exact List.mem_cons_of_mem _ this
    · rw [if_neg hc] at h ⊢
      match i, h with
      | 0, h =>
        have : w = v := by simpa using h
        subst this
        exact List.mem_cons_self
      | i + 1, h =>
        have := sEn_in (G := G) vs (n - 1) (k + 1) i v (by simpa using h)
        rw [show k + 1 + i = k + (i + 1) by omega] at this
        exact List.mem_cons_of_mem _ this
