/-! ARRAYS, and what is made -/
section R4
variable {G : sG} {l : Launch} {d : Nat} {y : MethodName} {cc : ByteArray} {mL : Nat} {ret : Option FieldType} {M0 : sMem} {r : Option Value} {M' : sMem} {pc pc2 : Nat} {ls : List (Option Value)} {st st2 : List Value} {M : sMem} {γ : Type} {K : γ → Prop}
/-- an instruction that reads the memory -/
theorem sX_rd {k : Option γ} (h : ∀ {p : Program} {e : Env} {R : Room} {s : State} {m : MethodId} {args : Array Value} {below : List Frame} {meth : Method} {c : Code} {H : Heap} {locs : List Loc} {cells slots : Nat} {Q : State → Prop} {lsM : Array Slot}, sAt G y cc mL ret M0 p s m args meth c → sRel G M H → va_S (sA G) s.heap H locs → W p l e R s m args below meth c H locs cells slots Q (F0 m pc2 lsM (st2.map (svm G))) → W p l e R s m args below meth c H locs cells slots Q (F0 m pc lsM (st.map (svm G))))
    (kk : sX G l d y cc mL ret M0 r M' pc2 ls st2 M k K) : sX G l d y cc mL ret M0 r M' pc ls st M k K := by
  intro x h1 h2 h3
  obtain ⟨a1, a2, a4⟩ := kk x h1 h2 h3
  exact ⟨a1, a2, fun p e s m args below meth c H locs lsM hA b1 b2 hR hS hL => h hA hR hS (a4 p e s m args below meth c H locs lsM hA b1 b2 hR hS hL)⟩
theorem sAr_cell {c a n : Nat} (h : sAr c M a = some n) (hc : ¬ c < 13) : (sws G M)[a]? = some (sad G a, .inl (G.2.1 c, n, sarr G M a c)) := by
  have := sws_get (G := G) (sAr_some h)
  rwa [scell_arr G M a hc] at this
theorem vp_of {i : Int32} {n : Nat} (h : ¬ i < 0 ∧ i.toNatClampNeg < n) : vp_in i n := fun q => q.elim h.1 (fun z => absurd h.2 (Nat.not_lt.mpr z))
theorem sX_iaload {a : Nat} {i : Int32} {f : Int32 → Option γ} (hd : decode cc pc = .ok (.iaload, 1)) (kk : ∀ x, sX G l d y cc mL ret M0 r M' (pc + 1) ls (.int x :: st) M (f x) K) : sX G l d y cc mL ret M0 r M' pc ls (.int i :: .ref a :: st) M ((ldI 14 M a i).bind f) K := by
  unfold ldI
  cases hn : sAr 14 M a with
  | none => exact sX_none
  | some n =>
    show sX G l d y cc mL ret M0 r M' pc ls _ M (Option.bind (ite _ _ _) f) K
    split
    · rename_i hi
      exact sX_rd (fun hA hR hS w => va_iald hA.1 hA.2.1 hA.2.2.2.2.2.2.2.2.1.1 hR.2.2.1 a 1 (sAr_cell hn (by decide)) rfl (vp_of hi) hd w) (kk _)
    · exact sX_none
theorem sX_caload {a : Nat} {i : Int32} {f : Int32 → Option γ} (hd : decode cc pc = .ok (.caload, 1)) (kk : ∀ x, sX G l d y cc mL ret M0 r M' (pc + 1) ls (.int x :: st) M (f x) K) : sX G l d y cc mL ret M0 r M' pc ls (.int i :: .ref a :: st) M ((ldI 13 M a i).bind f) K := by
  unfold ldI
  cases hn : sAr 13 M a with
  | none => exact sX_none
  | some n =>
    show sX G l d y cc mL ret M0 r M' pc ls _ M (Option.bind (ite _ _ _) f) K
    split
    · rename_i hi
      exact sX_rd (fun hA hR hS w => va_cald hA.1 hA.2.1 hA.2.2.2.2.2.2.2.2.1.1 hR.2.2.1 a 0 (sAr_cell hn (by decide)) rfl (vp_of hi) hd w) (kk _)
    · exact sX_none
theorem sX_baload {a : Nat} {i : Int32} {f : Int32 → Option γ} (hd : decode cc pc = .ok (.baload, 1)) (kk : ∀ x, sX G l d y cc mL ret M0 r M' (pc + 1) ls (.int x :: st) M (f x) K) : sX G l d y cc mL ret M0 r M' pc ls (.int i :: .ref a :: st) M ((ldI 16 M a i).bind f) K := by
  unfold ldI
  cases hn : sAr 16 M a with
  | none => exact sX_none
  | some n =>
    show sX G l d y cc mL ret M0 r M' pc ls _ M (Option.bind (ite _ _ _) f) K
    split
    · rename_i hi
      exact sX_rd (fun hA hR hS w => va_zald hA.1 hA.2.1 hA.2.2.2.2.2.2.2.2.1.1 hR.2.2.1 a 3 (sAr_cell hn (by decide)) rfl (vp_of hi) hd w) (kk _)
    · exact sX_none
theorem sX_laload {a : Nat} {i : Int32} {f : Int64 → Option γ} (hd : decode cc pc = .ok (.laload, 1)) (kk : ∀ x, sX G l d y cc mL ret M0 r M' (pc + 1) ls (.long x :: st) M (f x) K) : sX G l d y cc mL ret M0 r M' pc ls (.int i :: .ref a :: st) M ((ldJ M a i).bind f) K := by
  unfold ldJ
  cases hn : sAr 15 M a with
  | none => exact sX_none
  | some n =>
    show sX G l d y cc mL ret M0 r M' pc ls _ M (Option.bind (ite _ _ _) f) K
    split
    · rename_i hi
      exact sX_rd (fun hA hR hS w => va_lald hA.1 hA.2.1 hA.2.2.2.2.2.2.2.2.1.1 hR.2.2.1 a 2 (sAr_cell hn (by decide)) rfl (vp_of hi) hd w) (kk _)
    · exact sX_none
theorem sX_aaload {a c : Nat} {i : Int32} {f : Option Nat → Option γ} (hc : c = 17 ∨ c = 18) (hd : decode cc pc = .ok (.aaload, 1)) (kk : ∀ x, sX G l d y cc mL ret M0 r M' (pc + 1) ls (va_rf x :: st) M (f x) K) : sX G l d y cc mL ret M0 r M' pc ls (.int i :: .ref a :: st) M ((ldR c M a i).bind f) K := by
  unfold ldR
  cases hn : sAr c M a with
  | none => exact sX_none
  | some n =>
    show sX G l d y cc mL ret M0 r M' pc ls _ M (Option.bind (ite _ _ _) f) K
    split
    · rename_i hi
      refine sX_rd (fun hA hR hS w => ?_) (kk _)
      rw [List.map_cons, svm_rf] at w
      rcases hc with rfl | rfl
      · exact va_aldq hA.1 hA.2.1 hA.2.2.2.2.2.2.2.2.1.1 hR.2.2.1 a 4 (sAr_cell hn (by decide)) rfl (vp_of hi) hd w
      · have ha := sAr_cell (G := G) hn (by decide)
        have ht : (sTys G)[5]? = some (G.2.1 18, .array .long) := rfl
        have hin := vp_of hi
        exact W.aald (v := va_rf ((M.2.2.2 a i.toNatClampNeg).map (sad G))) (ty := .array .long) hA.1 hA.2.1 (hR.2.2.1 a _ ha) ((hA.2.2.2.2.2.2.2.2.1.1.2 5 _ ht).1 n (fun j => va_rf ((M.2.2.2 a j).map (sad G)))) rfl (fun q => by cases q) (by show ¬ (i < 0 ∨ (arrV _ _ _).slots.size ≤ _); rw [arrV_size]; exact hin) (by show (arrV _ _ _).slots[_]? = _; rw [arrV_read _ _ hi.2]) rfl rfl hd w
    · exact sX_none
def ldN (c : Nat) (M : sMem) (a : Nat) (i : Int32) : Option Nat := (ldR c M a i).bind id
theorem sX_aaloadN {a c : Nat} {i : Int32} {f : Nat → Option γ} (hc : c = 17 ∨ c = 18) (hd : decode cc pc = .ok (.aaload, 1)) (kk : ∀ x, sX G l d y cc mL ret M0 r M' (pc + 1) ls (.ref x :: st) M (f x) K) : sX G l d y cc mL ret M0 r M' pc ls (.int i :: .ref a :: st) M ((ldN c M a i).bind f) K := by
  have e : (ldN c M a i).bind f = (ldR c M a i).bind (fun o => o.bind f) := by unfold ldN; rw [Option.bind_assoc]; rfl
  rw [e]
  refine sX_aaload hc hd (fun x => ?_)
  cases x with
  | none => exact sX_none
  | some q => exact kk q
theorem sX_alen {a c : Nat} {f : Int32 → Option γ} (hc : ¬ c < 13) (hc2 : c < 19) (hd : decode cc pc = .ok (.arraylength, 1)) (kk : ∀ x, sX G l d y cc mL ret M0 r M' (pc + 1) ls (.int x :: st) M (f x) K) : sX G l d y cc mL ret M0 r M' pc ls (.ref a :: st) M ((aL c M a).bind f) K := by
  unfold aL
  cases hn : sAr c M a with
  | none => exact sX_none
  | some n =>
    refine sX_rd (fun hA hR hS w => ?_) (kk (Int32.ofNat n))
    have ht : ∃ ty, (sTys G)[c - 13]? = some (G.2.1 c, ty) := by
      have : c = 13 ∨ c = 14 ∨ c = 15 ∨ c = 16 ∨ c = 17 ∨ c = 18 := by omega
      rcases this with rfl | rfl | rfl | rfl | rfl | rfl <;> exact ⟨_, rfl⟩
    obtain ⟨ty, ht⟩ := ht
    exact va_alen hA.1 hA.2.1 hA.2.2.2.2.2.2.2.2.1.1 hR.2.2.1 a (c - 13) (sAr_cell hn hc) ht rfl hd w
/-- one cell of an array changes -/
theorem sws_arr {c a n : Nat} {M1 : sMem} {x : (Nat → Int32) ⊕ (Nat → Int64) ⊕ (Nat → UInt32) ⊕ (Nat → UInt64) ⊕ (Nat → Option Nat)} (h : sAr c M a = some n) (hc : ¬ c < 13) (hs : M1.1 = M.1) (ho : ∀ (b : Nat) (q : Nat × Nat), b ≠ a → scell G M1 b q = scell G M b q) (hx : sarr G M1 a c = x) : sws G M1 = (sws G M).set a (sad G a, .inl (G.2.1 c, n, x)) := by
  refine sws_set hs (sAr_some h) ho ?_
  rw [scell_arr G M1 a hc, hx]
theorem upd_up2 (f : Nat → Nat → Int32) (a i : Nat) (x : Int32) : up2 f a i x a = upd (f a) i x := by
  rw [up2_same]; funext j; unfold upd; rfl
theorem updL_up2 (f : Nat → Nat → Int64) (a i : Nat) (x : Int64) : up2 f a i x a = vp_updL (f a) i x := by
  rw [up2_same]; funext j; unfold vp_updL; rfl
theorem sX_iastore {a : Nat} {i x : Int32} {f : sMem → Option γ} (hd : decode cc pc = .ok (.iastore, 1)) (hd0 : 1 ≤ d) (kk : ∀ M1, sX G l d y cc mL ret M0 r M' (pc + 1) ls st M1 (f M1) K) : sX G l d y cc mL ret M0 r M' pc ls (.int x :: .int i :: .ref a :: st) M ((stI M a i x).bind f) K := by
  unfold stI
  cases hn : sAr 14 M a with
  | none => exact sX_none
  | some n =>
    show sX G l d y cc mL ret M0 r M' pc ls _ M (Option.bind (ite _ _ _) f) K
    split
    · rename_i hi
      refine sX_step (M1 := wrI M a i.toNatClampNeg x) (dc := 0) (ds := 0) rfl rfl (fun hA hL hR hD hS _ _ _ _ w => ?_) hd0 (kk _)
      rw [sws_arr (M1 := wrI M a i.toNatClampNeg x) hn (by decide) rfl (fun b q h => wrI_cel b q h) (x := .inl (upd (M.2.1 a) i.toNatClampNeg x)) (congrArg Sum.inl (upd_up2 _ _ _ _))] at w
      exact va_iast hA.1 hA.2.1 hA.2.2.2.2.2.2.2.2.1.1 hR.2.2.1 hD hS a 1 (sAr_cell hn (by decide)) rfl (vp_of hi) hd (fun H1 locs1 hP1 _ hS1 => w H1 locs1 hP1 hS1)
    · exact sX_none
theorem sX_castore {a : Nat} {i x : Int32} {f : sMem → Option γ} (hd : decode cc pc = .ok (.castore, 1)) (hd0 : 1 ≤ d) (kk : ∀ M1, sX G l d y cc mL ret M0 r M' (pc + 1) ls st M1 (f M1) K) : sX G l d y cc mL ret M0 r M' pc ls (.int x :: .int i :: .ref a :: st) M ((stC M a i x).bind f) K := by
  unfold stC
  cases hn : sAr 13 M a with
  | none => exact sX_none
  | some n =>
    show sX G l d y cc mL ret M0 r M' pc ls _ M (Option.bind (ite _ _ _) f) K
    split
    · rename_i hi
      refine sX_step (M1 := wrI M a i.toNatClampNeg (vp_nar .char x)) (dc := 0) (ds := 0) rfl rfl (fun hA hL hR hD hS _ _ _ _ w => ?_) hd0 (kk _)
      rw [sws_arr (M1 := wrI M a i.toNatClampNeg (vp_nar .char x)) hn (by decide) rfl (fun b q h => wrI_cel b q h) (x := .inl (upd (M.2.1 a) i.toNatClampNeg (vp_nar .char x))) (congrArg Sum.inl (upd_up2 _ _ _ _))] at w
      exact va_cast hA.1 hA.2.1 hA.2.2.2.2.2.2.2.2.1.1 hR.2.2.1 hD hS a 0 (sAr_cell hn (by decide)) rfl (vp_of hi) hd (fun H1 locs1 hP1 _ hS1 => w H1 locs1 hP1 hS1)
    · exact sX_none
theorem sX_bastore {a : Nat} {i x : Int32} {f : sMem → Option γ} (hd : decode cc pc = .ok (.bastore, 1)) (hd0 : 1 ≤ d) (kk : ∀ M1, sX G l d y cc mL ret M0 r M' (pc + 1) ls st M1 (f M1) K) : sX G l d y cc mL ret M0 r M' pc ls (.int x :: .int i :: .ref a :: st) M ((stZ M a i x).bind f) K := by
  unfold stZ
  cases hn : sAr 16 M a with
  | none => exact sX_none
  | some n =>
    show sX G l d y cc mL ret M0 r M' pc ls _ M (Option.bind (ite _ _ _) f) K
    split
    · rename_i hi
      refine sX_step (M1 := wrI M a i.toNatClampNeg (vp_nar .boolean x)) (dc := 0) (ds := 0) rfl rfl (fun hA hL hR hD hS _ _ _ _ w => ?_) hd0 (kk _)
      rw [sws_arr (M1 := wrI M a i.toNatClampNeg (vp_nar .boolean x)) hn (by decide) rfl (fun b q h => wrI_cel b q h) (x := .inl (upd (M.2.1 a) i.toNatClampNeg (vp_nar .boolean x))) (congrArg Sum.inl (upd_up2 _ _ _ _))] at w
      exact va_zast hA.1 hA.2.1 hA.2.2.2.2.2.2.2.2.1.1 hR.2.2.1 hD hS a 3 (sAr_cell hn (by decide)) rfl (vp_of hi) hd (fun H1 locs1 hP1 _ hS1 => w H1 locs1 hP1 hS1)
    · exact sX_none
theorem sX_lastore {a : Nat} {i : Int32} {x : Int64} {f : sMem → Option γ} (hd : decode cc pc = .ok (.lastore, 1)) (hd0 : 1 ≤ d) (kk : ∀ M1, sX G l d y cc mL ret M0 r M' (pc + 1) ls st M1 (f M1) K) : sX G l d y cc mL ret M0 r M' pc ls (.long x :: .int i :: .ref a :: st) M ((stJ M a i x).bind f) K := by
  unfold stJ
  cases hn : sAr 15 M a with
  | none => exact sX_none
  | some n =>
    show sX G l d y cc mL ret M0 r M' pc ls _ M (Option.bind (ite _ _ _) f) K
    split
    · rename_i hi
      refine sX_step (M1 := wrJ M a i.toNatClampNeg x) (dc := 0) (ds := 0) rfl rfl (fun hA hL hR hD hS _ _ _ _ w => ?_) hd0 (kk _)
      rw [sws_arr (M1 := wrJ M a i.toNatClampNeg x) hn (by decide) rfl (fun b q h => wrJ_cel b q h) (x := .inr (.inl (vp_updL (M.2.2.1 a) i.toNatClampNeg x))) (congrArg (fun z => Sum.inr (Sum.inl z)) (updL_up2 _ _ _ _))] at w
      exact va_last hA.1 hA.2.1 hA.2.2.2.2.2.2.2.2.1.1 hR.2.2.1 hD hS a 2 (sAr_cell hn (by decide)) rfl (vp_of hi) hd (fun H1 locs1 hP1 _ hS1 => w H1 locs1 hP1 hS1)
    · exact sX_none
theorem up2_map (f : Nat → Nat → Option Nat) (a i x : Nat) (g : Nat → Nat) : (fun j => (up2 f a i (some x) a j).map g) = va_up (fun j => (f a j).map g) i (some (g x)) := by
  rw [up2_same]
  funext j
  unfold va_up
  by_cases h : j = i <;> simp [h]
theorem sX_aastore {a x c e : Nat} {i : Int32} {f : sMem → Option γ} (hce : (c = 17 ∧ e = 8) ∨ (c = 18 ∧ e = 15)) (hd : decode cc pc = .ok (.aastore, 1)) (hd0 : 1 ≤ d) (kk : ∀ M1, sX G l d y cc mL ret M0 r M' (pc + 1) ls st M1 (f M1) K) : sX G l d y cc mL ret M0 r M' pc ls (.ref x :: .int i :: .ref a :: st) M ((stR c e M a i x).bind f) K := by
  unfold stR
  cases hn : sAr c M a with
  | none => exact sX_none
  | some n =>
    cases hx : M.1[x]? with
    | none => exact sX_none
    | some q =>
      obtain ⟨q1, q2⟩ := q
      show sX G l d y cc mL ret M0 r M' pc ls _ M (Option.bind (ite _ _ _) f) K
      split
      · rename_i hi
        obtain ⟨rfl, hi⟩ := hi
        refine sX_step (M1 := wrR M a i.toNatClampNeg (some x)) (dc := 0) (ds := 0) rfl rfl (fun hA hL hR hD hS _ _ _ _ w => ?_) hd0 (kk _)
        rcases hce with ⟨rfl, he⟩ | ⟨rfl, he⟩
        · dsimp only at he
          subst he
          rw [sws_arr (M1 := wrR M a i.toNatClampNeg (some x)) hn (by decide) rfl (fun b q h => wrR_cel b q h) (x := .inr (.inr (.inr (.inr (va_up (fun j => (M.2.2.2 a j).map (sad G)) i.toNatClampNeg (some (sad G x))))))) (congrArg (fun z => Sum.inr (Sum.inr (Sum.inr (Sum.inr z)))) (up2_map _ _ _ _ _))] at w
          have hcx := sws_get (G := G) hx
          rw [scell_obj G M x (by decide)] at hcx
          exact va_astq hA.1 hA.2.1 hA.2.2.2.2.2.2.2.2.1.1 hR.2.2.1 hD hS a 4 x 8 (r := (RX8, TX8, 8)) (sAr_cell hn (by decide)) rfl hcx rfl (vp_of hi) hd (fun H1 locs1 hP1 _ hS1 => w H1 locs1 hP1 hS1)
        · dsimp only at he
          subst he
          rw [sws_arr (M1 := wrR M a i.toNatClampNeg (some x)) hn (by decide) rfl (fun b q h => wrR_cel b q h) (x := .inr (.inr (.inr (.inr (va_up (fun j => (M.2.2.2 a j).map (sad G)) i.toNatClampNeg (some (sad G x))))))) (congrArg (fun z => Sum.inr (Sum.inr (Sum.inr (Sum.inr z)))) (up2_map _ _ _ _ _))] at w
          have hcx := sws_get (G := G) hx
          rw [scell_arr G M x (by decide)] at hcx
          have hca := sAr_cell (G := G) hn (by decide)
          have hKw := hA.2.2.2.2.2.2.2.2.1
          obtain ⟨comp, cA, kA, g1, g2, g3, g4, g5⟩ := arrayOverA_spec hKw.2.2.2.1
          have ht : (sTys G)[5]? = some (G.2.1 18, .array .long) := rfl
          have ht2 : (sTys G)[2]? = some (G.2.1 15, .long) := rfl
          have e18 : cA = G.2.1 18 := Option.some.inj (g5.symm.trans (hKw.1.2 5 _ ht).2)
          have e15 : comp = G.2.1 15 := Option.some.inj (g1.symm.trans (hKw.1.2 2 _ ht2).2)
          subst e18
          subst e15
          obtain ⟨kC, hkC, -⟩ := Vm.findClass_spec g1
          have g1v : _ = some (vp_cell (G.2.1 15) (q2, sarr G M x 15)) := hR.2.2.1 x _ hcx
          refine W.aast hA.1 hA.2.1 (hR.2.2.1 a _ hca) (fun q h => by cases h) (fun h => by cases h) g3 g4 rfl hkC ⟨hi.1, by show _ < (arrV _ _ _).slots.size; rw [arrV_size]; exact hi.2⟩ g1v (fun q h => by cases h) hkC (va_asg _ _) rfl rfl hd fun H1 e z oq => ?_
          refine w H1 _ (va_P.set hR.2.2.1 hD hca ?_ oq) (hS.put z oq (hD.2 a _ hca))
          show H1[sad G a]? = some (vp_cell _ _)
          rw [e]
          show some ((vp_cell _ (n, .inr (.inr (.inr (.inr (fun j => (M.2.2.2 a j).map (sad G))))))).setSlot _ _) = _
          rw [vp_cell_q, vp_cell_q, arrV_store]
          congr 2
          funext q
          by_cases hq : q = i.toNatClampNeg
          · subst hq
            simp [updV, va_up, va_rf]
          · simp [updV, va_up, hq]
      · exact sX_none
end R4
