/-! THE CLAIM OUT OF ONE WALK OF THE LAW'S BODY. Your part is whole_start (and what it stands on); all else here is the same for every law, but numbers. -/
def R_law : String := "CenturyGatesLaw"
def lw_P (b : Addr) (xs : List Int32) (args : Array Value) (s : State) : Prop := args = #[.ref b] ∧ s.IntsAt b xs ∧ xs.length ≤ 3072 ∧ (Jvm.Cond.and given_1 narrow_1).before args s = true
def lw_Q (_ : Array Value) (s : State) (o : Outcome) (t : State) : Prop := o = .returned (some (.int 1)) ∧ Framed s o t [] 600000 7302250
def lw_Z (below : List Frame) (a : Array Value) (s : State) : State → Prop := fun t => ∃ o, t.status = .running ∧ Ended t below o ∧ lw_Q a s o t
/-- the law's own end, with 1 on the stack, nothing written that was there before, its room as the claim has it -/
theorem lw_ret {p : Program} {l : Launch} {e : Env} {s : State} {m : MethodId} {below : List Frame} {meth : Method} {c : Code} {b : Nat} (hx : p.tables.exec = Jvm.exec) (hb : c.code = code) (hr : meth.sig.returnType = ret) (hlocks : meth.locks = false) {pc : Nat} {H : Heap} {ls : Array Slot} (hdg : decode code pc = .ok (.ireturn, 1)) : W p l e room_1 s m #[Value.ref b] below meth c H [] 600000 7302250 (lw_Z below #[Value.ref b] s) (F0 m pc ls [.int 1]) := by
  intro T hT X
  obtain ⟨fs, hret, hrun, hended, hW, hframe⟩ := X.leave (v := some (.int 1)) (hlocks := hlocks) (fun h => by rw [hr] at h; cases h)
  have hmeth' : T.vm.method? m = some meth := X.method'
  refine ⟨T.setFrames fs, ?_, .returned (some (.int 1)), hrun, hended, rfl, ⟨_, rfl⟩, hW, hframe⟩
  jvm_step X.here [X.here.top, hx, hb, hdg, hmeth', hr, ret, narrow_b1]
  (try refine ⟨rfl, ?_⟩); (try refine ⟨rfl, ?_⟩)
  first | (intro acts; rw [hret _ acts rfl rfl rfl]) | rw [hret _ _ rfl rfl rfl]
  exact Steps.refl _
/-- what holds at the law's entry: the machine, the code, the tables' words (any of lw_tbl by 'hts w (by decide +kernel)'), the script of L ints xs at the cell b, what the Statement gives of the start (any of its parts by flat_of_before) -/
def lw_At (p : Program) (s : State) (m : MethodId) (meth : Method) (c : Code) (b L : Nat) (xs : Nat → Int32) : Prop :=
  p.tables.exec = Jvm.exec ∧ c.code = code ∧ meth.sig.returnType = ret ∧ c.maxLocals = 4 ∧ s.vm.findClass R_law = some m.cls ∧ (∀ w ∈ lw_tbl, w.before #[Value.ref b] s = true) ∧ va_X b L xs s s.heap ∧ b < s.heap.size ∧ meth.locks = false ∧ (Jvm.Cond.and given_1 narrow_1).before #[Value.ref b] s = true
set_option maxRecDepth 100000 in
theorem s_flat : (flatC (Jvm.Cond.and given_1 narrow_1)).drop 13 = sChars.zipIdx.map (fun q => Cond.eq (.elem (.field (.string "CenturyGates$Tape" 88) "java/lang/String" "value" "[B") (.int (Int32.ofNat q.2))) (.int q.1)) := rfl
theorem s_ints (j : Nat) (h : j < sChars.length) : Cond.eq (.elem (.field (.string "CenturyGates$Tape" 88) "java/lang/String" "value" "[B") (.int (Int32.ofNat j))) (.int (sChars.getD j 0)) ∈ flatC (Jvm.Cond.and given_1 narrow_1) := by
  have h2 : Cond.eq (.elem (.field (.string "CenturyGates$Tape" 88) "java/lang/String" "value" "[B") (.int (Int32.ofNat j))) (.int (sChars.getD j 0)) ∈ (flatC (Jvm.Cond.and given_1 narrow_1)).drop 13 := by
    rw [s_flat]
    refine List.mem_map.mpr ⟨(sChars.getD j 0, j), ?_, rfl⟩
    rw [List.mem_zipIdx_iff_getElem?]
    show sChars[j]? = some (sChars.getD j 0)
    rw [List.getD_eq_getElem?_getD, List.getElem?_eq_getElem h]; rfl
  exact List.mem_of_mem_drop h2
theorem s_len : sChars.length = 204 := by decide +kernel
theorem s_arr {s : State} {cA comp : ClassId} {k : Class} {ty : FieldType} (h2 : s.vm.classes[cA]? = some k) (h3 : k.kind = .array comp ty) : ArrOfT s cA ty := fun n z => ⟨fun k h => (by cases h), k, h2, comp, h3⟩
set_option maxRecDepth 100000 in
set_option maxHeartbeats 4000000 in
theorem s_world {s : State} {b L : Nat} {xs : Nat → Int32} (hts : ∀ w ∈ lw_tbl, w.before #[Value.ref b] s = true) (hX : va_X b L xs s s.heap) (hbl : b < s.heap.size) (hgv : (Jvm.Cond.and given_1 narrow_1).before #[Value.ref b] s = true) : ∃ G : sG, G.2.2.1 = s.heap ∧ G.2.2.2.1 = b ∧ G.2.2.2.2.1 = L ∧ G.2.2.2.2.2.1 = xs ∧ sK G s := by
  have hTb : ∀ w ∈ sTb, w.before #[Value.ref b] s = true := sTb_lw hts
  obtain ⟨c0, i0, k0⟩ := u_known (C := RX0) (T := TX0) (N := 7) (n := 7) hTb sIn_RX0 (hTb _ (sTm_2 (List.mem_of_getElem? (i := 6) rfl) rfl))
  obtain ⟨c1, i1, k1⟩ := u_known (C := RX1) (T := TX1) (N := 10) (n := 10) hTb sIn_RX1 (hTb _ (sTm_1 (List.mem_of_getElem? (i := 106) rfl) rfl))
  obtain ⟨c2, i2, k2⟩ := u_known (C := RX2) (T := TX2) (N := 5) (n := 5) hTb sIn_RX2 (hTb _ (sTm_2 (List.mem_of_getElem? (i := 12) rfl) rfl))
  obtain ⟨c3, i3, k3⟩ := u_known (C := RX3) (T := TX3) (N := 6) (n := 6) hTb sIn_RX3 (hTb _ (sTm_2 (List.mem_of_getElem? (i := 101) rfl) rfl))
  obtain ⟨c4, i4, k4⟩ := u_known (C := RX4) (T := TX4) (N := 5) (n := 5) hTb sIn_RX4 (hTb _ (sTm_2 (List.mem_of_getElem? (i := 38) rfl) rfl))
  obtain ⟨c5, i5, k5⟩ := u_known (C := RX5) (T := TX5) (N := 2) (n := 2) hTb sIn_RX5 (hTb _ (sTm_1 (List.mem_of_getElem? (i := 75) rfl) rfl))
  obtain ⟨c6, i6, k6⟩ := u_known (C := RX6) (T := TX6) (N := 2) (n := 2) hTb sIn_RX6 (hTb _ (sTm_1 (List.mem_of_getElem? (i := 81) rfl) rfl))
  obtain ⟨c7, i7, k7⟩ := u_known (C := RX7) (T := TX7) (N := 2) (n := 2) hTb sIn_RX7 (hTb _ (sTm_2 (List.mem_of_getElem? (i := 63) rfl) rfl))
  obtain ⟨c8, i8, k8⟩ := u_known (C := RX8) (T := TX8) (N := 8) (n := 8) hTb sIn_RX8 (hTb _ (sTm_1 (List.mem_of_getElem? (i := 199) rfl) rfl))
  obtain ⟨c9, i9, k9⟩ := u_known (C := RX9) (T := TX9) (N := 4) (n := 4) hTb sIn_RX9 (hTb _ (sTm_1 (List.mem_of_getElem? (i := 112) rfl) rfl))
  obtain ⟨c10, i10, k10⟩ := u_known (C := RX10) (T := TX10) (N := 10) (n := 10) hTb sIn_RX10 (hTb _ (sTm_1 (List.mem_of_getElem? (i := 33) rfl) rfl))
  obtain ⟨c11, i11, k11⟩ := u_known (C := RX11) (T := TX11) (N := 20) (n := 20) hTb sIn_RX11 (hTb _ (sTm_1 (List.mem_of_getElem? (i := 25) rfl) rfl))
  obtain ⟨c12, i12, k12⟩ := u_known (C := RX12) (T := TX12) (N := 127) (n := 127) hTb sIn_RX12 (hTb _ (sTm_5 (List.mem_of_getElem? (i := 198) rfl) rfl))
  obtain ⟨a13, ka13, co13, fa13, ga13, ha13⟩ := Cond.arrayClass_spec (hTb _ (show Cond.arrayClass .char ∈ sTb from (sTm_7 (List.mem_of_getElem? (i := 105) rfl) rfl)))
  obtain ⟨a14, ka14, co14, fa14, ga14, ha14⟩ := Cond.arrayClass_spec (hTb _ (show Cond.arrayClass .int ∈ sTb from (sTm_1 (List.mem_of_getElem? (i := 73) rfl) rfl)))
  obtain ⟨a15, ka15, co15, fa15, ga15, ha15⟩ := Cond.arrayClass_spec (hTb _ (show Cond.arrayClass .long ∈ sTb from (sTm_2 (List.mem_of_getElem? (i := 61) rfl) rfl)))
  obtain ⟨a16, ka16, co16, fa16, ga16, ha16⟩ := Cond.arrayClass_spec (hTb _ (show Cond.arrayClass .boolean ∈ sTb from (sTm_7 (List.mem_of_getElem? (i := 106) rfl) rfl)))
  have hov : va_AO "CenturyGates$State" s := va_AO.of (hts _ (lwm_2 (List.mem_of_getElem? (i := 4) rfl)))
  obtain ⟨co17, a17, ka17, f17, g17, h17, i17, j17⟩ := Cond.arrayOver_spec hov
  have hoa : sAOA s := hts (Cond.arrayOver (.array .long)) (lwm_2 (List.mem_of_getElem? (i := 44) rfl))
  obtain ⟨co18, a18, ka18, f18, g18, h18, i18, j18⟩ := arrayOverA_spec hoa
  have hfl := flat_of_before _ hgv
  have hA : ∀ a : Nat, a < s.heap.size → ¬ (fun q : Nat => s.heap.size ≤ q) a := fun a h => Nat.not_le.mpr h
  obtain ⟨adK, adV, hS, hev⟩ := vk_Sof (args := #[Value.ref b]) (s := s) (N := 1) (tm := fun _ => .string "CenturyGates$Tape" 88) (len := [sChars.length]) (byt := [sChars]) (A := fun q : Nat => s.heap.size ≤ q)
    (fun i hi => by have e : i = 0 := by omega
                    subst e
                    show sChars.length < 2 ^ 31
                    rw [s_len]; decide)
    (fun i hi => hfl _ (by decide +kernel)) (fun i hi => hfl _ (by decide +kernel)) (fun i hi => hfl _ (by decide +kernel))
    (fun i hi => by have e : i = 0 := by omega
                    subst e
                    show (Cond.eq _ (.int (Int32.ofNat sChars.length))).before _ s = true
                    rw [s_len]
                    exact hfl _ (by decide +kernel))
    (fun i hi j hj => by have e : i = 0 := by omega
                         subst e
                         exact hfl _ (s_ints j hj))
    (fun i j hi hj hij => absurd (show i = j by omega) hij) hA
  have hv0 := hev 0 (by decide)
  have hZ := va_Zof (A := fun q : Nat => s.heap.size ≤ q) (hts (Cond.laysStatic "java/lang/String" "COMPACT_STRINGS" "Z") (lwm_3 (List.mem_of_getElem? (i := 5) rfl))) (hts (Cond.initialized "java/lang/String") (lwm_1 (List.mem_of_getElem? (i := 14) rfl))) (va_eqi (z := 1) (hfl _ (by decide +kernel))) hA
  obtain ⟨fm, hZ2⟩ : ∃ fm : Option Nat, va_Z "jdk/internal/util/Preconditions" "SIOOBE_FORMATTER" "Ljava/util/function/BiFunction;" (va_rf fm) (fun q : Nat => s.heap.size ≤ q) s s.heap := by
    rcases va_Zqof (A := fun q : Nat => s.heap.size ≤ q) (hts (Cond.laysStatic "jdk/internal/util/Preconditions" "SIOOBE_FORMATTER" "Ljava/util/function/BiFunction;") (lwm_3 (List.mem_of_getElem? (i := 21) rfl))) (hts (Cond.initialized "jdk/internal/util/Preconditions") (lwm_1 (List.mem_of_getElem? (i := 16) rfl))) (hfl _ (by decide +kernel)) hA with h | ⟨t, h⟩
    · exact ⟨none, h⟩
    · exact ⟨some t, h⟩
  refine ⟨((fun k => if k = 0 then c0 else if k = 1 then c1 else if k = 2 then c2 else if k = 3 then c3 else if k = 4 then c4 else if k = 5 then c5 else if k = 6 then c6 else if k = 7 then c7 else if k = 8 then c8 else if k = 9 then c9 else if k = 10 then c10 else if k = 11 then c11 else c12, fun k => if k = 0 then i0 else if k = 1 then i1 else if k = 2 then i2 else if k = 3 then i3 else if k = 4 then i4 else if k = 5 then i5 else if k = 6 then i6 else if k = 7 then i7 else if k = 8 then i8 else if k = 9 then i9 else if k = 10 then i10 else if k = 11 then i11 else i12), (fun k => if k = 13 then a13 else if k = 14 then a14 else if k = 15 then a15 else if k = 16 then a16 else if k = 17 then a17 else a18), s.heap, b, L, xs, adK 0, adV 0, fm), rfl, rfl, rfl, rfl, ?_⟩
  refine ⟨⟨?_, ?_⟩, fun w hw hn => va_Nw.of (by cases w <;> first | (simp [sNest] at hn; done) | rfl) (hts w hw), hov, hoa, hX, hbl, vk_R.of (hts (Cond.stringRef "CenturyGates$Tape" 88 sText) (lwm_2 (List.mem_of_getElem? (i := 235) rfl))) hv0, ⟨fun i hi => ?_, fun i j hi hj _ => by omega⟩, hZ, hZ2⟩
  · intro k q hq
    match k, hq with
    | 0, hq => cases hq; exact k0
    | 1, hq => cases hq; exact k1
    | 2, hq => cases hq; exact k2
    | 3, hq => cases hq; exact k3
    | 4, hq => cases hq; exact k4
    | 5, hq => cases hq; exact k5
    | 6, hq => cases hq; exact k6
    | 7, hq => cases hq; exact k7
    | 8, hq => cases hq; exact k8
    | 9, hq => cases hq; exact k9
    | 10, hq => cases hq; exact k10
    | 11, hq => cases hq; exact k11
    | 12, hq => cases hq; exact k12
    | k + 13, hq => simp [vwCl] at hq
  · intro k q hq
    match k, hq with
    | 0, hq => cases hq; exact ⟨s_arr ga13 ha13, fa13⟩
    | 1, hq => cases hq; exact ⟨s_arr ga14 ha14, fa14⟩
    | 2, hq => cases hq; exact ⟨s_arr ga15 ha15, fa15⟩
    | 3, hq => cases hq; exact ⟨s_arr ga16 ha16, fa16⟩
    | 4, hq => cases hq; exact ⟨s_arr h17 i17, ka17, co17, h17, i17, f17, j17⟩
    | 5, hq => cases hq; exact ⟨s_arr h18 i18, j18⟩
    | k + 6, hq => simp [sTys] at hq
  · have e : i = 0 := by omega
    subst e
    exact hS.1 0 (by decide)
def sM0 : sMem := ([], fun _ _ => 0, fun _ _ => 0, fun _ _ => none)
/-- what is left to show: the law's computation answers 1, within the room -/
def LawTrue : Prop := ∀ G : sG, G.2.2.2.2.1 ≤ 3072 → ∃ M', f_L_law G sM0 = some (1, M') ∧ sLen M' ≤ 600000 ∧ sSlots M' ≤ 7302250
set_option maxHeartbeats 4000000 in
theorem whole_open (hlaw : LawTrue) {p : Program} {e : Env} {s : State} {m : MethodId} {below : List Frame} {meth : Method} {c : Code} (l : Launch) {b L : Nat} {xs : Nat → Int32} (hL : L ≤ 3072) (C0 : lw_At p s m meth c b L xs) : W p l e room_1 s m #[Value.ref b] below meth c s.heap [] 0 0 (lw_Z below #[Value.ref b] s) (entryFrame m ([Value.ref b] : List Value).toArray 4) := by
  obtain ⟨hx, hb, hr, hml, hown, hts, hX, hbl, hlocks, hgv⟩ := C0
  obtain ⟨G, hG1, hG2, hG3, hG4, hK⟩ := s_world hts hX hbl hgv
  obtain ⟨M', hf, hc, hs⟩ := hlaw G (by rw [hG3]; exact hL)
  have hsad : sad G sSCR = b := by rw [sad_scr, hG2]
  have hB : sB G = s.heap.size := by unfold sB; rw [hG1]
  have hsW := x_L_law G l sM0 (rvI 1) M' (fun z => z = (1, M')) (fun z hz => by rw [hz]; exact ⟨rfl, rfl⟩) (1, M') hf rfl (by omega)
  intro T hT X
  have hRm : s.hasRoom e.platform (sRoom 840 sM0 M') = true := by
    have h := X.room
    simp only [State.hasRoom, Bool.and_eq_true, decide_eq_true_eq] at h ⊢
    have r1 : (sRoom 840 sM0 M').locals = room_1.locals := rfl
    have r2 : (sRoom 840 sM0 M').frames ≤ room_1.frames := by show 840 ≤ 2048; decide
    have r3 : (sRoom 840 sM0 M').cells ≤ room_1.cells := by show sLen M' - 0 ≤ 600000; omega
    have r4 : (sRoom 840 sM0 M').slots ≤ room_1.slots := by show sSlots M' - 0 ≤ 7302250; omega
    obtain ⟨⟨⟨⟨h1, h2, h3, h4, h5, h6⟩, h7⟩, h8⟩, h9⟩ := h
    exact ⟨⟨⟨⟨by omega, by omega, by omega, by omega, by omega, h6⟩, by omega⟩, by omega⟩, h9⟩
  have X2 : Stand p l e (sRoom 840 sM0 M') s m #[Value.ref b] below meth c T [] 0 0 := { X with room := hRm }
  have hAt : sAt G yL_law cL_law 4 (some .boolean) sM0 p s m #[Value.ref b] meth c := ⟨hx, hb, hr, hml, hown, sTb_lw hts, hlocks, fun h => absurd h (by decide), hK, by rw [hB]; rfl, fun q _ => by rw [hG1]⟩
  have hrel : sRel G sM0 s.heap := ⟨by rw [hB]; rfl, by decide, fun k q h => by simp [sws, sM0] at h, fun q _ => by rw [hG1]⟩
  have hL : sLo G ((lg_sl [Value.ref b] ++ List.replicate (4 - (lg_sl [Value.ref b]).length) Slot.unset).toArray) 4 [some (.ref sSCR), none, none, none] := by
    refine sLo.of (lv_entry [Value.ref b] (n := 4) (Nat.le_of_ble_eq_true rfl)) (fun i v hi => ?_)
    have e1 := sEn_in (G := G) [.ref sSCR] 4 0 i v (by exact hi)
    rw [Nat.zero_add, List.map_cons, svm_ref, hsad] at e1
    exact e1
  have w := hsW.2.2 p e s m #[Value.ref b] below meth c s.heap [] _ hAt (Nat.le_refl _) (Nat.le_refl _) hrel va_S.rf hL
  rw [Nat.sub_self, Nat.sub_self] at w
  rw [lg_entry_eq]
  obtain ⟨t, a1, oc, b1, b2, b3, LL, b4, b5⟩ := w T hT X2
  refine ⟨t, a1, oc, b1, b2, b3.1, ?_⟩
  obtain ⟨f1, f2, f3⟩ := b4
  refine ⟨f1, f2, (f3.weaken (fun y hy hlt => ?_) (Nat.le_refl _) (Nat.le_refl _)).mono ?_ ?_⟩
  · have := b5 y hy
    have h2 : sB G ≤ y.base := this
    rw [hB] at h2
    exact absurd hlt (Nat.not_lt.mpr h2)
  · show sLen M' - 0 ≤ 600000; omega
  · show sSlots M' - 0 ≤ 7302250; omega
