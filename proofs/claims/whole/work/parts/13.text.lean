/-! THE WORDS' TEXT: String.length, charAt and what they call -/
theorem lm_J0_335 : sMl RJ0 335 yJ0_coder_7d493 := Or.inl (sTm_3 (List.mem_of_getElem? (i := 0) rfl) rfl)
theorem mf_J0_coder_7d493 : sMf yJ0_coder_7d493 cJ0_coder_7d493 1 (some .byte) 0 := ⟨(sTm_3 (List.mem_of_getElem? (i := 3) rfl) rfl), (sTm_1 (List.mem_of_getElem? (i := 14) rfl) rfl), ⟨by decide +kernel, by decide +kernel⟩, by decide +kernel, by decide⟩
theorem mi_J0_coder_7d493 : Cond.instanceMethod yJ0_coder_7d493 ∈ sTb ∧ Cond.selects yJ0_coder_7d493.cls yJ0_coder_7d493 yJ0_coder_7d493 ∈ sTb := ⟨(sTm_3 (List.mem_of_getElem? (i := 1) rfl) rfl), (sTm_3 (List.mem_of_getElem? (i := 2) rfl) rfl)⟩
theorem lm_J0_492 : sMl RJ0 492 yJ0_isLatin1_aae02 := Or.inl (sTm_3 (List.mem_of_getElem? (i := 10) rfl) rfl)
theorem mf_J0_isLatin1_aae02 : sMf yJ0_isLatin1_aae02 cJ0_isLatin1_aae02 1 (some .boolean) 0 := ⟨(sTm_3 (List.mem_of_getElem? (i := 13) rfl) rfl), (sTm_1 (List.mem_of_getElem? (i := 14) rfl) rfl), ⟨by decide +kernel, by decide +kernel⟩, by decide +kernel, by decide⟩
theorem mi_J0_isLatin1_aae02 : Cond.instanceMethod yJ0_isLatin1_aae02 ∈ sTb ∧ Cond.selects yJ0_isLatin1_aae02.cls yJ0_isLatin1_aae02 yJ0_isLatin1_aae02 ∈ sTb := ⟨(sTm_3 (List.mem_of_getElem? (i := 11) rfl) rfl), (sTm_3 (List.mem_of_getElem? (i := 12) rfl) rfl)⟩
theorem lm_J0_495 : sMl RJ0 495 yJ1_charAt_3b067 := Or.inl (sTm_3 (List.mem_of_getElem? (i := 14) rfl) rfl)
theorem mf_J1_charAt_3b067 : sMf yJ1_charAt_3b067 cJ1_charAt_3b067 2 (some .char) 2 := ⟨(sTm_3 (List.mem_of_getElem? (i := 16) rfl) rfl), (sTm_1 (List.mem_of_getElem? (i := 15) rfl) rfl), ⟨by decide +kernel, by decide +kernel⟩, by decide +kernel, by decide⟩
theorem ms_J1_charAt_3b067 : Cond.static yJ1_charAt_3b067 ∈ sTb := (sTm_3 (List.mem_of_getElem? (i := 15) rfl) rfl)
theorem lm_J1_9 : sMl RJ1 9 yJ0_checkIndex_df160 := Or.inl (sTm_3 (List.mem_of_getElem? (i := 17) rfl) rfl)
theorem mf_J0_checkIndex_df160 : sMf yJ0_checkIndex_df160 cJ0_checkIndex_df160 2 none 2 := ⟨(sTm_3 (List.mem_of_getElem? (i := 19) rfl) rfl), (sTm_1 (List.mem_of_getElem? (i := 14) rfl) rfl), ⟨by decide +kernel, by decide +kernel⟩, by decide +kernel, by decide⟩
theorem ms_J0_checkIndex_df160 : Cond.static yJ0_checkIndex_df160 ∈ sTb := (sTm_3 (List.mem_of_getElem? (i := 18) rfl) rfl)
theorem lm_J0_1059 : sMl RJ0 1059 yJ3_checkIndex_8e157 := Or.inl (sTm_3 (List.mem_of_getElem? (i := 22) rfl) rfl)
theorem mf_J3_checkIndex_8e157 : sMf yJ3_checkIndex_8e157 cJ3_checkIndex_8e157 3 (some .int) 3 := ⟨(sTm_3 (List.mem_of_getElem? (i := 24) rfl) rfl), (sTm_1 (List.mem_of_getElem? (i := 16) rfl) rfl), ⟨by decide +kernel, by decide +kernel⟩, by decide +kernel, by decide⟩
theorem ms_J3_checkIndex_8e157 : Cond.static yJ3_checkIndex_8e157 ∈ sTb := (sTm_3 (List.mem_of_getElem? (i := 23) rfl) rfl)
theorem lx_value : Cond.fieldLink RJ0 9 "java/lang/String" "value" "[B" ∈ sTb := (sTm_9 (List.mem_of_getElem? (i := 211) rfl) rfl)
theorem lx_coder : Cond.fieldLink RJ0 15 "java/lang/String" "coder" "B" ∈ sTb := (sTm_9 (List.mem_of_getElem? (i := 212) rfl) rfl)
theorem lx_compact : Cond.fieldLink RJ0 38 "java/lang/String" "COMPACT_STRINGS" "Z" ∈ sTb := (sTm_3 (List.mem_of_getElem? (i := 4) rfl) rfl)
theorem lx_fmt : Cond.fieldLink RJ0 1053 "jdk/internal/util/Preconditions" "SIOOBE_FORMATTER" "Ljava/util/function/BiFunction;" ∈ sTb := (sTm_3 (List.mem_of_getElem? (i := 20) rfl) rfl)
section R8
variable {G : sG} {l : Launch} {d : Nat} {y : MethodName} {cc : ByteArray} {mL : Nat} {ret : Option FieldType} {M0 : sMem} {r : Option Value} {M' : sMem} {pc : Nat} {ls : List (Option Value)} {st st0 : List Value} {M : sMem} {γ : Type} {K : γ → Prop}
theorem sad_str : sad G sSTR = G.2.2.2.2.2.2.1 := by unfold sad; rw [if_neg (by decide), if_pos rfl]
theorem sad_stv : sad G sSTV = G.2.2.2.2.2.2.2.1 := by unfold sad; rw [if_neg (by decide), if_neg (by decide), if_pos rfl]
def sFv (G : sG) : Value := match G.2.2.2.2.2.2.2.2 with
  | none => .null
  | some _ => .ref sFMT
theorem svm_fv : svm G (sFv G) = va_rf G.2.2.2.2.2.2.2.2 := by
  unfold sFv
  cases h : G.2.2.2.2.2.2.2.2 with
  | none => rfl
  | some q =>
    show Value.ref (sad G sFMT) = Value.ref q
    have : sad G sFMT = q := by unfold sad; rw [if_neg (by decide), if_neg (by decide), if_neg (by decide), if_pos rfl, h]; rfl
    rw [this]
theorem sX_i2c {x : Int32} {k : Option γ} (hd : decode cc pc = .ok (.i2c, 1)) (kk : sX G l d y cc mL ret M0 r M' (pc + 1) ls (.int (x.toUInt32 % 65536).toInt32 :: st) M k K) : sX G l d y cc mL ret M0 r M' pc ls (.int x :: st) M k K := sX_pure1 (fun hx hb _ q => lv_i2c hx hb hd rfl q) kk
theorem s_kept {p : Program} {s : State} {m : MethodId} {args : Array Value} {meth : Method} {c : Code} (hA : sAt G y cc mL ret M0 p s m args meth c) : ∀ a : Nat, a < G.2.2.1.size → ¬ sA G a → s.heap[a]? = G.2.2.1[a]? := fun a h _ => hA.2.2.2.2.2.2.2.2.2.2 a h
theorem sX_gsC {i : Nat} {k : Option γ} (hl : Cond.fieldLink y.cls i "java/lang/String" "COMPACT_STRINGS" "Z" ∈ sTb) (hd : decode cc pc = .ok (.getstatic i, 3)) (kk : sX G l d y cc mL ret M0 r M' (pc + 3) ls (.int 1 :: st) M k K) : sX G l d y cc mL ret M0 r M' pc ls st M k K :=
  sX_rd (fun hA hR hS w => va_gets (own := y.cls) (ref := "java/lang/String") hA.1 hA.2.1 ((hA.2.2.2.2.2.2.2.2.1.2.2.2.2.2.2.2.2.1).kept (s_kept hA)) hS hA.2.2.2.2.1 (hA.2.2.2.2.2.1 _ hl) (fun _ h => h) hd w) kk
theorem sX_gsF {i : Nat} {k : Option γ} (hl : Cond.fieldLink y.cls i "jdk/internal/util/Preconditions" "SIOOBE_FORMATTER" "Ljava/util/function/BiFunction;" ∈ sTb) (hd : decode cc pc = .ok (.getstatic i, 3)) (kk : sX G l d y cc mL ret M0 r M' (pc + 3) ls (sFv G :: st) M k K) : sX G l d y cc mL ret M0 r M' pc ls st M k K :=
  sX_rd (fun hA hR hS w => va_gets (own := y.cls) (ref := "jdk/internal/util/Preconditions") hA.1 hA.2.1 ((hA.2.2.2.2.2.2.2.2.1.2.2.2.2.2.2.2.2.2).kept (s_kept hA)) hS hA.2.2.2.2.1 (hA.2.2.2.2.2.1 _ hl) (fun _ h => h) hd (by rw [List.map_cons, svm_fv] at w; exact w)) kk
theorem sX_gV {i : Nat} {k : Option γ} (hl : Cond.fieldLink y.cls i "java/lang/String" "value" "[B" ∈ sTb) (hd : decode cc pc = .ok (.getfield i, 3)) (kk : sX G l d y cc mL ret M0 r M' (pc + 3) ls (.ref sSTV :: st) M k K) : sX G l d y cc mL ret M0 r M' pc ls (.ref sSTR :: st) M k K :=
  sX_rd (fun hA hR hS w => by
    have e := ((hA.2.2.2.2.2.2.2.2.1.2.2.2.2.2.2.2.1).kept (s_kept hA)).1 0 (by decide)
    rw [List.map_cons, svm_ref, sad_stv] at w
    rw [List.map_cons, svm_ref, sad_str]
    exact vk_getf (own := y.cls) (ref := "java/lang/String") hA.1 hA.2.1 e.2.2.1 hS hA.2.2.2.2.1 (hA.2.2.2.2.2.1 _ hl) (fun _ h => h) hd w) kk
theorem sX_gC {i : Nat} {k : Option γ} (hl : Cond.fieldLink y.cls i "java/lang/String" "coder" "B" ∈ sTb) (hd : decode cc pc = .ok (.getfield i, 3)) (kk : sX G l d y cc mL ret M0 r M' (pc + 3) ls (.int 0 :: st) M k K) : sX G l d y cc mL ret M0 r M' pc ls (.ref sSTR :: st) M k K :=
  sX_rd (fun hA hR hS w => by
    have e := ((hA.2.2.2.2.2.2.2.2.1.2.2.2.2.2.2.2.1).kept (s_kept hA)).1 0 (by decide)
    rw [List.map_cons, svm_ref, sad_str]
    exact vk_getf (own := y.cls) (ref := "java/lang/String") hA.1 hA.2.1 e.2.1 hS hA.2.2.2.2.1 (hA.2.2.2.2.2.1 _ hl) (fun _ h => h) hd w) kk
theorem sX_lenV {k : Option γ} (hd : decode cc pc = .ok (.arraylength, 1)) (kk : sX G l d y cc mL ret M0 r M' (pc + 1) ls (.int (Int32.ofNat sChars.length) :: st) M k K) : sX G l d y cc mL ret M0 r M' pc ls (.ref sSTV :: st) M k K :=
  sX_rd (fun hA hR hS w => by
    have e := ((hA.2.2.2.2.2.2.2.2.1.2.2.2.2.2.2.2.1).kept (s_kept hA)).1 0 (by decide)
    rw [List.map_cons, svm_ref, sad_stv]
    have e2 := e.2.2.2
    simp only [List.getD_cons_zero] at e2
    exact va_tlen hA.1 hA.2.1 e2 hS rfl hd w) kk
theorem sX_ldV {i : Int32} {k : Option γ} (hi : ¬ i < 0 ∧ i.toNatClampNeg < sChars.length) (hd : decode cc pc = .ok (.baload, 1)) (kk : sX G l d y cc mL ret M0 r M' (pc + 1) ls (.int (sChars.getD i.toNatClampNeg 0) :: st) M k K) : sX G l d y cc mL ret M0 r M' pc ls (.int i :: .ref sSTV :: st) M k K :=
  sX_rd (fun hA hR hS w => by
    have e := ((hA.2.2.2.2.2.2.2.2.1.2.2.2.2.2.2.2.1).kept (s_kept hA)).1 0 (by decide)
    rw [List.map_cons, List.map_cons, svm_ref, sad_stv]
    have e2 := e.2.2.2
    simp only [List.getD_cons_zero] at e2
    exact va_tb hA.1 hA.2.1 e2 hS (vp_of hi) rfl hd w) kk
/-- a call on the text -/
theorem sX_callT {i na : Nat} {yc : MethodName} {cb : ByteArray} {mLc dc : Nat} {retc : Option FieldType} {As : List Value} {R : Type} {rv : R → Option Value} {k0 : Option R} {f : R → Option γ}
    (hd : decode cc pc = .ok (.invokevirtual i, 3)) (hl : sMl y.cls i yc) (hm : sMf yc cb mLc retc na) (hi : Cond.instanceMethod yc ∈ sTb ∧ Cond.selects yc.cls yc yc ∈ sTb) (hcl : yc.cls = "java/lang/String") (hC : sCp G l dc yc cb mLc retc (.ref sSTR :: As) M rv k0) (hdc : dc + 1 ≤ d) (hna : As.length = na) (hst0 : As.reverse ++ .ref sSTR :: st = st0) (hcat : (st.map fun v => v.category).sum ≤ 8)
    (kk : ∀ x : R, k0 = some x → sX G l d y cc mL ret M0 r M' (pc + 3) ls ((rv x).toList ++ st) M (f x) K) : sX G l d y cc mL ret M0 r M' pc ls st0 M (k0.bind f) K := by
  rw [bind_p (M := M) (k := k0)]
  refine sX_call hC hdc (fun x M1 hMM => ?_) (fun x M1 h => by obtain ⟨z, h1, h2⟩ := Option.map_eq_some_iff.mp h; cases h2; exact kk _ h1)
  intro p e s m args below meth c0 H locs cells slots lsM hA hR hL hr1 hr2
  refine ⟨(Value.ref (sad G sSTR) :: As.map (svm G)).toArray, ?_⟩
  subst hst0
  obtain ⟨g1, g2, g3, g4, g5, g6⟩ := s_callB (d := d) (M0 := M0) (M' := M') (M := M) (M1 := M1) (dc := dc) hA hm hdc
  have hrec : ∃ cellB : Cell, H[sad G sSTR]? = some cellB ∧ cellB.vm.isStatics = false ∧ s.vm.findClass yc.cls = some cellB.cls := by
    rw [sad_str, hcl]
    have e := ((hA.2.2.2.2.2.2.2.2.1.2.2.2.2.2.2.2.1).kept (H1 := H) (fun a h _ => hR.2.2.2 a h)).1 0 (by decide)
    obtain ⟨cell, c1, c2, c3, -⟩ := e.1
    exact ⟨cell, c1, c2, c3⟩
  have hPre : PreV s H yc.cls (sad G sSTR) (sPc G (.ref sSTR :: As) M) (As.map (svm G)) := ⟨sPc_blind, hrec, fun U hU hW => ⟨rfl, by rw [hU]; exact hR, hA.2.2.2.2.2.2.2.2.1.warm hW⟩⟩
  have hstk : (As.reverse ++ .ref sSTR :: st).map (svm G) = (As.map (svm G)).reverse ++ .ref (sad G sSTR) :: st.map (svm G) := by simp [svm_ref]
  rcases hl with hl | ⟨host, hl⟩
  · exact va_runV (C := yc.cls) (Ts := sTb) ⟨hA.1, hA.2.1, hA.2.2.2.1, hA.2.2.2.2.1, hA.2.2.2.2.2.1⟩ hMM.2.2 ⟨⟨rfl, rfl, g1, g2, g3, List.mem_cons_self, g4, g5, hm.2.2.1, g6, hA.2.2.2.2.2.1 _ hl⟩, hA.2.2.2.2.2.1 _ hi.1, hA.2.2.2.2.2.1 _ hi.2⟩ hPre rfl (by simpa using hna) hL.1 hstk (s_cats hcat) hd ⟨hr1, hr2⟩
  · exact va_runVN (C := yc.cls) (Ts := sTb) ⟨hA.1, hA.2.1, hA.2.2.2.1, hA.2.2.2.2.1, hA.2.2.2.2.2.1⟩ hMM.2.2 ⟨⟨⟨rfl, rfl, g1, g2, g3, List.mem_cons_self⟩, g4, g5, hm.2.2.1, g6, va_Nw.use rfl (hA.2.2.2.2.2.2.2.2.1.2.1 _ hl rfl)⟩, hA.2.2.2.2.2.1 _ hi.1, hA.2.2.2.2.2.1 _ hi.2⟩ hPre rfl (by simpa using hna) hL.1 hstk (s_cats hcat) hd ⟨hr1, hr2⟩
end R8
theorem m_coder (G : sG) (l : Launch) (M0 : sMem) : sCp G l 1 yJ0_coder_7d493 cJ0_coder_7d493 1 (some .byte) [.ref sSTR] M0 rvI (some 0) := by
  refine sC_p (ls := [some (.ref sSTR)]) (by decide +kernel) rfl (Nat.le_of_ble_eq_true rfl) (fun r M' K hr => ?_)
  refine sX_gsC lx_compact (by decide +kernel) ?_
  rw [show (some (0 : Int32)) = if (1 : Int32) = 0 then none else some 0 from rfl]
  refine sX_ifeq (o := 10) (t := 13) (by decide +kernel) (by decide) (fun h => absurd h (by decide)) (fun _ => ?_)
  refine sX_aload_n (i := 0) (by decide +kernel) rfl ?_
  refine sX_gC lx_coder (by decide +kernel) ?_
  refine sX_goto (o := 4) (t := 14) (by decide +kernel) (by decide) ?_
  exact sX_some (fun h _ => sW_zret (by decide +kernel) rfl (by decide) (hr _ h).1.symm (hr _ h).2.symm)
theorem m_isLatin1 (G : sG) (l : Launch) (M0 : sMem) : sCp G l 1 yJ0_isLatin1_aae02 cJ0_isLatin1_aae02 1 (some .boolean) [.ref sSTR] M0 rvI (some 1) := by
  refine sC_p (ls := [some (.ref sSTR)]) (by decide +kernel) rfl (Nat.le_of_ble_eq_true rfl) (fun r M' K hr => ?_)
  refine sX_gsC lx_compact (by decide +kernel) ?_
  rw [show (some (1 : Int32)) = if (1 : Int32) = 0 then none else some 1 from rfl]
  refine sX_ifeq (o := 14) (t := 17) (by decide +kernel) (by decide) (fun h => absurd h (by decide)) (fun _ => ?_)
  refine sX_aload_n (i := 0) (by decide +kernel) rfl ?_
  refine sX_gC lx_coder (by decide +kernel) ?_
  rw [show (some (1 : Int32)) = if (0 : Int32) = 0 then some 1 else none from rfl]
  refine sX_ifne (o := 7) (t := 17) (by decide +kernel) (by decide) (fun _ => ?_) (fun h => absurd rfl h)
  refine sX_iconst (n := 1) (v := (1 : Int32)) (by decide +kernel) (by decide) ?_
  refine sX_goto (o := 4) (t := 18) (by decide +kernel) (by decide) ?_
  exact sX_some (fun h _ => sW_zret (by decide +kernel) rfl (by decide) (hr _ h).1.symm (hr _ h).2.symm)
theorem m_preIndex (G : sG) (l : Launch) (v0 v1 : Int32) (w : Value) (hw : w = .null ∨ ∃ q, w = .ref q) (M0 : sMem) : sCp G l 1 yJ3_checkIndex_8e157 cJ3_checkIndex_8e157 3 (some .int) [.int v0, .int v1, w] M0 rvI (if v0 < 0 then none else if v0 < v1 then some v0 else none) := by
  refine sC_p (ls := [some (.int v0), some (.int v1), some w]) (by decide +kernel) (by rcases hw with rfl | ⟨q, rfl⟩ <;> rfl) (by rcases hw with rfl | ⟨q, rfl⟩ <;> exact Nat.le_of_ble_eq_true rfl) (fun r M' K hr => ?_)
  refine sX_iload_n (i := 0) (by decide +kernel) rfl ?_
  refine sX_iflt (o := 8) (t := 9) (by decide +kernel) (by decide) (fun _ => sX_none) (fun _ => ?_)
  refine sX_iload_n (i := 0) (by decide +kernel) rfl ?_
  refine sX_iload_n (i := 1) (by decide +kernel) rfl ?_
  refine sX_iclt (o := 10) (t := 16) (by decide +kernel) (by decide) (fun _ => ?_) (fun _ => sX_none)
  refine sX_iload_n (i := 0) (by decide +kernel) rfl ?_
  exact sX_some (fun h _ => sW_iret (by decide +kernel) rfl (hr _ h).1.symm (hr _ h).2.symm)
theorem sFv_cat (G : sG) : sFv G = .null ∨ ∃ q, sFv G = .ref q := by unfold sFv; cases G.2.2.2.2.2.2.2.2 <;> simp
theorem m_strIndex (G : sG) (l : Launch) (v0 v1 : Int32) (M0 : sMem) : sCp G l 2 yJ0_checkIndex_df160 cJ0_checkIndex_df160 2 none [.int v0, .int v1] M0 rvV ((if v0 < 0 then none else if v0 < v1 then some v0 else none).bind fun _ => some ()) := by
  refine sC_p (ls := [some (.int v0), some (.int v1)]) (by decide +kernel) rfl (Nat.le_of_ble_eq_true rfl) (fun r M' K hr => ?_)
  refine sX_iload_n (i := 0) (by decide +kernel) rfl ?_
  refine sX_iload_n (i := 1) (by decide +kernel) rfl ?_
  refine sX_gsF lx_fmt (by decide +kernel) ?_
  refine sX_callSp (As := [.int v0, .int v1, sFv G]) (by decide +kernel) lm_J0_1059 mf_J3_checkIndex_8e157 ms_J3_checkIndex_8e157 (m_preIndex G l v0 v1 (sFv G) (sFv_cat G) M0) (by decide) rfl rfl (Nat.le_of_ble_eq_true rfl) (fun x => ?_)
  refine sX_pop (by decide +kernel) rfl ?_
  exact sX_some (fun h _ => sW_vret (by decide +kernel) rfl (hr _ h).1.symm (hr _ h).2.symm)
def f_J0_length_8abf5 (_ : Unit) : Option Int32 := some (Int32.ofNat sChars.length)
def f_J0_charAt_5068e (i : Int32) : Option Int32 := if i < 0 then none else if i < Int32.ofNat sChars.length then some (sChars.getD i.toNatClampNeg 0) else none
theorem m_length (G : sG) (l : Launch) (M0 : sMem) : sCp G l 2 yJ0_length_8abf5 cJ0_length_8abf5 1 (some .int) [.ref sSTR] M0 rvI (f_J0_length_8abf5 ()) := by
  refine sC_p (ls := [some (.ref sSTR)]) (by decide +kernel) rfl (Nat.le_of_ble_eq_true rfl) (fun r M' K hr => ?_)
  refine sX_aload_n (i := 0) (by decide +kernel) rfl ?_
  refine sX_gV lx_value (by decide +kernel) ?_
  refine sX_lenV (by decide +kernel) ?_
  refine sX_aload_n (i := 0) (by decide +kernel) rfl ?_
  rw [show f_J0_length_8abf5 () = (some (0 : Int32)).bind (fun _ => f_J0_length_8abf5 ()) from rfl]
  refine sX_callT (As := []) (by decide +kernel) lm_J0_335 mf_J0_coder_7d493 mi_J0_coder_7d493 rfl (m_coder G l M0) (by decide) rfl rfl (Nat.le_of_ble_eq_true rfl) (fun x hx => ?_)
  cases hx
  refine sX_ishr (by decide +kernel) ?_
  have e : Int32.ofNat sChars.length >>> ((0 : Int32) &&& 31) = Int32.ofNat sChars.length := by decide +kernel
  rw [e]
  exact sX_some (fun h _ => sW_iret (by decide +kernel) rfl (hr _ h).1.symm (hr _ h).2.symm)
theorem sChars_ok : ∀ b ∈ sChars, ((b &&& 255).toUInt32 % 65536).toInt32 = b ∧ narrow .char (.int b) = .int b := by decide +kernel
theorem sChars_in {i : Int32} (h1 : ¬ i < 0) (h2 : i < Int32.ofNat sChars.length) : ¬ i < 0 ∧ i.toNatClampNeg < sChars.length := by
  refine ⟨h1, ?_⟩
  have hl : sChars.length = 204 := by decide +kernel
  rw [hl] at h2 ⊢
  have h3 := Int32.lt_iff_toInt_lt.mp h2
  have h4 : (Int32.ofNat 204).toInt = 204 := by decide
  have h5 : (0 : Int) ≤ i.toInt := by
    have := Int32.le_iff_toInt_le.mp (Int32.not_lt.mp h1)
    simpa using this
  show i.toInt.toNat < 204
  omega
theorem m_latinAt (G : sG) (l : Launch) (v1 : Int32) (M0 : sMem) : sCp G l 3 yJ1_charAt_3b067 cJ1_charAt_3b067 2 (some .char) [.ref sSTV, .int v1] M0 rvI (f_J0_charAt_5068e v1) := by
  refine sC_p (ls := [some (.ref sSTV), some (.int v1)]) (by decide +kernel) rfl (Nat.le_of_ble_eq_true rfl) (fun r M' K hr => ?_)
  refine sX_iload_n (i := 1) (by decide +kernel) rfl ?_
  refine sX_aload_n (i := 0) (by decide +kernel) rfl ?_
  refine sX_lenV (by decide +kernel) ?_
  have e : f_J0_charAt_5068e v1 = ((if v1 < 0 then none else if v1 < Int32.ofNat sChars.length then some v1 else none).bind fun _ => some ()).bind (fun _ => f_J0_charAt_5068e v1) := by
    unfold f_J0_charAt_5068e
    by_cases h1 : v1 < 0
    · simp only [if_pos h1]; rfl
    · simp only [if_neg h1]
      by_cases h2 : v1 < Int32.ofNat sChars.length
      · simp only [if_pos h2]; rfl
      · simp only [if_neg h2]; rfl
  rw [e]
  refine sX_callSp (As := [.int v1, .int (Int32.ofNat sChars.length)]) (by decide +kernel) lm_J1_9 mf_J0_checkIndex_df160 ms_J0_checkIndex_df160 (m_strIndex G l v1 (Int32.ofNat sChars.length) M0) (by decide) rfl rfl (Nat.le_of_ble_eq_true rfl) (fun _ => ?_)
  unfold f_J0_charAt_5068e
  refine sX_if (fun _ => sX_none) (fun h1 => sX_g (fun h2 => ?_))
  have hin := sChars_in h1 h2
  have hb := sChars_ok (sChars.getD v1.toNatClampNeg 0) (by rw [List.getD_eq_getElem?_getD, List.getElem?_eq_getElem hin.2]; exact List.getElem_mem _)
  refine sX_aload_n (i := 0) (by decide +kernel) rfl ?_
  refine sX_iload_n (i := 1) (by decide +kernel) rfl ?_
  refine sX_ldV hin (by decide +kernel) ?_
  generalize sChars.getD v1.toNatClampNeg 0 = b at hb ⊢
  refine sX_sipush (n := 255) (v := (255 : Int32)) (by decide +kernel) (by decide) ?_
  refine sX_iand (by decide +kernel) ?_
  refine sX_i2c (by decide +kernel) ?_
  rw [hb.1]
  exact sX_some (fun h _ => sW_zret (by decide +kernel) rfl hb.2 (hr _ h).1.symm (hr _ h).2.symm)
theorem m_charAt (G : sG) (l : Launch) (v1 : Int32) (M0 : sMem) : sCp G l 4 yJ0_charAt_5068e cJ0_charAt_5068e 2 (some .char) [.ref sSTR, .int v1] M0 rvI (f_J0_charAt_5068e v1) := by
  refine sC_p (ls := [some (.ref sSTR), some (.int v1)]) (by decide +kernel) rfl (Nat.le_of_ble_eq_true rfl) (fun r M' K hr => ?_)
  refine sX_aload_n (i := 0) (by decide +kernel) rfl ?_
  rw [show f_J0_charAt_5068e v1 = (some (1 : Int32)).bind (fun _ => f_J0_charAt_5068e v1) from rfl]
  refine sX_callT (As := []) (by decide +kernel) lm_J0_492 mf_J0_isLatin1_aae02 mi_J0_isLatin1_aae02 rfl (m_isLatin1 G l M0) (by decide) rfl rfl (Nat.le_of_ble_eq_true rfl) (fun x hx => ?_)
  cases hx
  rw [show f_J0_charAt_5068e v1 = if (1 : Int32) = 0 then none else f_J0_charAt_5068e v1 from rfl]
  refine sX_ifeq (o := 12) (t := 16) (by decide +kernel) (by decide) (fun h => absurd h (by decide)) (fun _ => ?_)
  refine sX_aload_n (i := 0) (by decide +kernel) rfl ?_
  refine sX_gV lx_value (by decide +kernel) ?_
  refine sX_iload_n (i := 1) (by decide +kernel) rfl ?_
  have e : f_J0_charAt_5068e v1 = (f_J0_charAt_5068e v1).bind (fun x => if narrow .char (.int x) = .int x then some x else none) := by
    unfold f_J0_charAt_5068e
    by_cases h1 : v1 < 0
    · simp only [if_pos h1]; rfl
    · simp only [if_neg h1]
      by_cases h2 : v1 < Int32.ofNat sChars.length
      · have hin := sChars_in h1 h2
        have hb := sChars_ok (sChars.getD v1.toNatClampNeg 0) (by rw [List.getD_eq_getElem?_getD, List.getElem?_eq_getElem hin.2]; exact List.getElem_mem _)
        simp only [if_pos h2, Option.bind_some, if_pos hb.2]
      · simp only [if_neg h2]; rfl
  rw [e]
  refine sX_callSp (As := [.ref sSTV, .int v1]) (by decide +kernel) lm_J0_495 mf_J1_charAt_3b067 ms_J1_charAt_3b067 (m_latinAt G l v1 M0) (by decide) rfl rfl (Nat.le_of_ble_eq_true rfl) (fun x => ?_)
  refine sX_g (fun hn => ?_)
  exact sX_some (fun h _ => sW_zret (by decide +kernel) rfl hn (hr _ h).1.symm (hr _ h).2.symm)
section R9
variable {G : sG} {l : Launch} {d : Nat} {y : MethodName} {cc : ByteArray} {mL : Nat} {ret : Option FieldType} {M0 : sMem} {r : Option Value} {M' : sMem} {pc : Nat} {ls : List (Option Value)} {st st0 : List Value} {M : sMem} {γ : Type} {K : γ → Prop}
theorem sX_length_str {i : Nat} {f : Int32 → Option γ} (hd : decode cc pc = .ok (.invokevirtual i, 3)) (hl : sMl y.cls i yJ0_length_8abf5) (hdc : 3 ≤ d) (hcat : (st.map fun v => v.category).sum ≤ 8) (kk : ∀ x, sX G l d y cc mL ret M0 r M' (pc + 3) ls (.int x :: st) M (f x) K) : sX G l d y cc mL ret M0 r M' pc ls (.ref sSTR :: st) M ((f_J0_length_8abf5 ()).bind f) K :=
  sX_callT (As := []) hd hl mf_J0_length_8abf5 mi_J0_length_8abf5 rfl (m_length G l M) hdc rfl rfl hcat (fun x _ => kk x)
theorem sX_charAt_str {i : Nat} {v : Int32} {f : Int32 → Option γ} (hd : decode cc pc = .ok (.invokevirtual i, 3)) (hl : sMl y.cls i yJ0_charAt_5068e) (hdc : 5 ≤ d) (hcat : (st.map fun v => v.category).sum ≤ 8) (kk : ∀ x, sX G l d y cc mL ret M0 r M' (pc + 3) ls (.int x :: st) M (f x) K) : sX G l d y cc mL ret M0 r M' pc ls (.int v :: .ref sSTR :: st) M ((f_J0_charAt_5068e v).bind f) K :=
  sX_callT (As := [.int v]) hd hl mf_J0_charAt_5068e mi_J0_charAt_5068e rfl (m_charAt G l v M) hdc rfl rfl hcat (fun x _ => kk x)
end R9

