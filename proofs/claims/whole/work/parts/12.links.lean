/-! links: fields, methods, classes, constants, by the places of their words -/
theorem lwm_1 {w : Cond} (h : w ∈ tables_1_1) : w ∈ lw_tbl := List.mem_append_right _ (show w ∈ tables_1 from List.mem_append_left _ h)
theorem sTm_1 {w : Cond} (h : w ∈ tables_1_1) (hg : goodWord w = true) : w ∈ sTb := List.mem_filter.mpr ⟨lwm_1 h, hg⟩
theorem lwm_2 {w : Cond} (h : w ∈ tables_1_2) : w ∈ lw_tbl := List.mem_append_right _ (show w ∈ tables_1 from List.mem_append_right _ (List.mem_append_left _ h))
theorem sTm_2 {w : Cond} (h : w ∈ tables_1_2) (hg : goodWord w = true) : w ∈ sTb := List.mem_filter.mpr ⟨lwm_2 h, hg⟩
theorem lwm_3 {w : Cond} (h : w ∈ tables_1_3) : w ∈ lw_tbl := List.mem_append_right _ (show w ∈ tables_1 from List.mem_append_right _ (List.mem_append_right _ (List.mem_append_left _ h)))
theorem sTm_3 {w : Cond} (h : w ∈ tables_1_3) (hg : goodWord w = true) : w ∈ sTb := List.mem_filter.mpr ⟨lwm_3 h, hg⟩
theorem lwm_4 {w : Cond} (h : w ∈ tables_1_4) : w ∈ lw_tbl := List.mem_append_right _ (show w ∈ tables_1 from List.mem_append_right _ (List.mem_append_right _ (List.mem_append_right _ (List.mem_append_left _ h))))
theorem sTm_4 {w : Cond} (h : w ∈ tables_1_4) (hg : goodWord w = true) : w ∈ sTb := List.mem_filter.mpr ⟨lwm_4 h, hg⟩
theorem lwm_5 {w : Cond} (h : w ∈ tables_1_5) : w ∈ lw_tbl := List.mem_append_right _ (show w ∈ tables_1 from List.mem_append_right _ (List.mem_append_right _ (List.mem_append_right _ (List.mem_append_right _ (List.mem_append_left _ h)))))
theorem sTm_5 {w : Cond} (h : w ∈ tables_1_5) (hg : goodWord w = true) : w ∈ sTb := List.mem_filter.mpr ⟨lwm_5 h, hg⟩
theorem lwm_6 {w : Cond} (h : w ∈ tables_1_6) : w ∈ lw_tbl := List.mem_append_right _ (show w ∈ tables_1 from List.mem_append_right _ (List.mem_append_right _ (List.mem_append_right _ (List.mem_append_right _ (List.mem_append_right _ (List.mem_append_left _ h))))))
theorem sTm_6 {w : Cond} (h : w ∈ tables_1_6) (hg : goodWord w = true) : w ∈ sTb := List.mem_filter.mpr ⟨lwm_6 h, hg⟩
theorem lwm_7 {w : Cond} (h : w ∈ tables_1_7) : w ∈ lw_tbl := List.mem_append_right _ (show w ∈ tables_1 from List.mem_append_right _ (List.mem_append_right _ (List.mem_append_right _ (List.mem_append_right _ (List.mem_append_right _ (List.mem_append_right _ (List.mem_append_left _ h)))))))
theorem sTm_7 {w : Cond} (h : w ∈ tables_1_7) (hg : goodWord w = true) : w ∈ sTb := List.mem_filter.mpr ⟨lwm_7 h, hg⟩
theorem lwm_8 {w : Cond} (h : w ∈ tables_1_8) : w ∈ lw_tbl := List.mem_append_right _ (show w ∈ tables_1 from List.mem_append_right _ (List.mem_append_right _ (List.mem_append_right _ (List.mem_append_right _ (List.mem_append_right _ (List.mem_append_right _ (List.mem_append_right _ (List.mem_append_left _ h))))))))
theorem sTm_8 {w : Cond} (h : w ∈ tables_1_8) (hg : goodWord w = true) : w ∈ sTb := List.mem_filter.mpr ⟨lwm_8 h, hg⟩
theorem lwm_9 {w : Cond} (h : w ∈ tables_1_9) : w ∈ lw_tbl := List.mem_append_right _ (show w ∈ tables_1 from List.mem_append_right _ (List.mem_append_right _ (List.mem_append_right _ (List.mem_append_right _ (List.mem_append_right _ (List.mem_append_right _ (List.mem_append_right _ (List.mem_append_right _ (h)))))))))
theorem sTm_9 {w : Cond} (h : w ∈ tables_1_9) (hg : goodWord w = true) : w ∈ sTb := List.mem_filter.mpr ⟨lwm_9 h, hg⟩
theorem sTs_1 {y : MethodName} {C : String} {n i : Nat} (h0 : lw_privs_1[i]? = some (y, n)) (hC : y.cls = C) : Cond.selects C y y ∈ sTb := by
  subst hC
  have h : (y, n) ∈ lw_privs_1 := List.mem_of_getElem? h0
  have h2 : (y, n) ∈ lw_privs := List.mem_append_left _ h
  exact List.mem_filter.mpr ⟨List.mem_append_left _ (List.mem_map.mpr ⟨(y, n), h2, rfl⟩), rfl⟩
theorem sTs_2 {y : MethodName} {C : String} {n i : Nat} (h0 : lw_privs_2[i]? = some (y, n)) (hC : y.cls = C) : Cond.selects C y y ∈ sTb := by
  subst hC
  have h : (y, n) ∈ lw_privs_2 := List.mem_of_getElem? h0
  have h2 : (y, n) ∈ lw_privs := List.mem_append_right _ (List.mem_append_left _ h)
  exact List.mem_filter.mpr ⟨List.mem_append_left _ (List.mem_map.mpr ⟨(y, n), h2, rfl⟩), rfl⟩
theorem sTs_3 {y : MethodName} {C : String} {n i : Nat} (h0 : lw_privs_3[i]? = some (y, n)) (hC : y.cls = C) : Cond.selects C y y ∈ sTb := by
  subst hC
  have h : (y, n) ∈ lw_privs_3 := List.mem_of_getElem? h0
  have h2 : (y, n) ∈ lw_privs := List.mem_append_right _ (List.mem_append_right _ (List.mem_append_left _ h))
  exact List.mem_filter.mpr ⟨List.mem_append_left _ (List.mem_map.mpr ⟨(y, n), h2, rfl⟩), rfl⟩
theorem sTs_4 {y : MethodName} {C : String} {n i : Nat} (h0 : lw_privs_4[i]? = some (y, n)) (hC : y.cls = C) : Cond.selects C y y ∈ sTb := by
  subst hC
  have h : (y, n) ∈ lw_privs_4 := List.mem_of_getElem? h0
  have h2 : (y, n) ∈ lw_privs := List.mem_append_right _ (List.mem_append_right _ (List.mem_append_right _ (List.mem_append_left _ h)))
  exact List.mem_filter.mpr ⟨List.mem_append_left _ (List.mem_map.mpr ⟨(y, n), h2, rfl⟩), rfl⟩
theorem sTs_5 {y : MethodName} {C : String} {n i : Nat} (h0 : lw_privs_5[i]? = some (y, n)) (hC : y.cls = C) : Cond.selects C y y ∈ sTb := by
  subst hC
  have h : (y, n) ∈ lw_privs_5 := List.mem_of_getElem? h0
  have h2 : (y, n) ∈ lw_privs := List.mem_append_right _ (List.mem_append_right _ (List.mem_append_right _ (List.mem_append_right _ (List.mem_append_left _ h))))
  exact List.mem_filter.mpr ⟨List.mem_append_left _ (List.mem_map.mpr ⟨(y, n), h2, rfl⟩), rfl⟩
theorem sTs_6 {y : MethodName} {C : String} {n i : Nat} (h0 : lw_privs_6[i]? = some (y, n)) (hC : y.cls = C) : Cond.selects C y y ∈ sTb := by
  subst hC
  have h : (y, n) ∈ lw_privs_6 := List.mem_of_getElem? h0
  have h2 : (y, n) ∈ lw_privs := List.mem_append_right _ (List.mem_append_right _ (List.mem_append_right _ (List.mem_append_right _ (List.mem_append_right _ (List.mem_append_left _ h)))))
  exact List.mem_filter.mpr ⟨List.mem_append_left _ (List.mem_map.mpr ⟨(y, n), h2, rfl⟩), rfl⟩
theorem sTs_7 {y : MethodName} {C : String} {n i : Nat} (h0 : lw_privs_7[i]? = some (y, n)) (hC : y.cls = C) : Cond.selects C y y ∈ sTb := by
  subst hC
  have h : (y, n) ∈ lw_privs_7 := List.mem_of_getElem? h0
  have h2 : (y, n) ∈ lw_privs := List.mem_append_right _ (List.mem_append_right _ (List.mem_append_right _ (List.mem_append_right _ (List.mem_append_right _ (List.mem_append_right _ (List.mem_append_left _ h))))))
  exact List.mem_filter.mpr ⟨List.mem_append_left _ (List.mem_map.mpr ⟨(y, n), h2, rfl⟩), rfl⟩
theorem sTs_8 {y : MethodName} {C : String} {n i : Nat} (h0 : lw_privs_8[i]? = some (y, n)) (hC : y.cls = C) : Cond.selects C y y ∈ sTb := by
  subst hC
  have h : (y, n) ∈ lw_privs_8 := List.mem_of_getElem? h0
  have h2 : (y, n) ∈ lw_privs := List.mem_append_right _ (List.mem_append_right _ (List.mem_append_right _ (List.mem_append_right _ (List.mem_append_right _ (List.mem_append_right _ (List.mem_append_right _ (List.mem_append_left _ h)))))))
  exact List.mem_filter.mpr ⟨List.mem_append_left _ (List.mem_map.mpr ⟨(y, n), h2, rfl⟩), rfl⟩
theorem sTs_9 {y : MethodName} {C : String} {n i : Nat} (h0 : lw_privs_9[i]? = some (y, n)) (hC : y.cls = C) : Cond.selects C y y ∈ sTb := by
  subst hC
  have h : (y, n) ∈ lw_privs_9 := List.mem_of_getElem? h0
  have h2 : (y, n) ∈ lw_privs := List.mem_append_right _ (List.mem_append_right _ (List.mem_append_right _ (List.mem_append_right _ (List.mem_append_right _ (List.mem_append_right _ (List.mem_append_right _ (List.mem_append_right _ (List.mem_append_left _ h))))))))
  exact List.mem_filter.mpr ⟨List.mem_append_left _ (List.mem_map.mpr ⟨(y, n), h2, rfl⟩), rfl⟩
theorem sTs_10 {y : MethodName} {C : String} {n i : Nat} (h0 : lw_privs_10[i]? = some (y, n)) (hC : y.cls = C) : Cond.selects C y y ∈ sTb := by
  subst hC
  have h : (y, n) ∈ lw_privs_10 := List.mem_of_getElem? h0
  have h2 : (y, n) ∈ lw_privs := List.mem_append_right _ (List.mem_append_right _ (List.mem_append_right _ (List.mem_append_right _ (List.mem_append_right _ (List.mem_append_right _ (List.mem_append_right _ (List.mem_append_right _ (List.mem_append_right _ (h)))))))))
  exact List.mem_filter.mpr ⟨List.mem_append_left _ (List.mem_map.mpr ⟨(y, n), h2, rfl⟩), rfl⟩
theorem lo_X0_3 : Cond.methodLink RX0 3 Lib.objectInit ∈ sTb := (sTm_2 (List.mem_of_getElem? (i := 10) rfl) rfl)
theorem oi_ok : Cond.instanceMethod Lib.objectInit ∈ sTb ∧ Cond.code Lib.objectInit ⟨#[0xb1]⟩ 1 none ∈ sTb := ⟨(sTm_1 (List.mem_of_getElem? (i := 30) rfl) rfl), (sTm_1 (List.mem_of_getElem? (i := 31) rfl) rfl)⟩
theorem cw_X0_9 : sCw RX0 9 2 5 := ⟨RX2, TX2, rfl, by decide, sIn_RX2, tyX2_ok, (sTm_2 (List.mem_of_getElem? (i := 11) rfl) rfl), (sTm_2 (List.mem_of_getElem? (i := 12) rfl) rfl), (sTm_1 (List.mem_of_getElem? (i := 9) rfl) rfl), by decide +kernel⟩
theorem lm_X0_11 : sMl RX0 11 yX2_init := Or.inr ⟨"CenturyGates", (lwm_2 (List.mem_of_getElem? (i := 13) rfl))⟩
theorem mf_X2_init : sMf yX2_init cX2_init 1 none 0 := ⟨(sTm_2 (List.mem_of_getElem? (i := 15) rfl) rfl), (sTm_1 (List.mem_of_getElem? (i := 9) rfl) rfl), ⟨by decide +kernel, by decide +kernel⟩, by decide +kernel, by decide⟩
theorem mj_X2_init : yX2_init.name = "<init>" ∧ Cond.instanceMethod yX2_init ∈ sTb := ⟨rfl, (sTm_2 (List.mem_of_getElem? (i := 14) rfl) rfl)⟩
theorem mc_2 : ∃ T : u_T, 2 < 13 ∧ vwCl[2]? = some (RX2, T, 5) := ⟨TX2, by decide, rfl⟩
theorem tk_0_0 : skd (sTy 0 0) = 2 := by decide +kernel
theorem lf_X0_12 : sFl RX0 12 0 0 7 true := ⟨RX0, TX0, rfl, by decide, by decide, sIn_RX0, tyX0_ok, nmX0, (by decide +kernel), (by decide +kernel), Or.inl (sTm_2 (List.mem_of_getElem? (i := 76) rfl) rfl)⟩
theorem lg_X0_12 : sFf RX0 12 0 0 7 := ⟨TX0, rfl, by decide, by decide, sIn_RX0, tyX0_ok, nmX0, (by decide +kernel), (by decide +kernel), (sTm_2 (List.mem_of_getElem? (i := 76) rfl) rfl)⟩
theorem tk_0_4 : skd (sTy 0 4) = 2 := by decide +kernel
theorem lf_X0_18 : sFl RX0 18 0 4 7 true := ⟨RX0, TX0, rfl, by decide, by decide, sIn_RX0, tyX0_ok, nmX0, (by decide +kernel), (by decide +kernel), Or.inl (sTm_2 (List.mem_of_getElem? (i := 82) rfl) rfl)⟩
theorem lg_X0_18 : sFf RX0 18 0 4 7 := ⟨TX0, rfl, by decide, by decide, sIn_RX0, tyX0_ok, nmX0, (by decide +kernel), (by decide +kernel), (sTm_2 (List.mem_of_getElem? (i := 82) rfl) rfl)⟩
theorem tk_0_5 : skd (sTy 0 5) = 2 := by decide +kernel
theorem lf_X0_22 : sFl RX0 22 0 5 7 true := ⟨RX0, TX0, rfl, by decide, by decide, sIn_RX0, tyX0_ok, nmX0, (by decide +kernel), (by decide +kernel), Or.inl (sTm_2 (List.mem_of_getElem? (i := 83) rfl) rfl)⟩
theorem lg_X0_22 : sFf RX0 22 0 5 7 := ⟨TX0, rfl, by decide, by decide, sIn_RX0, tyX0_ok, nmX0, (by decide +kernel), (by decide +kernel), (sTm_2 (List.mem_of_getElem? (i := 83) rfl) rfl)⟩
theorem tk_0_6 : skd (sTy 0 6) = 2 := by decide +kernel
theorem lf_X0_25 : sFl RX0 25 0 6 7 true := ⟨RX0, TX0, rfl, by decide, by decide, sIn_RX0, tyX0_ok, nmX0, (by decide +kernel), (by decide +kernel), Or.inl (sTm_2 (List.mem_of_getElem? (i := 84) rfl) rfl)⟩
theorem lg_X0_25 : sFf RX0 25 0 6 7 := ⟨TX0, rfl, by decide, by decide, sIn_RX0, tyX0_ok, nmX0, (by decide +kernel), (by decide +kernel), (sTm_2 (List.mem_of_getElem? (i := 84) rfl) rfl)⟩
theorem tk_0_3 : skd (sTy 0 3) = 2 := by decide +kernel
theorem lf_X0_29 : sFl RX0 29 0 3 7 false := ⟨RX0, TX0, rfl, by decide, by decide, sIn_RX0, tyX0_ok, nmX0, (by decide +kernel), (by decide +kernel), Or.inl (sTm_2 (List.mem_of_getElem? (i := 81) rfl) rfl)⟩
theorem cw_X0_33 : sCw RX0 33 4 5 := ⟨RX4, TX4, rfl, by decide, sIn_RX4, tyX4_ok, (sTm_2 (List.mem_of_getElem? (i := 37) rfl) rfl), (sTm_2 (List.mem_of_getElem? (i := 38) rfl) rfl), (sTm_1 (List.mem_of_getElem? (i := 10) rfl) rfl), by decide +kernel⟩
theorem lm_X0_35 : sMl RX0 35 yX4_init := Or.inl (sTm_2 (List.mem_of_getElem? (i := 39) rfl) rfl)
theorem mf_X4_init : sMf yX4_init cX4_init 3 none 2 := ⟨(sTm_2 (List.mem_of_getElem? (i := 41) rfl) rfl), (sTm_1 (List.mem_of_getElem? (i := 10) rfl) rfl), ⟨by decide +kernel, by decide +kernel⟩, by decide +kernel, by decide⟩
theorem mj_X4_init : yX4_init.name = "<init>" ∧ Cond.instanceMethod yX4_init ∈ sTb := ⟨rfl, (sTm_2 (List.mem_of_getElem? (i := 40) rfl) rfl)⟩
theorem mc_4 : ∃ T : u_T, 4 < 13 ∧ vwCl[4]? = some (RX4, T, 5) := ⟨TX4, by decide, rfl⟩
theorem tk_0_1 : skd (sTy 0 1) = 2 := by decide +kernel
theorem lf_X0_38 : sFl RX0 38 0 1 7 true := ⟨RX0, TX0, rfl, by decide, by decide, sIn_RX0, tyX0_ok, nmX0, (by decide +kernel), (by decide +kernel), Or.inl (sTm_2 (List.mem_of_getElem? (i := 77) rfl) rfl)⟩
theorem lg_X0_38 : sFf RX0 38 0 1 7 := ⟨TX0, rfl, by decide, by decide, sIn_RX0, tyX0_ok, nmX0, (by decide +kernel), (by decide +kernel), (sTm_2 (List.mem_of_getElem? (i := 77) rfl) rfl)⟩
theorem cw_X0_42 : sCw RX0 42 7 2 := ⟨RX7, TX7, rfl, by decide, sIn_RX7, tyX7_ok, (sTm_2 (List.mem_of_getElem? (i := 62) rfl) rfl), (sTm_2 (List.mem_of_getElem? (i := 63) rfl) rfl), (sTm_1 (List.mem_of_getElem? (i := 11) rfl) rfl), by decide +kernel⟩
theorem lm_X0_44 : sMl RX0 44 yX7_init := Or.inl (sTm_2 (List.mem_of_getElem? (i := 64) rfl) rfl)
theorem mf_X7_init : sMf yX7_init cX7_init 2 none 1 := ⟨(sTm_2 (List.mem_of_getElem? (i := 66) rfl) rfl), (sTm_1 (List.mem_of_getElem? (i := 11) rfl) rfl), ⟨by decide +kernel, by decide +kernel⟩, by decide +kernel, by decide⟩
theorem mj_X7_init : yX7_init.name = "<init>" ∧ Cond.instanceMethod yX7_init ∈ sTb := ⟨rfl, (sTm_2 (List.mem_of_getElem? (i := 65) rfl) rfl)⟩
theorem mc_7 : ∃ T : u_T, 7 < 13 ∧ vwCl[7]? = some (RX7, T, 2) := ⟨TX7, by decide, rfl⟩
theorem tk_0_2 : skd (sTy 0 2) = 2 := by decide +kernel
theorem lf_X0_47 : sFl RX0 47 0 2 7 true := ⟨RX0, TX0, rfl, by decide, by decide, sIn_RX0, tyX0_ok, nmX0, (by decide +kernel), (by decide +kernel), Or.inl (sTm_2 (List.mem_of_getElem? (i := 79) rfl) rfl)⟩
theorem lg_X0_47 : sFf RX0 47 0 2 7 := ⟨TX0, rfl, by decide, by decide, sIn_RX0, tyX0_ok, nmX0, (by decide +kernel), (by decide +kernel), (sTm_2 (List.mem_of_getElem? (i := 79) rfl) rfl)⟩
theorem tk_7_1 : skd (sTy 7 1) = 2 := by decide +kernel
theorem lf_X0_51 : sFl RX0 51 7 1 2 false := ⟨RX7, TX7, rfl, by decide, by decide, sIn_RX7, tyX7_ok, nmX7, (by decide +kernel), (by decide +kernel), Or.inr ⟨"CenturyGates", (lwm_2 (List.mem_of_getElem? (i := 70) rfl))⟩⟩
theorem lm_X0_52 : sMl RX0 52 yX4_take := Or.inl (sTm_3 (List.mem_of_getElem? (i := 238) rfl) rfl)
theorem mf_X4_take : sMf yX4_take cX4_take 2 none 1 := ⟨(sTm_4 (List.mem_of_getElem? (i := 1) rfl) rfl), (sTm_1 (List.mem_of_getElem? (i := 10) rfl) rfl), ⟨by decide +kernel, by decide +kernel⟩, by decide +kernel, by decide⟩
theorem mi_X4_take : Cond.instanceMethod yX4_take ∈ sTb ∧ Cond.selects yX4_take.cls yX4_take yX4_take ∈ sTb := ⟨(sTm_3 (List.mem_of_getElem? (i := 239) rfl) rfl), (sTm_4 (List.mem_of_getElem? (i := 0) rfl) rfl)⟩
theorem tk_8_3 : skd (sTy 8 3) = 2 := by decide +kernel
theorem lf_X0_55 : sFl RX0 55 8 3 8 true := ⟨RX8, TX8, rfl, by decide, by decide, sIn_RX8, tyX8_ok, nmX8, (by decide +kernel), (by decide +kernel), Or.inr ⟨"CenturyGates", (lwm_1 (List.mem_of_getElem? (i := 215) rfl))⟩⟩
theorem lm_X0_60 : sMl RX0 60 yX7_go := Or.inl (sTm_4 (List.mem_of_getElem? (i := 177) rfl) rfl)
theorem mf_X7_go : sMf yX7_go cX7_go 8 none 3 := ⟨(sTm_4 (List.mem_of_getElem? (i := 147) rfl) rfl), (sTm_1 (List.mem_of_getElem? (i := 11) rfl) rfl), ⟨by decide +kernel, by decide +kernel⟩, by decide +kernel, by decide⟩
theorem mi_X7_go : Cond.instanceMethod yX7_go ∈ sTb ∧ Cond.selects yX7_go.cls yX7_go yX7_go ∈ sTb := ⟨(sTm_4 (List.mem_of_getElem? (i := 145) rfl) rfl), (sTm_4 (List.mem_of_getElem? (i := 146) rfl) rfl)⟩
theorem tk_8_4 : skd (sTy 8 4) = 2 := by decide +kernel
theorem lf_X0_64 : sFl RX0 64 8 4 8 true := ⟨RX8, TX8, rfl, by decide, by decide, sIn_RX8, tyX8_ok, nmX8, (by decide +kernel), (by decide +kernel), Or.inr ⟨"CenturyGates", (lwm_1 (List.mem_of_getElem? (i := 218) rfl))⟩⟩
theorem lm_X0_67 : sMl RX0 67 yX7_arrival := Or.inl (sTm_4 (List.mem_of_getElem? (i := 178) rfl) rfl)
theorem mf_X7_arrival : sMf yX7_arrival cX7_arrival 3 (some .int) 1 := ⟨(sTm_4 (List.mem_of_getElem? (i := 167) rfl) rfl), (sTm_1 (List.mem_of_getElem? (i := 11) rfl) rfl), ⟨by decide +kernel, by decide +kernel⟩, by decide +kernel, by decide⟩
theorem mi_X7_arrival : Cond.instanceMethod yX7_arrival ∈ sTb ∧ Cond.selects yX7_arrival.cls yX7_arrival yX7_arrival ∈ sTb := ⟨(sTm_4 (List.mem_of_getElem? (i := 165) rfl) rfl), (sTm_4 (List.mem_of_getElem? (i := 166) rfl) rfl)⟩
theorem tk_1_5 : skd (sTy 1 5) = 2 := by decide +kernel
theorem lf_X0_71 : sFl RX0 71 1 5 10 true := ⟨RX1, TX1, rfl, by decide, by decide, sIn_RX1, tyX1_ok, nmX1, (by decide +kernel), (by decide +kernel), Or.inr ⟨"CenturyGates", (lwm_1 (List.mem_of_getElem? (i := 162) rfl))⟩⟩
theorem lm_X0_77 : sMl RX0 77 yX9_cell := Or.inl (sTm_4 (List.mem_of_getElem? (i := 176) rfl) rfl)
theorem mf_X9_cell : sMf yX9_cell cX9_cell 4 (some .int) 2 := ⟨(sTm_4 (List.mem_of_getElem? (i := 13) rfl) rfl), (sTm_1 (List.mem_of_getElem? (i := 6) rfl) rfl), ⟨by decide +kernel, by decide +kernel⟩, by decide +kernel, by decide⟩
theorem mi_X9_cell : Cond.instanceMethod yX9_cell ∈ sTb ∧ Cond.selects yX9_cell.cls yX9_cell yX9_cell ∈ sTb := ⟨(sTm_4 (List.mem_of_getElem? (i := 11) rfl) rfl), (sTm_4 (List.mem_of_getElem? (i := 12) rfl) rfl)⟩
theorem mc_9 : ∃ T : u_T, 9 < 13 ∧ vwCl[9]? = some (RX9, T, 4) := ⟨TX9, by decide, rfl⟩
theorem tk_8_1 : skd (sTy 8 1) = 0 := by decide +kernel
theorem lf_X0_83 : sFl RX0 83 8 1 8 false := ⟨RX8, TX8, rfl, by decide, by decide, sIn_RX8, tyX8_ok, nmX8, (by decide +kernel), (by decide +kernel), Or.inr ⟨"CenturyGates", (lwm_1 (List.mem_of_getElem? (i := 208) rfl))⟩⟩
theorem lm_X0_87 : sMl RX0 87 yX4_close := Or.inl (sTm_4 (List.mem_of_getElem? (i := 196) rfl) rfl)
theorem mf_X4_close : sMf yX4_close cX4_close 8 none 4 := ⟨(sTm_4 (List.mem_of_getElem? (i := 86) rfl) rfl), (sTm_1 (List.mem_of_getElem? (i := 10) rfl) rfl), ⟨by decide +kernel, by decide +kernel⟩, by decide +kernel, by decide⟩
theorem mi_X4_close : Cond.instanceMethod yX4_close ∈ sTb ∧ Cond.selects yX4_close.cls yX4_close yX4_close ∈ sTb := ⟨(sTm_4 (List.mem_of_getElem? (i := 84) rfl) rfl), (sTm_4 (List.mem_of_getElem? (i := 85) rfl) rfl)⟩
theorem tk_9_3 : skd (sTy 9 3) = 0 := by decide +kernel
theorem lf_X0_91 : sFl RX0 91 9 3 4 false := ⟨RX9, TX9, rfl, by decide, by decide, sIn_RX9, tyX9_ok, nmX9, (by decide +kernel), (by decide +kernel), Or.inr ⟨"CenturyGates", (lwm_1 (List.mem_of_getElem? (i := 125) rfl))⟩⟩
theorem lm_X0_94 : sMl RX0 94 yX0_waitOf := Or.inl (sTm_4 (List.mem_of_getElem? (i := 197) rfl) rfl)
theorem mf_X0_waitOf : sMf yX0_waitOf cX0_waitOf 7 (some .int) 3 := ⟨(sTm_4 (List.mem_of_getElem? (i := 175) rfl) rfl), (sTm_1 (List.mem_of_getElem? (i := 8) rfl) rfl), ⟨by decide +kernel, by decide +kernel⟩, by decide +kernel, by decide⟩
theorem mi_X0_waitOf : Cond.instanceMethod yX0_waitOf ∈ sTb ∧ Cond.selects yX0_waitOf.cls yX0_waitOf yX0_waitOf ∈ sTb := ⟨(sTm_4 (List.mem_of_getElem? (i := 173) rfl) rfl), (sTm_4 (List.mem_of_getElem? (i := 174) rfl) rfl)⟩
theorem mc_0 : ∃ T : u_T, 0 < 13 ∧ vwCl[0]? = some (RX0, T, 7) := ⟨TX0, by decide, rfl⟩
theorem lm_X0_98 : sMl RX0 98 yJ9_max_7cf53 := Or.inl (sTm_4 (List.mem_of_getElem? (i := 198) rfl) rfl)
theorem mf_J9_max_7cf53 : sMf yJ9_max_7cf53 cJ9_max_7cf53 2 (some .int) 2 := ⟨(sTm_3 (List.mem_of_getElem? (i := 82) rfl) rfl), (sTm_1 (List.mem_of_getElem? (i := 18) rfl) rfl), ⟨by decide +kernel, by decide +kernel⟩, by decide +kernel, by decide⟩
theorem ms_J9_max_7cf53 : Cond.static yJ9_max_7cf53 ∈ sTb := (sTm_3 (List.mem_of_getElem? (i := 81) rfl) rfl)
theorem tk_2_0 : skd (sTy 2 0) = 2 := by decide +kernel
theorem lf_X0_103 : sFl RX0 103 2 0 5 true := ⟨RX2, TX2, rfl, by decide, by decide, sIn_RX2, tyX2_ok, nmX2, (by decide +kernel), (by decide +kernel), Or.inr ⟨"CenturyGates", (lwm_2 (List.mem_of_getElem? (i := 18) rfl))⟩⟩
theorem tk_8_0 : skd (sTy 8 0) = 0 := by decide +kernel
theorem lf_X0_106 : sFl RX0 106 8 0 8 false := ⟨RX8, TX8, rfl, by decide, by decide, sIn_RX8, tyX8_ok, nmX8, (by decide +kernel), (by decide +kernel), Or.inr ⟨"CenturyGates", (lwm_1 (List.mem_of_getElem? (i := 205) rfl))⟩⟩
theorem lm_X0_109 : sMl RX0 109 yX0_bringCar := Or.inl (sTm_4 (List.mem_of_getElem? (i := 199) rfl) rfl)
theorem mf_X0_bringCar : sMf yX0_bringCar cX0_bringCar 5 none 2 := ⟨(sTm_4 (List.mem_of_getElem? (i := 202) rfl) rfl), (sTm_1 (List.mem_of_getElem? (i := 8) rfl) rfl), ⟨by decide +kernel, by decide +kernel⟩, by decide +kernel, by decide⟩
theorem mi_X0_bringCar : Cond.instanceMethod yX0_bringCar ∈ sTb ∧ Cond.selects yX0_bringCar.cls yX0_bringCar yX0_bringCar ∈ sTb := ⟨(sTm_4 (List.mem_of_getElem? (i := 201) rfl) rfl), (sTs_3 (i := 5) rfl rfl)⟩
theorem lm_X0_113 : sMl RX0 113 yX8_keep := Or.inl (sTm_4 (List.mem_of_getElem? (i := 205) rfl) rfl)
theorem mf_X8_keep : sMf yX8_keep cX8_keep 3 none 2 := ⟨(sTm_4 (List.mem_of_getElem? (i := 208) rfl) rfl), (sTm_1 (List.mem_of_getElem? (i := 7) rfl) rfl), ⟨by decide +kernel, by decide +kernel⟩, by decide +kernel, by decide⟩
theorem mi_X8_keep : Cond.instanceMethod yX8_keep ∈ sTb ∧ Cond.selects yX8_keep.cls yX8_keep yX8_keep ∈ sTb := ⟨(sTm_4 (List.mem_of_getElem? (i := 206) rfl) rfl), (sTm_4 (List.mem_of_getElem? (i := 207) rfl) rfl)⟩
theorem mc_8 : ∃ T : u_T, 8 < 13 ∧ vwCl[8]? = some (RX8, T, 8) := ⟨TX8, by decide, rfl⟩
theorem lm_X0_117 : sMl RX0 117 yX0_delayEras := Or.inl (sTm_4 (List.mem_of_getElem? (i := 209) rfl) rfl)
theorem mf_X0_delayEras : sMf yX0_delayEras cX0_delayEras 4 none 2 := ⟨(sTm_4 (List.mem_of_getElem? (i := 212) rfl) rfl), (sTm_1 (List.mem_of_getElem? (i := 8) rfl) rfl), ⟨by decide +kernel, by decide +kernel⟩, by decide +kernel, by decide⟩
theorem mi_X0_delayEras : Cond.instanceMethod yX0_delayEras ∈ sTb ∧ Cond.selects yX0_delayEras.cls yX0_delayEras yX0_delayEras ∈ sTb := ⟨(sTm_4 (List.mem_of_getElem? (i := 211) rfl) rfl), (sTs_3 (i := 6) rfl rfl)⟩
theorem tp_8_0 : sTy 8 0 = .int := by decide +kernel
theorem tk_8_5 : skd (sTy 8 5) = 2 := by decide +kernel
theorem lf_X0_120 : sFl RX0 120 8 5 8 true := ⟨RX8, TX8, rfl, by decide, by decide, sIn_RX8, tyX8_ok, nmX8, (by decide +kernel), (by decide +kernel), Or.inr ⟨"CenturyGates", (lwm_1 (List.mem_of_getElem? (i := 221) rfl))⟩⟩
theorem tk_2_1 : skd (sTy 2 1) = 2 := by decide +kernel
theorem lf_X0_123 : sFl RX0 123 2 1 5 true := ⟨RX2, TX2, rfl, by decide, by decide, sIn_RX2, tyX2_ok, nmX2, (by decide +kernel), (by decide +kernel), Or.inr ⟨"CenturyGates", (lwm_2 (List.mem_of_getElem? (i := 21) rfl))⟩⟩
theorem lm_X0_125 : sMl RX0 125 yX11_isMarked := Or.inr ⟨"CenturyGates", (lwm_5 (List.mem_of_getElem? (i := 148) rfl))⟩
theorem mf_X11_isMarked : sMf yX11_isMarked cX11_isMarked 4 (some .boolean) 3 := ⟨(sTm_4 (List.mem_of_getElem? (i := 132) rfl) rfl), (sTm_1 (List.mem_of_getElem? (i := 1) rfl) rfl), ⟨by decide +kernel, by decide +kernel⟩, by decide +kernel, by decide⟩
theorem ms_X11_isMarked : Cond.static yX11_isMarked ∈ sTb := (sTm_4 (List.mem_of_getElem? (i := 131) rfl) rfl)
theorem mc_11 : ∃ T : u_T, 11 < 13 ∧ vwCl[11]? = some (RX11, T, 20) := ⟨TX11, by decide, rfl⟩
theorem tk_2_2 : skd (sTy 2 2) = 2 := by decide +kernel
theorem lf_X0_129 : sFl RX0 129 2 2 5 true := ⟨RX2, TX2, rfl, by decide, by decide, sIn_RX2, tyX2_ok, nmX2, (by decide +kernel), (by decide +kernel), Or.inr ⟨"CenturyGates", (lwm_2 (List.mem_of_getElem? (i := 23) rfl))⟩⟩
theorem lm_X0_132 : sMl RX0 132 yX2_run := Or.inl (sTm_4 (List.mem_of_getElem? (i := 203) rfl) rfl)
theorem mf_X2_run : sMf yX2_run cX2_run 5 (some .int) 1 := ⟨(sTm_4 (List.mem_of_getElem? (i := 102) rfl) rfl), (sTm_1 (List.mem_of_getElem? (i := 9) rfl) rfl), ⟨by decide +kernel, by decide +kernel⟩, by decide +kernel, by decide⟩
theorem mi_X2_run : Cond.instanceMethod yX2_run ∈ sTb ∧ Cond.selects yX2_run.cls yX2_run yX2_run ∈ sTb := ⟨(sTm_4 (List.mem_of_getElem? (i := 100) rfl) rfl), (sTm_4 (List.mem_of_getElem? (i := 101) rfl) rfl)⟩
theorem tk_1_8 : skd (sTy 1 8) = 2 := by decide +kernel
theorem lf_X0_136 : sFl RX0 136 1 8 10 true := ⟨RX1, TX1, rfl, by decide, by decide, sIn_RX1, tyX1_ok, nmX1, (by decide +kernel), (by decide +kernel), Or.inr ⟨"CenturyGates", (lwm_1 (List.mem_of_getElem? (i := 173) rfl))⟩⟩
theorem lm_X0_140 : sMl RX0 140 yJ9_min_7cf53 := Or.inl (sTm_4 (List.mem_of_getElem? (i := 204) rfl) rfl)
theorem mf_J9_min_7cf53 : sMf yJ9_min_7cf53 cJ9_min_7cf53 2 (some .int) 2 := ⟨(sTm_3 (List.mem_of_getElem? (i := 138) rfl) rfl), (sTm_1 (List.mem_of_getElem? (i := 18) rfl) rfl), ⟨by decide +kernel, by decide +kernel⟩, by decide +kernel, by decide⟩
theorem ms_J9_min_7cf53 : Cond.static yJ9_min_7cf53 ∈ sTb := (sTm_3 (List.mem_of_getElem? (i := 137) rfl) rfl)
theorem tk_1_4 : skd (sTy 1 4) = 2 := by decide +kernel
theorem lf_X0_143 : sFl RX0 143 1 4 10 true := ⟨RX1, TX1, rfl, by decide, by decide, sIn_RX1, tyX1_ok, nmX1, (by decide +kernel), (by decide +kernel), Or.inr ⟨"CenturyGates", (lwm_1 (List.mem_of_getElem? (i := 158) rfl))⟩⟩
theorem tk_8_2 : skd (sTy 8 2) = 2 := by decide +kernel
theorem lf_X0_146 : sFl RX0 146 8 2 8 true := ⟨RX8, TX8, rfl, by decide, by decide, sIn_RX8, tyX8_ok, nmX8, (by decide +kernel), (by decide +kernel), Or.inr ⟨"CenturyGates", (lwm_1 (List.mem_of_getElem? (i := 212) rfl))⟩⟩
theorem tk_1_7 : skd (sTy 1 7) = 2 := by decide +kernel
theorem lf_X0_149 : sFl RX0 149 1 7 10 true := ⟨RX1, TX1, rfl, by decide, by decide, sIn_RX1, tyX1_ok, nmX1, (by decide +kernel), (by decide +kernel), Or.inr ⟨"CenturyGates", (lwm_1 (List.mem_of_getElem? (i := 170) rfl))⟩⟩
theorem lo_X1_3 : Cond.methodLink RX1 3 Lib.objectInit ∈ sTb := (sTm_1 (List.mem_of_getElem? (i := 110) rfl) rfl)
theorem cw_X1_9 : sCw RX1 9 9 4 := ⟨RX9, TX9, rfl, by decide, sIn_RX9, tyX9_ok, (sTm_1 (List.mem_of_getElem? (i := 111) rfl) rfl), (sTm_1 (List.mem_of_getElem? (i := 112) rfl) rfl), (sTm_1 (List.mem_of_getElem? (i := 6) rfl) rfl), by decide +kernel⟩
theorem lm_X1_11 : sMl RX1 11 yX9_init := Or.inl (sTm_1 (List.mem_of_getElem? (i := 113) rfl) rfl)
theorem mf_X9_init : sMf yX9_init cX9_init 2 none 1 := ⟨(sTm_1 (List.mem_of_getElem? (i := 115) rfl) rfl), (sTm_1 (List.mem_of_getElem? (i := 6) rfl) rfl), ⟨by decide +kernel, by decide +kernel⟩, by decide +kernel, by decide⟩
theorem mj_X9_init : yX9_init.name = "<init>" ∧ Cond.instanceMethod yX9_init ∈ sTb := ⟨rfl, (sTm_1 (List.mem_of_getElem? (i := 114) rfl) rfl)⟩
theorem tk_1_1 : skd (sTy 1 1) = 2 := by decide +kernel
theorem lf_X1_14 : sFl RX1 14 1 1 10 true := ⟨RX1, TX1, rfl, by decide, by decide, sIn_RX1, tyX1_ok, nmX1, (by decide +kernel), (by decide +kernel), Or.inl (sTm_1 (List.mem_of_getElem? (i := 143) rfl) rfl)⟩
theorem lg_X1_14 : sFf RX1 14 1 1 10 := ⟨TX1, rfl, by decide, by decide, sIn_RX1, tyX1_ok, nmX1, (by decide +kernel), (by decide +kernel), (sTm_1 (List.mem_of_getElem? (i := 143) rfl) rfl)⟩
theorem tk_1_2 : skd (sTy 1 2) = 2 := by decide +kernel
theorem lf_X1_20 : sFl RX1 20 1 2 10 true := ⟨RX1, TX1, rfl, by decide, by decide, sIn_RX1, tyX1_ok, nmX1, (by decide +kernel), (by decide +kernel), Or.inl (sTm_1 (List.mem_of_getElem? (i := 147) rfl) rfl)⟩
theorem lg_X1_20 : sFf RX1 20 1 2 10 := ⟨TX1, rfl, by decide, by decide, sIn_RX1, tyX1_ok, nmX1, (by decide +kernel), (by decide +kernel), (sTm_1 (List.mem_of_getElem? (i := 147) rfl) rfl)⟩
theorem tk_1_3 : skd (sTy 1 3) = 2 := by decide +kernel
theorem lf_X1_23 : sFl RX1 23 1 3 10 true := ⟨RX1, TX1, rfl, by decide, by decide, sIn_RX1, tyX1_ok, nmX1, (by decide +kernel), (by decide +kernel), Or.inl (sTm_1 (List.mem_of_getElem? (i := 151) rfl) rfl)⟩
theorem lg_X1_23 : sFf RX1 23 1 3 10 := ⟨TX1, rfl, by decide, by decide, sIn_RX1, tyX1_ok, nmX1, (by decide +kernel), (by decide +kernel), (sTm_1 (List.mem_of_getElem? (i := 151) rfl) rfl)⟩
theorem lf_X1_26 : sFl RX1 26 1 4 10 true := ⟨RX1, TX1, rfl, by decide, by decide, sIn_RX1, tyX1_ok, nmX1, (by decide +kernel), (by decide +kernel), Or.inl (sTm_1 (List.mem_of_getElem? (i := 155) rfl) rfl)⟩
theorem lg_X1_26 : sFf RX1 26 1 4 10 := ⟨TX1, rfl, by decide, by decide, sIn_RX1, tyX1_ok, nmX1, (by decide +kernel), (by decide +kernel), (sTm_1 (List.mem_of_getElem? (i := 155) rfl) rfl)⟩
theorem lf_X1_29 : sFl RX1 29 1 5 10 true := ⟨RX1, TX1, rfl, by decide, by decide, sIn_RX1, tyX1_ok, nmX1, (by decide +kernel), (by decide +kernel), Or.inl (sTm_1 (List.mem_of_getElem? (i := 160) rfl) rfl)⟩
theorem lg_X1_29 : sFf RX1 29 1 5 10 := ⟨TX1, rfl, by decide, by decide, sIn_RX1, tyX1_ok, nmX1, (by decide +kernel), (by decide +kernel), (sTm_1 (List.mem_of_getElem? (i := 160) rfl) rfl)⟩
theorem cw_X1_32 : sCw RX1 32 6 2 := ⟨RX6, TX6, rfl, by decide, sIn_RX6, tyX6_ok, (sTm_1 (List.mem_of_getElem? (i := 137) rfl) rfl), (sTm_1 (List.mem_of_getElem? (i := 81) rfl) rfl), (sTm_1 (List.mem_of_getElem? (i := 4) rfl) rfl), by decide +kernel⟩
theorem lm_X1_34 : sMl RX1 34 yX6_init := Or.inr ⟨"CenturyGates", (lwm_1 (List.mem_of_getElem? (i := 138) rfl))⟩
theorem mf_X6_init : sMf yX6_init cX6_init 1 none 0 := ⟨(sTm_1 (List.mem_of_getElem? (i := 84) rfl) rfl), (sTm_1 (List.mem_of_getElem? (i := 4) rfl) rfl), ⟨by decide +kernel, by decide +kernel⟩, by decide +kernel, by decide⟩
theorem mj_X6_init : yX6_init.name = "<init>" ∧ Cond.instanceMethod yX6_init ∈ sTb := ⟨rfl, (sTm_1 (List.mem_of_getElem? (i := 83) rfl) rfl)⟩
theorem mc_6 : ∃ T : u_T, 6 < 13 ∧ vwCl[6]? = some (RX6, T, 2) := ⟨TX6, by decide, rfl⟩
theorem tk_1_6 : skd (sTy 1 6) = 2 := by decide +kernel
theorem lf_X1_35 : sFl RX1 35 1 6 10 true := ⟨RX1, TX1, rfl, by decide, by decide, sIn_RX1, tyX1_ok, nmX1, (by decide +kernel), (by decide +kernel), Or.inl (sTm_1 (List.mem_of_getElem? (i := 165) rfl) rfl)⟩
theorem lg_X1_35 : sFf RX1 35 1 6 10 := ⟨TX1, rfl, by decide, by decide, sIn_RX1, tyX1_ok, nmX1, (by decide +kernel), (by decide +kernel), (sTm_1 (List.mem_of_getElem? (i := 165) rfl) rfl)⟩
theorem lf_X1_39 : sFl RX1 39 1 7 10 true := ⟨RX1, TX1, rfl, by decide, by decide, sIn_RX1, tyX1_ok, nmX1, (by decide +kernel), (by decide +kernel), Or.inl (sTm_1 (List.mem_of_getElem? (i := 168) rfl) rfl)⟩
theorem lg_X1_39 : sFf RX1 39 1 7 10 := ⟨TX1, rfl, by decide, by decide, sIn_RX1, tyX1_ok, nmX1, (by decide +kernel), (by decide +kernel), (sTm_1 (List.mem_of_getElem? (i := 168) rfl) rfl)⟩
theorem lf_X1_42 : sFl RX1 42 1 8 10 true := ⟨RX1, TX1, rfl, by decide, by decide, sIn_RX1, tyX1_ok, nmX1, (by decide +kernel), (by decide +kernel), Or.inl (sTm_1 (List.mem_of_getElem? (i := 171) rfl) rfl)⟩
theorem lg_X1_42 : sFf RX1 42 1 8 10 := ⟨TX1, rfl, by decide, by decide, sIn_RX1, tyX1_ok, nmX1, (by decide +kernel), (by decide +kernel), (sTm_1 (List.mem_of_getElem? (i := 171) rfl) rfl)⟩
theorem tk_1_0 : skd (sTy 1 0) = 0 := by decide +kernel
theorem lf_X1_45 : sFl RX1 45 1 0 10 false := ⟨RX1, TX1, rfl, by decide, by decide, sIn_RX1, tyX1_ok, nmX1, (by decide +kernel), (by decide +kernel), Or.inl (sTm_1 (List.mem_of_getElem? (i := 139) rfl) rfl)⟩
theorem tp_1_0 : sTy 1 0 = .int := by decide +kernel
theorem lf_X1_49 : sFl RX1 49 9 3 4 false := ⟨RX9, TX9, rfl, by decide, by decide, sIn_RX9, tyX9_ok, nmX9, (by decide +kernel), (by decide +kernel), Or.inr ⟨"CenturyGates", (lwm_1 (List.mem_of_getElem? (i := 122) rfl))⟩⟩
theorem tp_9_3 : sTy 9 3 = .int := by decide +kernel
theorem tk_6_1 : skd (sTy 6 1) = 0 := by decide +kernel
theorem lf_X1_52 : sFl RX1 52 6 1 2 false := ⟨RX6, TX6, rfl, by decide, by decide, sIn_RX6, tyX6_ok, nmX6, (by decide +kernel), (by decide +kernel), Or.inr ⟨"CenturyGates", (lwm_1 (List.mem_of_getElem? (i := 90) rfl))⟩⟩
theorem tp_6_1 : sTy 6 1 = .int := by decide +kernel
theorem tk_1_9 : skd (sTy 1 9) = 0 := by decide +kernel
theorem lf_X1_55 : sFl RX1 55 1 9 10 false := ⟨RX1, TX1, rfl, by decide, by decide, sIn_RX1, tyX1_ok, nmX1, (by decide +kernel), (by decide +kernel), Or.inl (sTm_1 (List.mem_of_getElem? (i := 174) rfl) rfl)⟩
theorem tp_1_9 : sTy 1 9 = .int := by decide +kernel
theorem lm_X1_58 : sMl RX1 58 yX6_add := Or.inl (sTm_3 (List.mem_of_getElem? (i := 233) rfl) rfl)
theorem mf_X6_add : sMf yX6_add cX6_add 2 none 1 := ⟨(sTm_3 (List.mem_of_getElem? (i := 125) rfl) rfl), (sTm_1 (List.mem_of_getElem? (i := 4) rfl) rfl), ⟨by decide +kernel, by decide +kernel⟩, by decide +kernel, by decide⟩
theorem mi_X6_add : Cond.instanceMethod yX6_add ∈ sTb ∧ Cond.selects yX6_add.cls yX6_add yX6_add ∈ sTb := ⟨(sTm_3 (List.mem_of_getElem? (i := 123) rfl) rfl), (sTm_3 (List.mem_of_getElem? (i := 124) rfl) rfl)⟩
theorem lo_X2_3 : Cond.methodLink RX2 3 Lib.objectInit ∈ sTb := (sTm_2 (List.mem_of_getElem? (i := 16) rfl) rfl)
theorem lf_X2_9 : sFl RX2 9 2 0 5 true := ⟨RX2, TX2, rfl, by decide, by decide, sIn_RX2, tyX2_ok, nmX2, (by decide +kernel), (by decide +kernel), Or.inl (sTm_2 (List.mem_of_getElem? (i := 17) rfl) rfl)⟩
theorem lg_X2_9 : sFf RX2 9 2 0 5 := ⟨TX2, rfl, by decide, by decide, sIn_RX2, tyX2_ok, nmX2, (by decide +kernel), (by decide +kernel), (sTm_2 (List.mem_of_getElem? (i := 17) rfl) rfl)⟩
theorem lf_X2_15 : sFl RX2 15 2 1 5 true := ⟨RX2, TX2, rfl, by decide, by decide, sIn_RX2, tyX2_ok, nmX2, (by decide +kernel), (by decide +kernel), Or.inl (sTm_2 (List.mem_of_getElem? (i := 20) rfl) rfl)⟩
theorem lg_X2_15 : sFf RX2 15 2 1 5 := ⟨TX2, rfl, by decide, by decide, sIn_RX2, tyX2_ok, nmX2, (by decide +kernel), (by decide +kernel), (sTm_2 (List.mem_of_getElem? (i := 20) rfl) rfl)⟩
theorem lf_X2_18 : sFl RX2 18 2 2 5 true := ⟨RX2, TX2, rfl, by decide, by decide, sIn_RX2, tyX2_ok, nmX2, (by decide +kernel), (by decide +kernel), Or.inl (sTm_2 (List.mem_of_getElem? (i := 22) rfl) rfl)⟩
theorem lg_X2_18 : sFf RX2 18 2 2 5 := ⟨TX2, rfl, by decide, by decide, sIn_RX2, tyX2_ok, nmX2, (by decide +kernel), (by decide +kernel), (sTm_2 (List.mem_of_getElem? (i := 22) rfl) rfl)⟩
theorem tk_2_3 : skd (sTy 2 3) = 2 := by decide +kernel
theorem lf_X2_21 : sFl RX2 21 2 3 5 true := ⟨RX2, TX2, rfl, by decide, by decide, sIn_RX2, tyX2_ok, nmX2, (by decide +kernel), (by decide +kernel), Or.inl (sTm_2 (List.mem_of_getElem? (i := 24) rfl) rfl)⟩
theorem lg_X2_21 : sFf RX2 21 2 3 5 := ⟨TX2, rfl, by decide, by decide, sIn_RX2, tyX2_ok, nmX2, (by decide +kernel), (by decide +kernel), (sTm_2 (List.mem_of_getElem? (i := 24) rfl) rfl)⟩
theorem tk_2_4 : skd (sTy 2 4) = 0 := by decide +kernel
theorem lf_X2_24 : sFl RX2 24 2 4 5 false := ⟨RX2, TX2, rfl, by decide, by decide, sIn_RX2, tyX2_ok, nmX2, (by decide +kernel), (by decide +kernel), Or.inl (sTm_2 (List.mem_of_getElem? (i := 25) rfl) rfl)⟩
theorem tp_2_4 : sTy 2 4 = .int := by decide +kernel
theorem lf_X2_28 : sFl RX2 28 6 1 2 false := ⟨RX6, TX6, rfl, by decide, by decide, sIn_RX6, tyX6_ok, nmX6, (by decide +kernel), (by decide +kernel), Or.inr ⟨"CenturyGates", (lwm_1 (List.mem_of_getElem? (i := 89) rfl))⟩⟩
theorem tk_6_0 : skd (sTy 6 0) = 2 := by decide +kernel
theorem lf_X2_33 : sFl RX2 33 6 0 2 false := ⟨RX6, TX6, rfl, by decide, by decide, sIn_RX6, tyX6_ok, nmX6, (by decide +kernel), (by decide +kernel), Or.inr ⟨"CenturyGates", (lwm_1 (List.mem_of_getElem? (i := 87) rfl))⟩⟩
theorem lm_X2_36 : sMl RX2 36 yX2_valueAt := Or.inl (sTm_4 (List.mem_of_getElem? (i := 103) rfl) rfl)
theorem mf_X2_valueAt : sMf yX2_valueAt cX2_valueAt 3 (some .int) 3 := ⟨(sTm_4 (List.mem_of_getElem? (i := 105) rfl) rfl), (sTm_1 (List.mem_of_getElem? (i := 9) rfl) rfl), ⟨by decide +kernel, by decide +kernel⟩, by decide +kernel, by decide⟩
theorem ms_X2_valueAt : Cond.static yX2_valueAt ∈ sTb := (sTm_4 (List.mem_of_getElem? (i := 104) rfl) rfl)
theorem lm_X2_40 : sMl RX2 40 yX2_push := Or.inl (sTm_4 (List.mem_of_getElem? (i := 106) rfl) rfl)
theorem mf_X2_push : sMf yX2_push cX2_push 2 none 1 := ⟨(sTm_4 (List.mem_of_getElem? (i := 109) rfl) rfl), (sTm_1 (List.mem_of_getElem? (i := 9) rfl) rfl), ⟨by decide +kernel, by decide +kernel⟩, by decide +kernel, by decide⟩
theorem mi_X2_push : Cond.instanceMethod yX2_push ∈ sTb ∧ Cond.selects yX2_push.cls yX2_push yX2_push ∈ sTb := ⟨(sTm_4 (List.mem_of_getElem? (i := 108) rfl) rfl), (sTs_2 (i := 15) rfl rfl)⟩
theorem lm_X2_44 : sMl RX2 44 yX2_pop := Or.inl (sTm_4 (List.mem_of_getElem? (i := 110) rfl) rfl)
theorem mf_X2_pop : sMf yX2_pop cX2_pop 1 (some .int) 0 := ⟨(sTm_4 (List.mem_of_getElem? (i := 113) rfl) rfl), (sTm_1 (List.mem_of_getElem? (i := 9) rfl) rfl), ⟨by decide +kernel, by decide +kernel⟩, by decide +kernel, by decide⟩
theorem mi_X2_pop : Cond.instanceMethod yX2_pop ∈ sTb ∧ Cond.selects yX2_pop.cls yX2_pop yX2_pop ∈ sTb := ⟨(sTm_4 (List.mem_of_getElem? (i := 112) rfl) rfl), (sTs_3 (i := 0) rfl rfl)⟩
theorem lm_X2_48 : sMl RX2 48 yX2_two := Or.inl (sTm_4 (List.mem_of_getElem? (i := 114) rfl) rfl)
theorem mf_X2_two : sMf yX2_two cX2_two 3 (some .int) 3 := ⟨(sTm_4 (List.mem_of_getElem? (i := 116) rfl) rfl), (sTm_1 (List.mem_of_getElem? (i := 9) rfl) rfl), ⟨by decide +kernel, by decide +kernel⟩, by decide +kernel, by decide⟩
theorem ms_X2_two : Cond.static yX2_two ∈ sTb := (sTm_4 (List.mem_of_getElem? (i := 115) rfl) rfl)
theorem lm_X2_52 : sMl RX2 52 yX2_bounded := Or.inl (sTm_4 (List.mem_of_getElem? (i := 117) rfl) rfl)
theorem mf_X2_bounded : sMf yX2_bounded cX2_bounded 2 (some .int) 1 := ⟨(sTm_4 (List.mem_of_getElem? (i := 119) rfl) rfl), (sTm_1 (List.mem_of_getElem? (i := 9) rfl) rfl), ⟨by decide +kernel, by decide +kernel⟩, by decide +kernel, by decide⟩
theorem ms_X2_bounded : Cond.static yX2_bounded ∈ sTb := (sTm_4 (List.mem_of_getElem? (i := 118) rfl) rfl)
theorem lm_X2_56 : sMl RX2 56 yJ9_floorDiv_7cf53 := Or.inl (sTm_4 (List.mem_of_getElem? (i := 124) rfl) rfl)
theorem mf_J9_floorDiv_7cf53 : sMf yJ9_floorDiv_7cf53 cJ9_floorDiv_7cf53 3 (some .int) 2 := ⟨(sTm_4 (List.mem_of_getElem? (i := 126) rfl) rfl), (sTm_1 (List.mem_of_getElem? (i := 18) rfl) rfl), ⟨by decide +kernel, by decide +kernel⟩, by decide +kernel, by decide⟩
theorem ms_J9_floorDiv_7cf53 : Cond.static yJ9_floorDiv_7cf53 ∈ sTb := (sTm_4 (List.mem_of_getElem? (i := 125) rfl) rfl)
theorem kl_X2_62 : Cond.constantLong RX2 62 (1000000) ∈ sTb := (sTm_4 (List.mem_of_getElem? (i := 120) rfl) rfl)
theorem kc_X2_64 : Cond.constant RX2 64 (1000000) ∈ sTb := (sTm_4 (List.mem_of_getElem? (i := 121) rfl) rfl)
theorem kl_X2_65 : Cond.constantLong RX2 65 (-1000000) ∈ sTb := (sTm_4 (List.mem_of_getElem? (i := 122) rfl) rfl)
theorem kc_X2_67 : Cond.constant RX2 67 (-1000000) ∈ sTb := (sTm_4 (List.mem_of_getElem? (i := 123) rfl) rfl)
theorem lo_X3_3 : Cond.methodLink RX3 3 Lib.objectInit ∈ sTb := (sTm_2 (List.mem_of_getElem? (i := 105) rfl) rfl)
theorem tk_3_0 : skd (sTy 3 0) = 2 := by decide +kernel
theorem lf_X3_9 : sFl RX3 9 3 0 6 true := ⟨RX3, TX3, rfl, by decide, by decide, sIn_RX3, tyX3_ok, nmX3, (by decide +kernel), (by decide +kernel), Or.inl (sTm_2 (List.mem_of_getElem? (i := 106) rfl) rfl)⟩
theorem lg_X3_9 : sFf RX3 9 3 0 6 := ⟨TX3, rfl, by decide, by decide, sIn_RX3, tyX3_ok, nmX3, (by decide +kernel), (by decide +kernel), (sTm_2 (List.mem_of_getElem? (i := 106) rfl) rfl)⟩
theorem tk_3_1 : skd (sTy 3 1) = 2 := by decide +kernel
theorem lf_X3_15 : sFl RX3 15 3 1 6 true := ⟨RX3, TX3, rfl, by decide, by decide, sIn_RX3, tyX3_ok, nmX3, (by decide +kernel), (by decide +kernel), Or.inl (sTm_2 (List.mem_of_getElem? (i := 107) rfl) rfl)⟩
theorem lg_X3_15 : sFf RX3 15 3 1 6 := ⟨TX3, rfl, by decide, by decide, sIn_RX3, tyX3_ok, nmX3, (by decide +kernel), (by decide +kernel), (sTm_2 (List.mem_of_getElem? (i := 107) rfl) rfl)⟩
theorem tk_3_2 : skd (sTy 3 2) = 2 := by decide +kernel
theorem lf_X3_18 : sFl RX3 18 3 2 6 true := ⟨RX3, TX3, rfl, by decide, by decide, sIn_RX3, tyX3_ok, nmX3, (by decide +kernel), (by decide +kernel), Or.inl (sTm_2 (List.mem_of_getElem? (i := 108) rfl) rfl)⟩
theorem lg_X3_18 : sFf RX3 18 3 2 6 := ⟨TX3, rfl, by decide, by decide, sIn_RX3, tyX3_ok, nmX3, (by decide +kernel), (by decide +kernel), (sTm_2 (List.mem_of_getElem? (i := 108) rfl) rfl)⟩
theorem tk_3_3 : skd (sTy 3 3) = 2 := by decide +kernel
theorem lf_X3_21 : sFl RX3 21 3 3 6 true := ⟨RX3, TX3, rfl, by decide, by decide, sIn_RX3, tyX3_ok, nmX3, (by decide +kernel), (by decide +kernel), Or.inl (sTm_2 (List.mem_of_getElem? (i := 109) rfl) rfl)⟩
theorem lg_X3_21 : sFf RX3 21 3 3 6 := ⟨TX3, rfl, by decide, by decide, sIn_RX3, tyX3_ok, nmX3, (by decide +kernel), (by decide +kernel), (sTm_2 (List.mem_of_getElem? (i := 109) rfl) rfl)⟩
theorem tk_3_4 : skd (sTy 3 4) = 2 := by decide +kernel
theorem lf_X3_24 : sFl RX3 24 3 4 6 true := ⟨RX3, TX3, rfl, by decide, by decide, sIn_RX3, tyX3_ok, nmX3, (by decide +kernel), (by decide +kernel), Or.inl (sTm_2 (List.mem_of_getElem? (i := 110) rfl) rfl)⟩
theorem lg_X3_24 : sFf RX3 24 3 4 6 := ⟨TX3, rfl, by decide, by decide, sIn_RX3, tyX3_ok, nmX3, (by decide +kernel), (by decide +kernel), (sTm_2 (List.mem_of_getElem? (i := 110) rfl) rfl)⟩
theorem tk_3_5 : skd (sTy 3 5) = 0 := by decide +kernel
theorem lf_X3_27 : sFl RX3 27 3 5 6 false := ⟨RX3, TX3, rfl, by decide, by decide, sIn_RX3, tyX3_ok, nmX3, (by decide +kernel), (by decide +kernel), Or.inl (sTm_2 (List.mem_of_getElem? (i := 111) rfl) rfl)⟩
theorem tp_3_5 : sTy 3 5 = .int := by decide +kernel
theorem lm_X3_31 : sMl RX3 31 yJ7_fill_53178 := Or.inl (sTm_5 (List.mem_of_getElem? (i := 28) rfl) rfl)
theorem mf_J7_fill_53178 : sMf yJ7_fill_53178 cJ7_fill_53178 4 none 2 := ⟨(sTm_4 (List.mem_of_getElem? (i := 4) rfl) rfl), (sTm_1 (List.mem_of_getElem? (i := 19) rfl) rfl), ⟨by decide +kernel, by decide +kernel⟩, by decide +kernel, by decide⟩
theorem ms_J7_fill_53178 : Cond.static yJ7_fill_53178 ∈ sTb := (sTm_4 (List.mem_of_getElem? (i := 3) rfl) rfl)
theorem lm_X3_37 : sMl RX3 37 yX3_goesOn := Or.inl (sTm_5 (List.mem_of_getElem? (i := 29) rfl) rfl)
theorem mf_X3_goesOn : sMf yX3_goesOn cX3_goesOn 4 (some .boolean) 2 := ⟨(sTm_5 (List.mem_of_getElem? (i := 32) rfl) rfl), (sTm_1 (List.mem_of_getElem? (i := 12) rfl) rfl), ⟨by decide +kernel, by decide +kernel⟩, by decide +kernel, by decide⟩
theorem mi_X3_goesOn : Cond.instanceMethod yX3_goesOn ∈ sTb ∧ Cond.selects yX3_goesOn.cls yX3_goesOn yX3_goesOn ∈ sTb := ⟨(sTm_5 (List.mem_of_getElem? (i := 31) rfl) rfl), (sTs_3 (i := 12) rfl rfl)⟩
theorem mc_3 : ∃ T : u_T, 3 < 13 ∧ vwCl[3]? = some (RX3, T, 6) := ⟨TX3, by decide, rfl⟩
theorem lm_X3_41 : sMl RX3 41 yX3_canGo := Or.inl (sTm_5 (List.mem_of_getElem? (i := 33) rfl) rfl)
theorem mf_X3_canGo : sMf yX3_canGo cX3_canGo 3 (some .boolean) 2 := ⟨(sTm_5 (List.mem_of_getElem? (i := 36) rfl) rfl), (sTm_1 (List.mem_of_getElem? (i := 12) rfl) rfl), ⟨by decide +kernel, by decide +kernel⟩, by decide +kernel, by decide⟩
theorem mi_X3_canGo : Cond.instanceMethod yX3_canGo ∈ sTb ∧ Cond.selects yX3_canGo.cls yX3_canGo yX3_canGo ∈ sTb := ⟨(sTm_5 (List.mem_of_getElem? (i := 35) rfl) rfl), (sTs_3 (i := 13) rfl rfl)⟩
theorem lm_X3_44 : sMl RX3 44 yJ9_abs_0f7a4 := Or.inl (sTm_5 (List.mem_of_getElem? (i := 37) rfl) rfl)
theorem mf_J9_abs_0f7a4 : sMf yJ9_abs_0f7a4 cJ9_abs_0f7a4 1 (some .int) 1 := ⟨(sTm_5 (List.mem_of_getElem? (i := 39) rfl) rfl), (sTm_1 (List.mem_of_getElem? (i := 18) rfl) rfl), ⟨by decide +kernel, by decide +kernel⟩, by decide +kernel, by decide⟩
theorem ms_J9_abs_0f7a4 : Cond.static yJ9_abs_0f7a4 ∈ sTb := (sTm_5 (List.mem_of_getElem? (i := 38) rfl) rfl)
theorem lo_X4_3 : Cond.methodLink RX4 3 Lib.objectInit ∈ sTb := (sTm_2 (List.mem_of_getElem? (i := 42) rfl) rfl)
theorem ca_X4_9 : Cond.classLink RX4 9 (FieldType.array .long).toString ∈ sTb := (sTm_2 (List.mem_of_getElem? (i := 43) rfl) rfl)
theorem tk_4_2 : skd (sTy 4 2) = 2 := by decide +kernel
theorem lf_X4_11 : sFl RX4 11 4 2 5 true := ⟨RX4, TX4, rfl, by decide, by decide, sIn_RX4, tyX4_ok, nmX4, (by decide +kernel), (by decide +kernel), Or.inl (sTm_2 (List.mem_of_getElem? (i := 47) rfl) rfl)⟩
theorem lg_X4_11 : sFf RX4 11 4 2 5 := ⟨TX4, rfl, by decide, by decide, sIn_RX4, tyX4_ok, nmX4, (by decide +kernel), (by decide +kernel), (sTm_2 (List.mem_of_getElem? (i := 47) rfl) rfl)⟩
theorem tk_4_3 : skd (sTy 4 3) = 2 := by decide +kernel
theorem lf_X4_17 : sFl RX4 17 4 3 5 true := ⟨RX4, TX4, rfl, by decide, by decide, sIn_RX4, tyX4_ok, nmX4, (by decide +kernel), (by decide +kernel), Or.inl (sTm_2 (List.mem_of_getElem? (i := 48) rfl) rfl)⟩
theorem lg_X4_17 : sFf RX4 17 4 3 5 := ⟨TX4, rfl, by decide, by decide, sIn_RX4, tyX4_ok, nmX4, (by decide +kernel), (by decide +kernel), (sTm_2 (List.mem_of_getElem? (i := 48) rfl) rfl)⟩
theorem tk_4_4 : skd (sTy 4 4) = 2 := by decide +kernel
theorem lf_X4_21 : sFl RX4 21 4 4 5 true := ⟨RX4, TX4, rfl, by decide, by decide, sIn_RX4, tyX4_ok, nmX4, (by decide +kernel), (by decide +kernel), Or.inl (sTm_2 (List.mem_of_getElem? (i := 49) rfl) rfl)⟩
theorem lg_X4_21 : sFf RX4 21 4 4 5 := ⟨TX4, rfl, by decide, by decide, sIn_RX4, tyX4_ok, nmX4, (by decide +kernel), (by decide +kernel), (sTm_2 (List.mem_of_getElem? (i := 49) rfl) rfl)⟩
theorem tk_4_0 : skd (sTy 4 0) = 2 := by decide +kernel
theorem lf_X4_24 : sFl RX4 24 4 0 5 true := ⟨RX4, TX4, rfl, by decide, by decide, sIn_RX4, tyX4_ok, nmX4, (by decide +kernel), (by decide +kernel), Or.inl (sTm_2 (List.mem_of_getElem? (i := 45) rfl) rfl)⟩
theorem lg_X4_24 : sFf RX4 24 4 0 5 := ⟨TX4, rfl, by decide, by decide, sIn_RX4, tyX4_ok, nmX4, (by decide +kernel), (by decide +kernel), (sTm_2 (List.mem_of_getElem? (i := 45) rfl) rfl)⟩
theorem tk_4_1 : skd (sTy 4 1) = 2 := by decide +kernel
theorem lf_X4_28 : sFl RX4 28 4 1 5 false := ⟨RX4, TX4, rfl, by decide, by decide, sIn_RX4, tyX4_ok, nmX4, (by decide +kernel), (by decide +kernel), Or.inl (sTm_2 (List.mem_of_getElem? (i := 46) rfl) rfl)⟩
theorem lm_X4_32 : sMl RX4 32 yJ7_fill_53178 := Or.inl (sTm_4 (List.mem_of_getElem? (i := 2) rfl) rfl)
theorem lf_X4_38 : sFl RX4 38 1 4 10 true := ⟨RX1, TX1, rfl, by decide, by decide, sIn_RX1, tyX1_ok, nmX1, (by decide +kernel), (by decide +kernel), Or.inr ⟨"CenturyGates", (lwm_1 (List.mem_of_getElem? (i := 156) rfl))⟩⟩
theorem lm_X4_44 : sMl RX4 44 yX9_cell := Or.inl (sTm_4 (List.mem_of_getElem? (i := 74) rfl) rfl)
theorem lf_X4_50 : sFl RX4 50 1 0 10 false := ⟨RX1, TX1, rfl, by decide, by decide, sIn_RX1, tyX1_ok, nmX1, (by decide +kernel), (by decide +kernel), Or.inr ⟨"CenturyGates", (lwm_1 (List.mem_of_getElem? (i := 140) rfl))⟩⟩
theorem lm_X4_54 : sMl RX4 54 yJ7_fill_d0a16 := Or.inl (sTm_4 (List.mem_of_getElem? (i := 87) rfl) rfl)
theorem mf_J7_fill_d0a16 : sMf yJ7_fill_d0a16 cJ7_fill_d0a16 5 none 2 := ⟨(sTm_4 (List.mem_of_getElem? (i := 89) rfl) rfl), (sTm_1 (List.mem_of_getElem? (i := 19) rfl) rfl), ⟨by decide +kernel, by decide +kernel⟩, by decide +kernel, by decide⟩
theorem ms_J7_fill_d0a16 : Cond.static yJ7_fill_d0a16 ∈ sTb := (sTm_4 (List.mem_of_getElem? (i := 88) rfl) rfl)
theorem lf_X4_57 : sFl RX4 57 9 3 4 false := ⟨RX9, TX9, rfl, by decide, by decide, sIn_RX9, tyX9_ok, nmX9, (by decide +kernel), (by decide +kernel), Or.inr ⟨"CenturyGates", (lwm_1 (List.mem_of_getElem? (i := 124) rfl))⟩⟩
theorem lf_X4_60 : sFl RX4 60 8 2 8 true := ⟨RX8, TX8, rfl, by decide, by decide, sIn_RX8, tyX8_ok, nmX8, (by decide +kernel), (by decide +kernel), Or.inr ⟨"CenturyGates", (lwm_1 (List.mem_of_getElem? (i := 211) rfl))⟩⟩
theorem lm_X4_65 : sMl RX4 65 yX4_row := Or.inl (sTm_4 (List.mem_of_getElem? (i := 90) rfl) rfl)
theorem mf_X4_row : sMf yX4_row cX4_row 8 (some (.array .long)) 2 := ⟨(sTm_4 (List.mem_of_getElem? (i := 93) rfl) rfl), (sTm_1 (List.mem_of_getElem? (i := 10) rfl) rfl), ⟨by decide +kernel, by decide +kernel⟩, by decide +kernel, by decide⟩
theorem mi_X4_row : Cond.instanceMethod yX4_row ∈ sTb ∧ Cond.selects yX4_row.cls yX4_row yX4_row ∈ sTb := ⟨(sTm_4 (List.mem_of_getElem? (i := 91) rfl) rfl), (sTm_4 (List.mem_of_getElem? (i := 92) rfl) rfl)⟩
theorem lm_X4_69 : sMl RX4 69 yX4_headOf := Or.inl (sTm_4 (List.mem_of_getElem? (i := 94) rfl) rfl)
theorem mf_X4_headOf : sMf yX4_headOf cX4_headOf 7 (some .int) 3 := ⟨(sTm_4 (List.mem_of_getElem? (i := 73) rfl) rfl), (sTm_1 (List.mem_of_getElem? (i := 10) rfl) rfl), ⟨by decide +kernel, by decide +kernel⟩, by decide +kernel, by decide⟩
theorem mi_X4_headOf : Cond.instanceMethod yX4_headOf ∈ sTb ∧ Cond.selects yX4_headOf.cls yX4_headOf yX4_headOf ∈ sTb := ⟨(sTm_4 (List.mem_of_getElem? (i := 71) rfl) rfl), (sTm_4 (List.mem_of_getElem? (i := 72) rfl) rfl)⟩
theorem lf_X4_73 : sFl RX4 73 1 1 10 true := ⟨RX1, TX1, rfl, by decide, by decide, sIn_RX1, tyX1_ok, nmX1, (by decide +kernel), (by decide +kernel), Or.inr ⟨"CenturyGates", (lwm_1 (List.mem_of_getElem? (i := 144) rfl))⟩⟩
theorem lm_X4_76 : sMl RX4 76 yX4_setFacts := Or.inl (sTm_4 (List.mem_of_getElem? (i := 95) rfl) rfl)
theorem mf_X4_setFacts : sMf yX4_setFacts cX4_setFacts 7 none 4 := ⟨(sTm_4 (List.mem_of_getElem? (i := 98) rfl) rfl), (sTm_1 (List.mem_of_getElem? (i := 10) rfl) rfl), ⟨by decide +kernel, by decide +kernel⟩, by decide +kernel, by decide⟩
theorem mi_X4_setFacts : Cond.instanceMethod yX4_setFacts ∈ sTb ∧ Cond.selects yX4_setFacts.cls yX4_setFacts yX4_setFacts ∈ sTb := ⟨(sTm_4 (List.mem_of_getElem? (i := 97) rfl) rfl), (sTs_2 (i := 14) rfl rfl)⟩
theorem lf_X4_80 : sFl RX4 80 1 6 10 true := ⟨RX1, TX1, rfl, by decide, by decide, sIn_RX1, tyX1_ok, nmX1, (by decide +kernel), (by decide +kernel), Or.inr ⟨"CenturyGates", (lwm_1 (List.mem_of_getElem? (i := 167) rfl))⟩⟩
theorem lm_X4_84 : sMl RX4 84 yX2_run := Or.inl (sTm_4 (List.mem_of_getElem? (i := 99) rfl) rfl)
theorem lm_X4_90 : sMl RX4 90 yX11_mark := Or.inr ⟨"CenturyGates", (lwm_4 (List.mem_of_getElem? (i := 127) rfl))⟩
theorem mf_X11_mark : sMf yX11_mark cX11_mark 4 none 3 := ⟨(sTm_4 (List.mem_of_getElem? (i := 129) rfl) rfl), (sTm_1 (List.mem_of_getElem? (i := 1) rfl) rfl), ⟨by decide +kernel, by decide +kernel⟩, by decide +kernel, by decide⟩
theorem ms_X11_mark : Cond.static yX11_mark ∈ sTb := (sTm_4 (List.mem_of_getElem? (i := 128) rfl) rfl)
theorem lf_X4_94 : sFl RX4 94 2 0 5 true := ⟨RX2, TX2, rfl, by decide, by decide, sIn_RX2, tyX2_ok, nmX2, (by decide +kernel), (by decide +kernel), Or.inr ⟨"CenturyGates", (lwm_2 (List.mem_of_getElem? (i := 19) rfl))⟩⟩
theorem lo_X5_3 : Cond.methodLink RX5 3 Lib.objectInit ∈ sTb := (sTm_1 (List.mem_of_getElem? (i := 79) rfl) rfl)
theorem cw_X5_9 : sCw RX5 9 6 2 := ⟨RX6, TX6, rfl, by decide, sIn_RX6, tyX6_ok, (sTm_1 (List.mem_of_getElem? (i := 80) rfl) rfl), (sTm_1 (List.mem_of_getElem? (i := 81) rfl) rfl), (sTm_1 (List.mem_of_getElem? (i := 4) rfl) rfl), by decide +kernel⟩
theorem lm_X5_11 : sMl RX5 11 yX6_init := Or.inr ⟨"CenturyGates", (lwm_1 (List.mem_of_getElem? (i := 82) rfl))⟩
theorem tk_5_1 : skd (sTy 5 1) = 2 := by decide +kernel
theorem lf_X5_12 : sFl RX5 12 5 1 2 true := ⟨RX5, TX5, rfl, by decide, by decide, sIn_RX5, tyX5_ok, nmX5, (by decide +kernel), (by decide +kernel), Or.inl (sTm_1 (List.mem_of_getElem? (i := 98) rfl) rfl)⟩
theorem lg_X5_12 : sFf RX5 12 5 1 2 := ⟨TX5, rfl, by decide, by decide, sIn_RX5, tyX5_ok, nmX5, (by decide +kernel), (by decide +kernel), (sTm_1 (List.mem_of_getElem? (i := 98) rfl) rfl)⟩
theorem tk_5_0 : skd (sTy 5 0) = 2 := by decide +kernel
theorem lf_X5_18 : sFl RX5 18 5 0 2 true := ⟨RX5, TX5, rfl, by decide, by decide, sIn_RX5, tyX5_ok, nmX5, (by decide +kernel), (by decide +kernel), Or.inl (sTm_1 (List.mem_of_getElem? (i := 97) rfl) rfl)⟩
theorem lg_X5_18 : sFf RX5 18 5 0 2 := ⟨TX5, rfl, by decide, by decide, sIn_RX5, tyX5_ok, nmX5, (by decide +kernel), (by decide +kernel), (sTm_1 (List.mem_of_getElem? (i := 97) rfl) rfl)⟩
theorem lm_X5_22 : sMl RX5 22 yX10_startReading := Or.inl (sTm_2 (List.mem_of_getElem? (i := 211) rfl) rfl)
theorem mf_X10_startReading : sMf yX10_startReading cX10_startReading 3 none 0 := ⟨(sTm_2 (List.mem_of_getElem? (i := 214) rfl) rfl), (sTm_1 (List.mem_of_getElem? (i := 2) rfl) rfl), ⟨by decide +kernel, by decide +kernel⟩, by decide +kernel, by decide⟩
theorem mi_X10_startReading : Cond.instanceMethod yX10_startReading ∈ sTb ∧ Cond.selects yX10_startReading.cls yX10_startReading yX10_startReading ∈ sTb := ⟨(sTm_2 (List.mem_of_getElem? (i := 212) rfl) rfl), (sTm_2 (List.mem_of_getElem? (i := 213) rfl) rfl)⟩
theorem mc_10 : ∃ T : u_T, 10 < 13 ∧ vwCl[10]? = some (RX10, T, 10) := ⟨TX10, by decide, rfl⟩
theorem lm_X5_27 : sMl RX5 27 yX1_clear := Or.inl (sTm_3 (List.mem_of_getElem? (i := 56) rfl) rfl)
theorem mf_X1_clear : sMf yX1_clear cX1_clear 1 none 0 := ⟨(sTm_3 (List.mem_of_getElem? (i := 59) rfl) rfl), (sTm_1 (List.mem_of_getElem? (i := 5) rfl) rfl), ⟨by decide +kernel, by decide +kernel⟩, by decide +kernel, by decide⟩
theorem mi_X1_clear : Cond.instanceMethod yX1_clear ∈ sTb ∧ Cond.selects yX1_clear.cls yX1_clear yX1_clear ∈ sTb := ⟨(sTm_3 (List.mem_of_getElem? (i := 57) rfl) rfl), (sTm_3 (List.mem_of_getElem? (i := 58) rfl) rfl)⟩
theorem mc_1 : ∃ T : u_T, 1 < 13 ∧ vwCl[1]? = some (RX1, T, 10) := ⟨TX1, by decide, rfl⟩
theorem lm_X5_32 : sMl RX5 32 yX10_isOver := Or.inl (sTm_3 (List.mem_of_getElem? (i := 60) rfl) rfl)
theorem mf_X10_isOver : sMf yX10_isOver cX10_isOver 1 (some .boolean) 0 := ⟨(sTm_3 (List.mem_of_getElem? (i := 63) rfl) rfl), (sTm_1 (List.mem_of_getElem? (i := 2) rfl) rfl), ⟨by decide +kernel, by decide +kernel⟩, by decide +kernel, by decide⟩
theorem mi_X10_isOver : Cond.instanceMethod yX10_isOver ∈ sTb ∧ Cond.selects yX10_isOver.cls yX10_isOver yX10_isOver ∈ sTb := ⟨(sTm_3 (List.mem_of_getElem? (i := 61) rfl) rfl), (sTm_3 (List.mem_of_getElem? (i := 62) rfl) rfl)⟩
theorem lm_X5_36 : sMl RX5 36 yX5_readStatement := Or.inl (sTm_3 (List.mem_of_getElem? (i := 64) rfl) rfl)
theorem mf_X5_readStatement : sMf yX5_readStatement cX5_readStatement 5 none 2 := ⟨(sTm_3 (List.mem_of_getElem? (i := 67) rfl) rfl), (sTm_1 (List.mem_of_getElem? (i := 3) rfl) rfl), ⟨by decide +kernel, by decide +kernel⟩, by decide +kernel, by decide⟩
theorem mi_X5_readStatement : Cond.instanceMethod yX5_readStatement ∈ sTb ∧ Cond.selects yX5_readStatement.cls yX5_readStatement yX5_readStatement ∈ sTb := ⟨(sTm_3 (List.mem_of_getElem? (i := 66) rfl) rfl), (sTs_1 (i := 8) rfl rfl)⟩
theorem mc_5 : ∃ T : u_T, 5 < 13 ∧ vwCl[5]? = some (RX5, T, 2) := ⟨TX5, by decide, rfl⟩
theorem lm_X5_40 : sMl RX5 40 yX10_needSign := Or.inl (sTm_3 (List.mem_of_getElem? (i := 146) rfl) rfl)
theorem mf_X10_needSign : sMf yX10_needSign cX10_needSign 2 none 1 := ⟨(sTm_3 (List.mem_of_getElem? (i := 149) rfl) rfl), (sTm_1 (List.mem_of_getElem? (i := 2) rfl) rfl), ⟨by decide +kernel, by decide +kernel⟩, by decide +kernel, by decide⟩
theorem mi_X10_needSign : Cond.instanceMethod yX10_needSign ∈ sTb ∧ Cond.selects yX10_needSign.cls yX10_needSign yX10_needSign ∈ sTb := ⟨(sTm_3 (List.mem_of_getElem? (i := 147) rfl) rfl), (sTm_3 (List.mem_of_getElem? (i := 148) rfl) rfl)⟩
theorem lm_X5_44 : sMl RX5 44 yX10_place := Or.inl (sTm_3 (List.mem_of_getElem? (i := 68) rfl) rfl)
theorem mf_X10_place : sMf yX10_place cX10_place 1 (some .int) 0 := ⟨(sTm_3 (List.mem_of_getElem? (i := 71) rfl) rfl), (sTm_1 (List.mem_of_getElem? (i := 2) rfl) rfl), ⟨by decide +kernel, by decide +kernel⟩, by decide +kernel, by decide⟩
theorem mi_X10_place : Cond.instanceMethod yX10_place ∈ sTb ∧ Cond.selects yX10_place.cls yX10_place yX10_place ∈ sTb := ⟨(sTm_3 (List.mem_of_getElem? (i := 69) rfl) rfl), (sTm_3 (List.mem_of_getElem? (i := 70) rfl) rfl)⟩
theorem lm_X5_48 : sMl RX5 48 yX10_fail := Or.inl (sTm_3 (List.mem_of_getElem? (i := 76) rfl) rfl)
theorem mf_X10_fail : sMf yX10_fail cX10_fail 3 none 2 := ⟨(sTm_3 (List.mem_of_getElem? (i := 79) rfl) rfl), (sTm_1 (List.mem_of_getElem? (i := 2) rfl) rfl), ⟨by decide +kernel, by decide +kernel⟩, by decide +kernel, by decide⟩
theorem mi_X10_fail : Cond.instanceMethod yX10_fail ∈ sTb ∧ Cond.selects yX10_fail.cls yX10_fail yX10_fail ∈ sTb := ⟨(sTm_3 (List.mem_of_getElem? (i := 77) rfl) rfl), (sTm_3 (List.mem_of_getElem? (i := 78) rfl) rfl)⟩
theorem lm_X5_52 : sMl RX5 52 yX1_fillIn := Or.inl (sTm_3 (List.mem_of_getElem? (i := 229) rfl) rfl)
theorem mf_X1_fillIn : sMf yX1_fillIn cX1_fillIn 1 none 0 := ⟨(sTm_3 (List.mem_of_getElem? (i := 232) rfl) rfl), (sTm_1 (List.mem_of_getElem? (i := 5) rfl) rfl), ⟨by decide +kernel, by decide +kernel⟩, by decide +kernel, by decide⟩
theorem mi_X1_fillIn : Cond.instanceMethod yX1_fillIn ∈ sTb ∧ Cond.selects yX1_fillIn.cls yX1_fillIn yX1_fillIn ∈ sTb := ⟨(sTm_3 (List.mem_of_getElem? (i := 230) rfl) rfl), (sTm_3 (List.mem_of_getElem? (i := 231) rfl) rfl)⟩
theorem lm_X5_55 : sMl RX5 55 yX10_isGood := Or.inl (sTm_3 (List.mem_of_getElem? (i := 118) rfl) rfl)
theorem mf_X10_isGood : sMf yX10_isGood cX10_isGood 1 (some .boolean) 0 := ⟨(sTm_3 (List.mem_of_getElem? (i := 121) rfl) rfl), (sTm_1 (List.mem_of_getElem? (i := 2) rfl) rfl), ⟨by decide +kernel, by decide +kernel⟩, by decide +kernel, by decide⟩
theorem mi_X10_isGood : Cond.instanceMethod yX10_isGood ∈ sTb ∧ Cond.selects yX10_isGood.cls yX10_isGood yX10_isGood ∈ sTb := ⟨(sTm_3 (List.mem_of_getElem? (i := 119) rfl) rfl), (sTm_3 (List.mem_of_getElem? (i := 120) rfl) rfl)⟩
theorem lf_X5_58 : sFl RX5 58 6 1 2 false := ⟨RX6, TX6, rfl, by decide, by decide, sIn_RX6, tyX6_ok, nmX6, (by decide +kernel), (by decide +kernel), Or.inr ⟨"CenturyGates", (lwm_1 (List.mem_of_getElem? (i := 91) rfl))⟩⟩
theorem lm_X5_62 : sMl RX5 62 yX10_word := Or.inl (sTm_3 (List.mem_of_getElem? (i := 72) rfl) rfl)
theorem mf_X10_word : sMf yX10_word cX10_word 1 (some .int) 0 := ⟨(sTm_3 (List.mem_of_getElem? (i := 75) rfl) rfl), (sTm_1 (List.mem_of_getElem? (i := 2) rfl) rfl), ⟨by decide +kernel, by decide +kernel⟩, by decide +kernel, by decide⟩
theorem mi_X10_word : Cond.instanceMethod yX10_word ∈ sTb ∧ Cond.selects yX10_word.cls yX10_word yX10_word ∈ sTb := ⟨(sTm_3 (List.mem_of_getElem? (i := 73) rfl) rfl), (sTm_3 (List.mem_of_getElem? (i := 74) rfl) rfl)⟩
theorem lm_X5_65 : sMl RX5 65 yX10_needWord := Or.inl (sTm_3 (List.mem_of_getElem? (i := 83) rfl) rfl)
theorem mf_X10_needWord : sMf yX10_needWord cX10_needWord 2 none 1 := ⟨(sTm_3 (List.mem_of_getElem? (i := 86) rfl) rfl), (sTm_1 (List.mem_of_getElem? (i := 2) rfl) rfl), ⟨by decide +kernel, by decide +kernel⟩, by decide +kernel, by decide⟩
theorem mi_X10_needWord : Cond.instanceMethod yX10_needWord ∈ sTb ∧ Cond.selects yX10_needWord.cls yX10_needWord yX10_needWord ∈ sTb := ⟨(sTm_3 (List.mem_of_getElem? (i := 84) rfl) rfl), (sTm_3 (List.mem_of_getElem? (i := 85) rfl) rfl)⟩
theorem kl_X5_69 : Cond.constantLong RX5 69 (132124708) ∈ sTb := (sTm_5 (List.mem_of_getElem? (i := 141) rfl) rfl)
theorem lm_X5_71 : sMl RX5 71 yX5_readTest := Or.inl (sTm_3 (List.mem_of_getElem? (i := 101) rfl) rfl)
theorem mf_X5_readTest : sMf yX5_readTest cX5_readTest 6 none 3 := ⟨(sTm_3 (List.mem_of_getElem? (i := 104) rfl) rfl), (sTm_1 (List.mem_of_getElem? (i := 3) rfl) rfl), ⟨by decide +kernel, by decide +kernel⟩, by decide +kernel, by decide⟩
theorem mi_X5_readTest : Cond.instanceMethod yX5_readTest ∈ sTb ∧ Cond.selects yX5_readTest.cls yX5_readTest yX5_readTest ∈ sTb := ⟨(sTm_3 (List.mem_of_getElem? (i := 103) rfl) rfl), (sTs_1 (i := 11) rfl rfl)⟩
theorem lm_X5_75 : sMl RX5 75 yX5_readSum := Or.inl (sTm_3 (List.mem_of_getElem? (i := 151) rfl) rfl)
theorem mf_X5_readSum : sMf yX5_readSum cX5_readSum 8 none 3 := ⟨(sTm_3 (List.mem_of_getElem? (i := 154) rfl) rfl), (sTm_1 (List.mem_of_getElem? (i := 3) rfl) rfl), ⟨by decide +kernel, by decide +kernel⟩, by decide +kernel, by decide⟩
theorem mi_X5_readSum : Cond.instanceMethod yX5_readSum ∈ sTb ∧ Cond.selects yX5_readSum.cls yX5_readSum yX5_readSum ∈ sTb := ⟨(sTm_3 (List.mem_of_getElem? (i := 153) rfl) rfl), (sTs_1 (i := 15) rfl rfl)⟩
theorem lf_X5_78 : sFl RX5 78 1 6 10 true := ⟨RX1, TX1, rfl, by decide, by decide, sIn_RX1, tyX1_ok, nmX1, (by decide +kernel), (by decide +kernel), Or.inr ⟨"CenturyGates", (lwm_1 (List.mem_of_getElem? (i := 166) rfl))⟩⟩
theorem lm_X5_81 : sMl RX5 81 yX5_isNew := Or.inl (sTm_3 (List.mem_of_getElem? (i := 96) rfl) rfl)
theorem mf_X5_isNew : sMf yX5_isNew cX5_isNew 3 (some .boolean) 2 := ⟨(sTm_3 (List.mem_of_getElem? (i := 99) rfl) rfl), (sTm_1 (List.mem_of_getElem? (i := 3) rfl) rfl), ⟨by decide +kernel, by decide +kernel⟩, by decide +kernel, by decide⟩
theorem mi_X5_isNew : Cond.instanceMethod yX5_isNew ∈ sTb ∧ Cond.selects yX5_isNew.cls yX5_isNew yX5_isNew ∈ sTb := ⟨(sTm_3 (List.mem_of_getElem? (i := 98) rfl) rfl), (sTs_1 (i := 10) rfl rfl)⟩
theorem kl_X5_85 : Cond.constantLong RX5 85 (1838080) ∈ sTb := (sTm_3 (List.mem_of_getElem? (i := 100) rfl) rfl)
theorem lf_X5_87 : sFl RX5 87 1 7 10 true := ⟨RX1, TX1, rfl, by decide, by decide, sIn_RX1, tyX1_ok, nmX1, (by decide +kernel), (by decide +kernel), Or.inr ⟨"CenturyGates", (lwm_1 (List.mem_of_getElem? (i := 169) rfl))⟩⟩
theorem kl_X5_90 : Cond.constantLong RX5 90 (6327296) ∈ sTb := (sTm_3 (List.mem_of_getElem? (i := 179) rfl) rfl)
theorem lf_X5_92 : sFl RX5 92 1 8 10 true := ⟨RX1, TX1, rfl, by decide, by decide, sIn_RX1, tyX1_ok, nmX1, (by decide +kernel), (by decide +kernel), Or.inr ⟨"CenturyGates", (lwm_1 (List.mem_of_getElem? (i := 172) rfl))⟩⟩
theorem kl_X5_95 : Cond.constantLong RX5 95 (14680064) ∈ sTb := (sTm_3 (List.mem_of_getElem? (i := 180) rfl) rfl)
theorem lm_X5_97 : sMl RX5 97 yX5_readThing := Or.inl (sTm_3 (List.mem_of_getElem? (i := 181) rfl) rfl)
theorem mf_X5_readThing : sMf yX5_readThing cX5_readThing 4 none 3 := ⟨(sTm_3 (List.mem_of_getElem? (i := 184) rfl) rfl), (sTm_1 (List.mem_of_getElem? (i := 3) rfl) rfl), ⟨by decide +kernel, by decide +kernel⟩, by decide +kernel, by decide⟩
theorem mi_X5_readThing : Cond.instanceMethod yX5_readThing ∈ sTb ∧ Cond.selects yX5_readThing.cls yX5_readThing yX5_readThing ∈ sTb := ⟨(sTm_3 (List.mem_of_getElem? (i := 183) rfl) rfl), (sTs_2 (i := 4) rfl rfl)⟩
theorem lm_X5_101 : sMl RX5 101 yX10_number := Or.inl (sTm_3 (List.mem_of_getElem? (i := 167) rfl) rfl)
theorem mf_X10_number : sMf yX10_number cX10_number 5 (some .int) 2 := ⟨(sTm_3 (List.mem_of_getElem? (i := 170) rfl) rfl), (sTm_1 (List.mem_of_getElem? (i := 2) rfl) rfl), ⟨by decide +kernel, by decide +kernel⟩, by decide +kernel, by decide⟩
theorem mi_X10_number : Cond.instanceMethod yX10_number ∈ sTb ∧ Cond.selects yX10_number.cls yX10_number yX10_number ∈ sTb := ⟨(sTm_3 (List.mem_of_getElem? (i := 168) rfl) rfl), (sTm_3 (List.mem_of_getElem? (i := 169) rfl) rfl)⟩
theorem lf_X5_105 : sFl RX5 105 1 0 10 false := ⟨RX1, TX1, rfl, by decide, by decide, sIn_RX1, tyX1_ok, nmX1, (by decide +kernel), (by decide +kernel), Or.inr ⟨"CenturyGates", (lwm_1 (List.mem_of_getElem? (i := 141) rfl))⟩⟩
theorem lm_X5_108 : sMl RX5 108 yX5_readGate := Or.inl (sTm_3 (List.mem_of_getElem? (i := 185) rfl) rfl)
theorem mf_X5_readGate : sMf yX5_readGate cX5_readGate 4 none 2 := ⟨(sTm_3 (List.mem_of_getElem? (i := 188) rfl) rfl), (sTm_1 (List.mem_of_getElem? (i := 3) rfl) rfl), ⟨by decide +kernel, by decide +kernel⟩, by decide +kernel, by decide⟩
theorem mi_X5_readGate : Cond.instanceMethod yX5_readGate ∈ sTb ∧ Cond.selects yX5_readGate.cls yX5_readGate yX5_readGate ∈ sTb := ⟨(sTm_3 (List.mem_of_getElem? (i := 187) rfl) rfl), (sTs_2 (i := 5) rfl rfl)⟩
theorem lm_X5_112 : sMl RX5 112 yX5_readPlace := Or.inl (sTm_3 (List.mem_of_getElem? (i := 209) rfl) rfl)
theorem mf_X5_readPlace : sMf yX5_readPlace cX5_readPlace 3 none 2 := ⟨(sTm_3 (List.mem_of_getElem? (i := 212) rfl) rfl), (sTm_1 (List.mem_of_getElem? (i := 3) rfl) rfl), ⟨by decide +kernel, by decide +kernel⟩, by decide +kernel, by decide⟩
theorem mi_X5_readPlace : Cond.instanceMethod yX5_readPlace ∈ sTb ∧ Cond.selects yX5_readPlace.cls yX5_readPlace yX5_readPlace ∈ sTb := ⟨(sTm_3 (List.mem_of_getElem? (i := 211) rfl) rfl), (sTs_2 (i := 8) rfl rfl)⟩
theorem lm_X5_115 : sMl RX5 115 yX5_readWay := Or.inl (sTm_3 (List.mem_of_getElem? (i := 213) rfl) rfl)
theorem mf_X5_readWay : sMf yX5_readWay cX5_readWay 8 none 3 := ⟨(sTm_3 (List.mem_of_getElem? (i := 216) rfl) rfl), (sTm_1 (List.mem_of_getElem? (i := 3) rfl) rfl), ⟨by decide +kernel, by decide +kernel⟩, by decide +kernel, by decide⟩
theorem mi_X5_readWay : Cond.instanceMethod yX5_readWay ∈ sTb ∧ Cond.selects yX5_readWay.cls yX5_readWay yX5_readWay ∈ sTb := ⟨(sTm_3 (List.mem_of_getElem? (i := 215) rfl) rfl), (sTs_2 (i := 9) rfl rfl)⟩
theorem lm_X5_119 : sMl RX5 119 yX5_readEra := Or.inl (sTm_3 (List.mem_of_getElem? (i := 221) rfl) rfl)
theorem mf_X5_readEra : sMf yX5_readEra cX5_readEra 6 none 2 := ⟨(sTm_3 (List.mem_of_getElem? (i := 224) rfl) rfl), (sTm_1 (List.mem_of_getElem? (i := 3) rfl) rfl), ⟨by decide +kernel, by decide +kernel⟩, by decide +kernel, by decide⟩
theorem mi_X5_readEra : Cond.instanceMethod yX5_readEra ∈ sTb ∧ Cond.selects yX5_readEra.cls yX5_readEra yX5_readEra ∈ sTb := ⟨(sTm_3 (List.mem_of_getElem? (i := 223) rfl) rfl), (sTs_2 (i := 11) rfl rfl)⟩
theorem lm_X5_122 : sMl RX5 122 yX5_readCar := Or.inl (sTm_3 (List.mem_of_getElem? (i := 225) rfl) rfl)
theorem mf_X5_readCar : sMf yX5_readCar cX5_readCar 6 none 2 := ⟨(sTm_3 (List.mem_of_getElem? (i := 228) rfl) rfl), (sTm_1 (List.mem_of_getElem? (i := 3) rfl) rfl), ⟨by decide +kernel, by decide +kernel⟩, by decide +kernel, by decide⟩
theorem mi_X5_readCar : Cond.instanceMethod yX5_readCar ∈ sTb ∧ Cond.selects yX5_readCar.cls yX5_readCar yX5_readCar ∈ sTb := ⟨(sTm_3 (List.mem_of_getElem? (i := 227) rfl) rfl), (sTs_2 (i := 12) rfl rfl)⟩
theorem lf_X5_125 : sFl RX5 125 1 9 10 false := ⟨RX1, TX1, rfl, by decide, by decide, sIn_RX1, tyX1_ok, nmX1, (by decide +kernel), (by decide +kernel), Or.inr ⟨"CenturyGates", (lwm_1 (List.mem_of_getElem? (i := 175) rfl))⟩⟩
theorem lf_X5_128 : sFl RX5 128 1 1 10 true := ⟨RX1, TX1, rfl, by decide, by decide, sIn_RX1, tyX1_ok, nmX1, (by decide +kernel), (by decide +kernel), Or.inr ⟨"CenturyGates", (lwm_1 (List.mem_of_getElem? (i := 145) rfl))⟩⟩
theorem lm_X5_132 : sMl RX5 132 yX5_isFull := Or.inl (sTm_3 (List.mem_of_getElem? (i := 189) rfl) rfl)
theorem mf_X5_isFull : sMf yX5_isFull cX5_isFull 3 (some .boolean) 2 := ⟨(sTm_3 (List.mem_of_getElem? (i := 192) rfl) rfl), (sTm_1 (List.mem_of_getElem? (i := 3) rfl) rfl), ⟨by decide +kernel, by decide +kernel⟩, by decide +kernel, by decide⟩
theorem mi_X5_isFull : Cond.instanceMethod yX5_isFull ∈ sTb ∧ Cond.selects yX5_isFull.cls yX5_isFull yX5_isFull ∈ sTb := ⟨(sTm_3 (List.mem_of_getElem? (i := 191) rfl) rfl), (sTs_2 (i := 6) rfl rfl)⟩
theorem lm_X5_136 : sMl RX5 136 yX5_newName := Or.inl (sTm_3 (List.mem_of_getElem? (i := 193) rfl) rfl)
theorem mf_X5_newName : sMf yX5_newName cX5_newName 4 (some .int) 1 := ⟨(sTm_3 (List.mem_of_getElem? (i := 196) rfl) rfl), (sTm_1 (List.mem_of_getElem? (i := 3) rfl) rfl), ⟨by decide +kernel, by decide +kernel⟩, by decide +kernel, by decide⟩
theorem mi_X5_newName : Cond.instanceMethod yX5_newName ∈ sTb ∧ Cond.selects yX5_newName.cls yX5_newName yX5_newName ∈ sTb := ⟨(sTm_3 (List.mem_of_getElem? (i := 195) rfl) rfl), (sTs_2 (i := 7) rfl rfl)⟩
theorem lm_X5_140 : sMl RX5 140 yX9_add := Or.inl (sTm_3 (List.mem_of_getElem? (i := 205) rfl) rfl)
theorem mf_X9_add : sMf yX9_add cX9_add 6 none 5 := ⟨(sTm_3 (List.mem_of_getElem? (i := 208) rfl) rfl), (sTm_1 (List.mem_of_getElem? (i := 6) rfl) rfl), ⟨by decide +kernel, by decide +kernel⟩, by decide +kernel, by decide⟩
theorem mi_X9_add : Cond.instanceMethod yX9_add ∈ sTb ∧ Cond.selects yX9_add.cls yX9_add yX9_add ∈ sTb := ⟨(sTm_3 (List.mem_of_getElem? (i := 206) rfl) rfl), (sTm_3 (List.mem_of_getElem? (i := 207) rfl) rfl)⟩
theorem lf_X5_146 : sFl RX5 146 1 2 10 true := ⟨RX1, TX1, rfl, by decide, by decide, sIn_RX1, tyX1_ok, nmX1, (by decide +kernel), (by decide +kernel), Or.inr ⟨"CenturyGates", (lwm_1 (List.mem_of_getElem? (i := 150) rfl))⟩⟩
theorem lf_X5_149 : sFl RX5 149 1 3 10 true := ⟨RX1, TX1, rfl, by decide, by decide, sIn_RX1, tyX1_ok, nmX1, (by decide +kernel), (by decide +kernel), Or.inr ⟨"CenturyGates", (lwm_1 (List.mem_of_getElem? (i := 154) rfl))⟩⟩
theorem lm_X5_152 : sMl RX5 152 yX5_oldName := Or.inl (sTm_3 (List.mem_of_getElem? (i := 217) rfl) rfl)
theorem mf_X5_oldName : sMf yX5_oldName cX5_oldName 5 (some .int) 2 := ⟨(sTm_3 (List.mem_of_getElem? (i := 220) rfl) rfl), (sTm_1 (List.mem_of_getElem? (i := 3) rfl) rfl), ⟨by decide +kernel, by decide +kernel⟩, by decide +kernel, by decide⟩
theorem mi_X5_oldName : Cond.instanceMethod yX5_oldName ∈ sTb ∧ Cond.selects yX5_oldName.cls yX5_oldName yX5_oldName ∈ sTb := ⟨(sTm_3 (List.mem_of_getElem? (i := 219) rfl) rfl), (sTs_2 (i := 10) rfl rfl)⟩
theorem lf_X5_156 : sFl RX5 156 1 4 10 true := ⟨RX1, TX1, rfl, by decide, by decide, sIn_RX1, tyX1_ok, nmX1, (by decide +kernel), (by decide +kernel), Or.inr ⟨"CenturyGates", (lwm_1 (List.mem_of_getElem? (i := 159) rfl))⟩⟩
theorem lf_X5_159 : sFl RX5 159 1 5 10 true := ⟨RX1, TX1, rfl, by decide, by decide, sIn_RX1, tyX1_ok, nmX1, (by decide +kernel), (by decide +kernel), Or.inr ⟨"CenturyGates", (lwm_1 (List.mem_of_getElem? (i := 164) rfl))⟩⟩
theorem lf_X5_162 : sFl RX5 162 9 3 4 false := ⟨RX9, TX9, rfl, by decide, by decide, sIn_RX9, tyX9_ok, nmX9, (by decide +kernel), (by decide +kernel), Or.inr ⟨"CenturyGates", (lwm_1 (List.mem_of_getElem? (i := 127) rfl))⟩⟩
theorem tk_9_0 : skd (sTy 9 0) = 0 := by decide +kernel
theorem lf_X5_165 : sFl RX5 165 9 0 4 true := ⟨RX9, TX9, rfl, by decide, by decide, sIn_RX9, tyX9_ok, nmX9, (by decide +kernel), (by decide +kernel), Or.inr ⟨"CenturyGates", (lwm_1 (List.mem_of_getElem? (i := 118) rfl))⟩⟩
theorem lm_X5_168 : sMl RX5 168 yX10_name := Or.inl (sTm_3 (List.mem_of_getElem? (i := 197) rfl) rfl)
theorem mf_X10_name : sMf yX10_name cX10_name 6 (some .int) 0 := ⟨(sTm_3 (List.mem_of_getElem? (i := 200) rfl) rfl), (sTm_1 (List.mem_of_getElem? (i := 2) rfl) rfl), ⟨by decide +kernel, by decide +kernel⟩, by decide +kernel, by decide⟩
theorem mi_X10_name : Cond.instanceMethod yX10_name ∈ sTb ∧ Cond.selects yX10_name.cls yX10_name yX10_name ∈ sTb := ⟨(sTm_3 (List.mem_of_getElem? (i := 198) rfl) rfl), (sTm_3 (List.mem_of_getElem? (i := 199) rfl) rfl)⟩
theorem lm_X5_171 : sMl RX5 171 yX9_find := Or.inl (sTm_3 (List.mem_of_getElem? (i := 201) rfl) rfl)
theorem mf_X9_find : sMf yX9_find cX9_find 3 (some .int) 1 := ⟨(sTm_3 (List.mem_of_getElem? (i := 204) rfl) rfl), (sTm_1 (List.mem_of_getElem? (i := 6) rfl) rfl), ⟨by decide +kernel, by decide +kernel⟩, by decide +kernel, by decide⟩
theorem mi_X9_find : Cond.instanceMethod yX9_find ∈ sTb ∧ Cond.selects yX9_find.cls yX9_find yX9_find ∈ sTb := ⟨(sTm_3 (List.mem_of_getElem? (i := 202) rfl) rfl), (sTm_3 (List.mem_of_getElem? (i := 203) rfl) rfl)⟩
theorem lm_X5_175 : sMl RX5 175 yX5_readBoth := Or.inl (sTm_3 (List.mem_of_getElem? (i := 105) rfl) rfl)
theorem mf_X5_readBoth : sMf yX5_readBoth cX5_readBoth 6 none 3 := ⟨(sTm_3 (List.mem_of_getElem? (i := 108) rfl) rfl), (sTm_1 (List.mem_of_getElem? (i := 3) rfl) rfl), ⟨by decide +kernel, by decide +kernel⟩, by decide +kernel, by decide⟩
theorem mi_X5_readBoth : Cond.instanceMethod yX5_readBoth ∈ sTb ∧ Cond.selects yX5_readBoth.cls yX5_readBoth yX5_readBoth ∈ sTb := ⟨(sTm_3 (List.mem_of_getElem? (i := 107) rfl) rfl), (sTs_1 (i := 12) rfl rfl)⟩
theorem lm_X5_178 : sMl RX5 178 yX10_takesWord := Or.inl (sTm_3 (List.mem_of_getElem? (i := 113) rfl) rfl)
theorem mf_X10_takesWord : sMf yX10_takesWord cX10_takesWord 2 (some .boolean) 1 := ⟨(sTm_3 (List.mem_of_getElem? (i := 90) rfl) rfl), (sTm_1 (List.mem_of_getElem? (i := 2) rfl) rfl), ⟨by decide +kernel, by decide +kernel⟩, by decide +kernel, by decide⟩
theorem mi_X10_takesWord : Cond.instanceMethod yX10_takesWord ∈ sTb ∧ Cond.selects yX10_takesWord.cls yX10_takesWord yX10_takesWord ∈ sTb := ⟨(sTm_3 (List.mem_of_getElem? (i := 88) rfl) rfl), (sTm_3 (List.mem_of_getElem? (i := 89) rfl) rfl)⟩
theorem lm_X5_182 : sMl RX5 182 yX6_add := Or.inl (sTm_3 (List.mem_of_getElem? (i := 122) rfl) rfl)
theorem lm_X5_184 : sMl RX5 184 yX5_readFact := Or.inl (sTm_3 (List.mem_of_getElem? (i := 109) rfl) rfl)
theorem mf_X5_readFact : sMf yX5_readFact cX5_readFact 7 none 3 := ⟨(sTm_3 (List.mem_of_getElem? (i := 112) rfl) rfl), (sTm_1 (List.mem_of_getElem? (i := 3) rfl) rfl), ⟨by decide +kernel, by decide +kernel⟩, by decide +kernel, by decide⟩
theorem mi_X5_readFact : Cond.instanceMethod yX5_readFact ∈ sTb ∧ Cond.selects yX5_readFact.cls yX5_readFact yX5_readFact ∈ sTb := ⟨(sTm_3 (List.mem_of_getElem? (i := 111) rfl) rfl), (sTs_1 (i := 13) rfl rfl)⟩
theorem lm_X5_187 : sMl RX5 187 yX5_mayOpen := Or.inl (sTm_3 (List.mem_of_getElem? (i := 114) rfl) rfl)
theorem mf_X5_mayOpen : sMf yX5_mayOpen cX5_mayOpen 3 (some .boolean) 2 := ⟨(sTm_3 (List.mem_of_getElem? (i := 117) rfl) rfl), (sTm_1 (List.mem_of_getElem? (i := 3) rfl) rfl), ⟨by decide +kernel, by decide +kernel⟩, by decide +kernel, by decide⟩
theorem mi_X5_mayOpen : Cond.instanceMethod yX5_mayOpen ∈ sTb ∧ Cond.selects yX5_mayOpen.cls yX5_mayOpen yX5_mayOpen ∈ sTb := ⟨(sTm_3 (List.mem_of_getElem? (i := 116) rfl) rfl), (sTs_1 (i := 14) rfl rfl)⟩
theorem lm_X5_191 : sMl RX5 191 yX10_takesSign := Or.inl (sTm_3 (List.mem_of_getElem? (i := 142) rfl) rfl)
theorem mf_X10_takesSign : sMf yX10_takesSign cX10_takesSign 2 (some .boolean) 1 := ⟨(sTm_3 (List.mem_of_getElem? (i := 145) rfl) rfl), (sTm_1 (List.mem_of_getElem? (i := 2) rfl) rfl), ⟨by decide +kernel, by decide +kernel⟩, by decide +kernel, by decide⟩
theorem mi_X10_takesSign : Cond.instanceMethod yX10_takesSign ∈ sTb ∧ Cond.selects yX10_takesSign.cls yX10_takesSign yX10_takesSign ∈ sTb := ⟨(sTm_3 (List.mem_of_getElem? (i := 143) rfl) rfl), (sTm_3 (List.mem_of_getElem? (i := 144) rfl) rfl)⟩
theorem lm_X5_195 : sMl RX5 195 yX5_readSign := Or.inl (sTm_3 (List.mem_of_getElem? (i := 175) rfl) rfl)
theorem mf_X5_readSign : sMf yX5_readSign cX5_readSign 1 (some .int) 0 := ⟨(sTm_3 (List.mem_of_getElem? (i := 178) rfl) rfl), (sTm_1 (List.mem_of_getElem? (i := 3) rfl) rfl), ⟨by decide +kernel, by decide +kernel⟩, by decide +kernel, by decide⟩
theorem mi_X5_readSign : Cond.instanceMethod yX5_readSign ∈ sTb ∧ Cond.selects yX5_readSign.cls yX5_readSign yX5_readSign ∈ sTb := ⟨(sTm_3 (List.mem_of_getElem? (i := 177) rfl) rfl), (sTs_2 (i := 3) rfl rfl)⟩
theorem lm_X5_198 : sMl RX5 198 yX5_readProduct := Or.inl (sTm_3 (List.mem_of_getElem? (i := 155) rfl) rfl)
theorem mf_X5_readProduct : sMf yX5_readProduct cX5_readProduct 8 none 3 := ⟨(sTm_3 (List.mem_of_getElem? (i := 158) rfl) rfl), (sTm_1 (List.mem_of_getElem? (i := 3) rfl) rfl), ⟨by decide +kernel, by decide +kernel⟩, by decide +kernel, by decide⟩
theorem mi_X5_readProduct : Cond.instanceMethod yX5_readProduct ∈ sTb ∧ Cond.selects yX5_readProduct.cls yX5_readProduct yX5_readProduct ∈ sTb := ⟨(sTm_3 (List.mem_of_getElem? (i := 157) rfl) rfl), (sTs_2 (i := 0) rfl rfl)⟩
theorem lm_X5_201 : sMl RX5 201 yX5_readPart := Or.inl (sTm_3 (List.mem_of_getElem? (i := 159) rfl) rfl)
theorem mf_X5_readPart : sMf yX5_readPart cX5_readPart 8 none 3 := ⟨(sTm_3 (List.mem_of_getElem? (i := 162) rfl) rfl), (sTm_1 (List.mem_of_getElem? (i := 3) rfl) rfl), ⟨by decide +kernel, by decide +kernel⟩, by decide +kernel, by decide⟩
theorem mi_X5_readPart : Cond.instanceMethod yX5_readPart ∈ sTb ∧ Cond.selects yX5_readPart.cls yX5_readPart yX5_readPart ∈ sTb := ⟨(sTm_3 (List.mem_of_getElem? (i := 161) rfl) rfl), (sTs_2 (i := 1) rfl rfl)⟩
theorem lm_X5_204 : sMl RX5 204 yX10_isAtNumber := Or.inl (sTm_3 (List.mem_of_getElem? (i := 163) rfl) rfl)
theorem mf_X10_isAtNumber : sMf yX10_isAtNumber cX10_isAtNumber 1 (some .boolean) 0 := ⟨(sTm_3 (List.mem_of_getElem? (i := 166) rfl) rfl), (sTm_1 (List.mem_of_getElem? (i := 2) rfl) rfl), ⟨by decide +kernel, by decide +kernel⟩, by decide +kernel, by decide⟩
theorem mi_X10_isAtNumber : Cond.instanceMethod yX10_isAtNumber ∈ sTb ∧ Cond.selects yX10_isAtNumber.cls yX10_isAtNumber yX10_isAtNumber ∈ sTb := ⟨(sTm_3 (List.mem_of_getElem? (i := 164) rfl) rfl), (sTm_3 (List.mem_of_getElem? (i := 165) rfl) rfl)⟩
theorem lm_X5_207 : sMl RX5 207 yX5_readPair := Or.inl (sTm_3 (List.mem_of_getElem? (i := 171) rfl) rfl)
theorem mf_X5_readPair : sMf yX5_readPair cX5_readPair 7 none 4 := ⟨(sTm_3 (List.mem_of_getElem? (i := 174) rfl) rfl), (sTm_1 (List.mem_of_getElem? (i := 3) rfl) rfl), ⟨by decide +kernel, by decide +kernel⟩, by decide +kernel, by decide⟩
theorem mi_X5_readPair : Cond.instanceMethod yX5_readPair ∈ sTb ∧ Cond.selects yX5_readPair.cls yX5_readPair yX5_readPair ∈ sTb := ⟨(sTm_3 (List.mem_of_getElem? (i := 173) rfl) rfl), (sTs_2 (i := 2) rfl rfl)⟩
theorem lo_X6_3 : Cond.methodLink RX6 3 Lib.objectInit ∈ sTb := (sTm_1 (List.mem_of_getElem? (i := 85) rfl) rfl)
theorem lf_X6_9 : sFl RX6 9 6 0 2 false := ⟨RX6, TX6, rfl, by decide, by decide, sIn_RX6, tyX6_ok, nmX6, (by decide +kernel), (by decide +kernel), Or.inl (sTm_1 (List.mem_of_getElem? (i := 86) rfl) rfl)⟩
theorem lf_X6_15 : sFl RX6 15 6 1 2 false := ⟨RX6, TX6, rfl, by decide, by decide, sIn_RX6, tyX6_ok, nmX6, (by decide +kernel), (by decide +kernel), Or.inl (sTm_1 (List.mem_of_getElem? (i := 88) rfl) rfl)⟩
theorem lm_X6_19 : sMl RX6 19 yJ7_copyOf_59c91 := Or.inl (sTm_3 (List.mem_of_getElem? (i := 126) rfl) rfl)
theorem mf_J7_copyOf_59c91 : sMf yJ7_copyOf_59c91 cJ7_copyOf_59c91 3 (some (.array .int)) 2 := ⟨(sTm_3 (List.mem_of_getElem? (i := 128) rfl) rfl), (sTm_1 (List.mem_of_getElem? (i := 19) rfl) rfl), ⟨by decide +kernel, by decide +kernel⟩, by decide +kernel, by decide⟩
theorem ms_J7_copyOf_59c91 : Cond.static yJ7_copyOf_59c91 ∈ sTb := (sTm_3 (List.mem_of_getElem? (i := 127) rfl) rfl)
theorem lo_X7_3 : Cond.methodLink RX7 3 Lib.objectInit ∈ sTb := (sTm_2 (List.mem_of_getElem? (i := 67) rfl) rfl)
theorem tk_7_0 : skd (sTy 7 0) = 2 := by decide +kernel
theorem lf_X7_9 : sFl RX7 9 7 0 2 true := ⟨RX7, TX7, rfl, by decide, by decide, sIn_RX7, tyX7_ok, nmX7, (by decide +kernel), (by decide +kernel), Or.inl (sTm_2 (List.mem_of_getElem? (i := 68) rfl) rfl)⟩
theorem lg_X7_9 : sFf RX7 9 7 0 2 := ⟨TX7, rfl, by decide, by decide, sIn_RX7, tyX7_ok, nmX7, (by decide +kernel), (by decide +kernel), (sTm_2 (List.mem_of_getElem? (i := 68) rfl) rfl)⟩
theorem lf_X7_15 : sFl RX7 15 7 1 2 false := ⟨RX7, TX7, rfl, by decide, by decide, sIn_RX7, tyX7_ok, nmX7, (by decide +kernel), (by decide +kernel), Or.inl (sTm_2 (List.mem_of_getElem? (i := 69) rfl) rfl)⟩
theorem lm_X7_19 : sMl RX7 19 yJ7_fill_53178 := Or.inl (sTm_4 (List.mem_of_getElem? (i := 148) rfl) rfl)
theorem lf_X7_25 : sFl RX7 25 1 2 10 true := ⟨RX1, TX1, rfl, by decide, by decide, sIn_RX1, tyX1_ok, nmX1, (by decide +kernel), (by decide +kernel), Or.inr ⟨"CenturyGates", (lwm_1 (List.mem_of_getElem? (i := 148) rfl))⟩⟩
theorem lm_X7_31 : sMl RX7 31 yX9_isThere := Or.inl (sTm_4 (List.mem_of_getElem? (i := 149) rfl) rfl)
theorem mf_X9_isThere : sMf yX9_isThere cX9_isThere 2 (some .boolean) 1 := ⟨(sTm_4 (List.mem_of_getElem? (i := 40) rfl) rfl), (sTm_1 (List.mem_of_getElem? (i := 6) rfl) rfl), ⟨by decide +kernel, by decide +kernel⟩, by decide +kernel, by decide⟩
theorem mi_X9_isThere : Cond.instanceMethod yX9_isThere ∈ sTb ∧ Cond.selects yX9_isThere.cls yX9_isThere yX9_isThere ∈ sTb := ⟨(sTm_4 (List.mem_of_getElem? (i := 38) rfl) rfl), (sTm_4 (List.mem_of_getElem? (i := 39) rfl) rfl)⟩
theorem lm_X7_37 : sMl RX7 37 yX7_nearest := Or.inl (sTm_4 (List.mem_of_getElem? (i := 150) rfl) rfl)
theorem mf_X7_nearest : sMf yX7_nearest cX7_nearest 5 (some .int) 1 := ⟨(sTm_4 (List.mem_of_getElem? (i := 153) rfl) rfl), (sTm_1 (List.mem_of_getElem? (i := 11) rfl) rfl), ⟨by decide +kernel, by decide +kernel⟩, by decide +kernel, by decide⟩
theorem mi_X7_nearest : Cond.instanceMethod yX7_nearest ∈ sTb ∧ Cond.selects yX7_nearest.cls yX7_nearest yX7_nearest ∈ sTb := ⟨(sTm_4 (List.mem_of_getElem? (i := 152) rfl) rfl), (sTs_3 (i := 1) rfl rfl)⟩
theorem lf_X7_41 : sFl RX7 41 1 3 10 true := ⟨RX1, TX1, rfl, by decide, by decide, sIn_RX1, tyX1_ok, nmX1, (by decide +kernel), (by decide +kernel), Or.inr ⟨"CenturyGates", (lwm_1 (List.mem_of_getElem? (i := 152) rfl))⟩⟩
theorem lf_X7_44 : sFl RX7 44 9 3 4 false := ⟨RX9, TX9, rfl, by decide, by decide, sIn_RX9, tyX9_ok, nmX9, (by decide +kernel), (by decide +kernel), Or.inr ⟨"CenturyGates", (lwm_1 (List.mem_of_getElem? (i := 123) rfl))⟩⟩
theorem lm_X7_48 : sMl RX7 48 yX7_otherEnd := Or.inl (sTm_4 (List.mem_of_getElem? (i := 154) rfl) rfl)
theorem mf_X7_otherEnd : sMf yX7_otherEnd cX7_otherEnd 5 (some .int) 2 := ⟨(sTm_4 (List.mem_of_getElem? (i := 157) rfl) rfl), (sTm_1 (List.mem_of_getElem? (i := 11) rfl) rfl), ⟨by decide +kernel, by decide +kernel⟩, by decide +kernel, by decide⟩
theorem mi_X7_otherEnd : Cond.instanceMethod yX7_otherEnd ∈ sTb ∧ Cond.selects yX7_otherEnd.cls yX7_otherEnd yX7_otherEnd ∈ sTb := ⟨(sTm_4 (List.mem_of_getElem? (i := 156) rfl) rfl), (sTs_3 (i := 2) rfl rfl)⟩
theorem lm_X7_52 : sMl RX7 52 yX7_reach := Or.inl (sTm_4 (List.mem_of_getElem? (i := 159) rfl) rfl)
theorem mf_X7_reach : sMf yX7_reach cX7_reach 8 none 4 := ⟨(sTm_4 (List.mem_of_getElem? (i := 162) rfl) rfl), (sTm_1 (List.mem_of_getElem? (i := 11) rfl) rfl), ⟨by decide +kernel, by decide +kernel⟩, by decide +kernel, by decide⟩
theorem mi_X7_reach : Cond.instanceMethod yX7_reach ∈ sTb ∧ Cond.selects yX7_reach.cls yX7_reach yX7_reach ∈ sTb := ⟨(sTm_4 (List.mem_of_getElem? (i := 161) rfl) rfl), (sTs_3 (i := 3) rfl rfl)⟩
theorem lm_X7_56 : sMl RX7 56 yX9_cell := Or.inl (sTm_4 (List.mem_of_getElem? (i := 158) rfl) rfl)
theorem lm_X7_59 : sMl RX7 59 yX11_firstOpen := Or.inr ⟨"CenturyGates", (lwm_4 (List.mem_of_getElem? (i := 163) rfl))⟩
theorem mf_X11_firstOpen : sMf yX11_firstOpen cX11_firstOpen 4 (some .int) 3 := ⟨(sTm_4 (List.mem_of_getElem? (i := 139) rfl) rfl), (sTm_1 (List.mem_of_getElem? (i := 1) rfl) rfl), ⟨by decide +kernel, by decide +kernel⟩, by decide +kernel, by decide⟩
theorem ms_X11_firstOpen : Cond.static yX11_firstOpen ∈ sTb := (sTm_4 (List.mem_of_getElem? (i := 138) rfl) rfl)
theorem lo_X8_3 : Cond.methodLink RX8 3 Lib.objectInit ∈ sTb := (sTm_1 (List.mem_of_getElem? (i := 203) rfl) rfl)
theorem lf_X8_9 : sFl RX8 9 8 2 8 true := ⟨RX8, TX8, rfl, by decide, by decide, sIn_RX8, tyX8_ok, nmX8, (by decide +kernel), (by decide +kernel), Or.inl (sTm_1 (List.mem_of_getElem? (i := 210) rfl) rfl)⟩
theorem lg_X8_9 : sFf RX8 9 8 2 8 := ⟨TX8, rfl, by decide, by decide, sIn_RX8, tyX8_ok, nmX8, (by decide +kernel), (by decide +kernel), (sTm_1 (List.mem_of_getElem? (i := 210) rfl) rfl)⟩
theorem lf_X8_15 : sFl RX8 15 8 3 8 true := ⟨RX8, TX8, rfl, by decide, by decide, sIn_RX8, tyX8_ok, nmX8, (by decide +kernel), (by decide +kernel), Or.inl (sTm_1 (List.mem_of_getElem? (i := 214) rfl) rfl)⟩
theorem lg_X8_15 : sFf RX8 15 8 3 8 := ⟨TX8, rfl, by decide, by decide, sIn_RX8, tyX8_ok, nmX8, (by decide +kernel), (by decide +kernel), (sTm_1 (List.mem_of_getElem? (i := 214) rfl) rfl)⟩
theorem lf_X8_18 : sFl RX8 18 8 4 8 true := ⟨RX8, TX8, rfl, by decide, by decide, sIn_RX8, tyX8_ok, nmX8, (by decide +kernel), (by decide +kernel), Or.inl (sTm_1 (List.mem_of_getElem? (i := 217) rfl) rfl)⟩
theorem lg_X8_18 : sFf RX8 18 8 4 8 := ⟨TX8, rfl, by decide, by decide, sIn_RX8, tyX8_ok, nmX8, (by decide +kernel), (by decide +kernel), (sTm_1 (List.mem_of_getElem? (i := 217) rfl) rfl)⟩
theorem lf_X8_21 : sFl RX8 21 8 5 8 true := ⟨RX8, TX8, rfl, by decide, by decide, sIn_RX8, tyX8_ok, nmX8, (by decide +kernel), (by decide +kernel), Or.inl (sTm_1 (List.mem_of_getElem? (i := 220) rfl) rfl)⟩
theorem lg_X8_21 : sFf RX8 21 8 5 8 := ⟨TX8, rfl, by decide, by decide, sIn_RX8, tyX8_ok, nmX8, (by decide +kernel), (by decide +kernel), (sTm_1 (List.mem_of_getElem? (i := 220) rfl) rfl)⟩
theorem tk_8_6 : skd (sTy 8 6) = 2 := by decide +kernel
theorem lf_X8_24 : sFl RX8 24 8 6 8 true := ⟨RX8, TX8, rfl, by decide, by decide, sIn_RX8, tyX8_ok, nmX8, (by decide +kernel), (by decide +kernel), Or.inl (sTm_1 (List.mem_of_getElem? (i := 223) rfl) rfl)⟩
theorem lg_X8_24 : sFf RX8 24 8 6 8 := ⟨TX8, rfl, by decide, by decide, sIn_RX8, tyX8_ok, nmX8, (by decide +kernel), (by decide +kernel), (sTm_1 (List.mem_of_getElem? (i := 223) rfl) rfl)⟩
theorem lf_X8_27 : sFl RX8 27 8 0 8 false := ⟨RX8, TX8, rfl, by decide, by decide, sIn_RX8, tyX8_ok, nmX8, (by decide +kernel), (by decide +kernel), Or.inl (sTm_1 (List.mem_of_getElem? (i := 204) rfl) rfl)⟩
theorem lf_X8_31 : sFl RX8 31 8 1 8 false := ⟨RX8, TX8, rfl, by decide, by decide, sIn_RX8, tyX8_ok, nmX8, (by decide +kernel), (by decide +kernel), Or.inl (sTm_1 (List.mem_of_getElem? (i := 207) rfl) rfl)⟩
theorem tp_8_1 : sTy 8 1 = .int := by decide +kernel
theorem tk_8_7 : skd (sTy 8 7) = 0 := by decide +kernel
theorem lf_X8_34 : sFl RX8 34 8 7 8 false := ⟨RX8, TX8, rfl, by decide, by decide, sIn_RX8, tyX8_ok, nmX8, (by decide +kernel), (by decide +kernel), Or.inl (sTm_1 (List.mem_of_getElem? (i := 225) rfl) rfl)⟩
theorem tp_8_7 : sTy 8 7 = .int := by decide +kernel
theorem lm_X8_37 : sMl RX8 37 yJ7_fill_53178 := Or.inl (sTm_4 (List.mem_of_getElem? (i := 9) rfl) rfl)
theorem lf_X8_43 : sFl RX8 43 1 5 10 true := ⟨RX1, TX1, rfl, by decide, by decide, sIn_RX1, tyX1_ok, nmX1, (by decide +kernel), (by decide +kernel), Or.inr ⟨"CenturyGates", (lwm_1 (List.mem_of_getElem? (i := 161) rfl))⟩⟩
theorem lm_X8_49 : sMl RX8 49 yX9_cell := Or.inl (sTm_4 (List.mem_of_getElem? (i := 10) rfl) rfl)
theorem la_X8_55 : Cond.methodLink RX8 55 arraycopyName ∈ sTb := (sTm_4 (List.mem_of_getElem? (i := 191) rfl) rfl)
theorem ac_ok : Cond.native arraycopyName ∈ sTb ∧ Cond.static arraycopyName ∈ sTb ∧ Cond.initialized "java/lang/System" ∈ sTb := ⟨(sTm_3 (List.mem_of_getElem? (i := 141) rfl) rfl), (sTm_3 (List.mem_of_getElem? (i := 140) rfl) rfl), (sTm_1 (List.mem_of_getElem? (i := 20) rfl) rfl)⟩
theorem lo_X9_3 : Cond.methodLink RX9 3 Lib.objectInit ∈ sTb := (sTm_1 (List.mem_of_getElem? (i := 116) rfl) rfl)
theorem lf_X9_9 : sFl RX9 9 9 0 4 true := ⟨RX9, TX9, rfl, by decide, by decide, sIn_RX9, tyX9_ok, nmX9, (by decide +kernel), (by decide +kernel), Or.inl (sTm_1 (List.mem_of_getElem? (i := 117) rfl) rfl)⟩
theorem tp_9_0 : sTy 9 0 = .int := by decide +kernel
theorem lg_X9_9 : sFf RX9 9 9 0 4 := ⟨TX9, rfl, by decide, by decide, sIn_RX9, tyX9_ok, nmX9, (by decide +kernel), (by decide +kernel), (sTm_1 (List.mem_of_getElem? (i := 117) rfl) rfl)⟩
theorem tk_9_1 : skd (sTy 9 1) = 2 := by decide +kernel
theorem lf_X9_15 : sFl RX9 15 9 1 4 true := ⟨RX9, TX9, rfl, by decide, by decide, sIn_RX9, tyX9_ok, nmX9, (by decide +kernel), (by decide +kernel), Or.inl (sTm_1 (List.mem_of_getElem? (i := 119) rfl) rfl)⟩
theorem lg_X9_15 : sFf RX9 15 9 1 4 := ⟨TX9, rfl, by decide, by decide, sIn_RX9, tyX9_ok, nmX9, (by decide +kernel), (by decide +kernel), (sTm_1 (List.mem_of_getElem? (i := 119) rfl) rfl)⟩
theorem tk_9_2 : skd (sTy 9 2) = 2 := by decide +kernel
theorem lf_X9_19 : sFl RX9 19 9 2 4 true := ⟨RX9, TX9, rfl, by decide, by decide, sIn_RX9, tyX9_ok, nmX9, (by decide +kernel), (by decide +kernel), Or.inl (sTm_1 (List.mem_of_getElem? (i := 120) rfl) rfl)⟩
theorem lg_X9_19 : sFf RX9 19 9 2 4 := ⟨TX9, rfl, by decide, by decide, sIn_RX9, tyX9_ok, nmX9, (by decide +kernel), (by decide +kernel), (sTm_1 (List.mem_of_getElem? (i := 120) rfl) rfl)⟩
theorem lf_X9_22 : sFl RX9 22 9 3 4 false := ⟨RX9, TX9, rfl, by decide, by decide, sIn_RX9, tyX9_ok, nmX9, (by decide +kernel), (by decide +kernel), Or.inl (sTm_1 (List.mem_of_getElem? (i := 121) rfl) rfl)⟩
theorem lm_X9_25 : sMl RX9 25 yX9_isThere := Or.inl (sTm_4 (List.mem_of_getElem? (i := 37) rfl) rfl)
theorem lo_X10_3 : Cond.methodLink RX10 3 Lib.objectInit ∈ sTb := (sTm_1 (List.mem_of_getElem? (i := 37) rfl) rfl)
theorem tk_10_0 : skd (sTy 10 0) = 2 := by decide +kernel
theorem lf_X10_9 : sFl RX10 9 10 0 10 true := ⟨RX10, TX10, rfl, by decide, by decide, sIn_RX10, tyX10_ok, nmX10, (by decide +kernel), (by decide +kernel), Or.inl (sTm_1 (List.mem_of_getElem? (i := 38) rfl) rfl)⟩
theorem lg_X10_9 : sFf RX10 9 10 0 10 := ⟨TX10, rfl, by decide, by decide, sIn_RX10, tyX10_ok, nmX10, (by decide +kernel), (by decide +kernel), (sTm_1 (List.mem_of_getElem? (i := 38) rfl) rfl)⟩
theorem tk_10_2 : skd (sTy 10 2) = 2 := by decide +kernel
theorem lf_X10_15 : sFl RX10 15 10 2 10 true := ⟨RX10, TX10, rfl, by decide, by decide, sIn_RX10, tyX10_ok, nmX10, (by decide +kernel), (by decide +kernel), Or.inl (sTm_1 (List.mem_of_getElem? (i := 42) rfl) rfl)⟩
theorem lg_X10_15 : sFf RX10 15 10 2 10 := ⟨TX10, rfl, by decide, by decide, sIn_RX10, tyX10_ok, nmX10, (by decide +kernel), (by decide +kernel), (sTm_1 (List.mem_of_getElem? (i := 42) rfl) rfl)⟩
theorem tk_10_3 : skd (sTy 10 3) = 2 := by decide +kernel
theorem lf_X10_18 : sFl RX10 18 10 3 10 true := ⟨RX10, TX10, rfl, by decide, by decide, sIn_RX10, tyX10_ok, nmX10, (by decide +kernel), (by decide +kernel), Or.inl (sTm_1 (List.mem_of_getElem? (i := 43) rfl) rfl)⟩
theorem lg_X10_18 : sFf RX10 18 10 3 10 := ⟨TX10, rfl, by decide, by decide, sIn_RX10, tyX10_ok, nmX10, (by decide +kernel), (by decide +kernel), (sTm_1 (List.mem_of_getElem? (i := 43) rfl) rfl)⟩
theorem tk_10_4 : skd (sTy 10 4) = 2 := by decide +kernel
theorem lf_X10_21 : sFl RX10 21 10 4 10 true := ⟨RX10, TX10, rfl, by decide, by decide, sIn_RX10, tyX10_ok, nmX10, (by decide +kernel), (by decide +kernel), Or.inl (sTm_1 (List.mem_of_getElem? (i := 44) rfl) rfl)⟩
theorem lg_X10_21 : sFf RX10 21 10 4 10 := ⟨TX10, rfl, by decide, by decide, sIn_RX10, tyX10_ok, nmX10, (by decide +kernel), (by decide +kernel), (sTm_1 (List.mem_of_getElem? (i := 44) rfl) rfl)⟩
theorem tk_10_5 : skd (sTy 10 5) = 2 := by decide +kernel
theorem lf_X10_24 : sFl RX10 24 10 5 10 true := ⟨RX10, TX10, rfl, by decide, by decide, sIn_RX10, tyX10_ok, nmX10, (by decide +kernel), (by decide +kernel), Or.inl (sTm_1 (List.mem_of_getElem? (i := 45) rfl) rfl)⟩
theorem lg_X10_24 : sFf RX10 24 10 5 10 := ⟨TX10, rfl, by decide, by decide, sIn_RX10, tyX10_ok, nmX10, (by decide +kernel), (by decide +kernel), (sTm_1 (List.mem_of_getElem? (i := 45) rfl) rfl)⟩
theorem tk_10_9 : skd (sTy 10 9) = 0 := by decide +kernel
theorem lf_X10_27 : sFl RX10 27 10 9 10 false := ⟨RX10, TX10, rfl, by decide, by decide, sIn_RX10, tyX10_ok, nmX10, (by decide +kernel), (by decide +kernel), Or.inl (sTm_1 (List.mem_of_getElem? (i := 50) rfl) rfl)⟩
theorem tp_10_9 : sTy 10 9 = .int := by decide +kernel
theorem tk_10_1 : skd (sTy 10 1) = 0 := by decide +kernel
theorem lf_X10_31 : sFl RX10 31 10 1 10 false := ⟨RX10, TX10, rfl, by decide, by decide, sIn_RX10, tyX10_ok, nmX10, (by decide +kernel), (by decide +kernel), Or.inl (sTm_1 (List.mem_of_getElem? (i := 41) rfl) rfl)⟩
theorem tp_10_1 : sTy 10 1 = .int := by decide +kernel
theorem tk_10_8 : skd (sTy 10 8) = 0 := by decide +kernel
theorem lf_X10_34 : sFl RX10 34 10 8 10 false := ⟨RX10, TX10, rfl, by decide, by decide, sIn_RX10, tyX10_ok, nmX10, (by decide +kernel), (by decide +kernel), Or.inl (sTm_1 (List.mem_of_getElem? (i := 48) rfl) rfl)⟩
theorem tp_10_8 : sTy 10 8 = .int := by decide +kernel
theorem tk_10_7 : skd (sTy 10 7) = 0 := by decide +kernel
theorem lf_X10_37 : sFl RX10 37 10 7 10 false := ⟨RX10, TX10, rfl, by decide, by decide, sIn_RX10, tyX10_ok, nmX10, (by decide +kernel), (by decide +kernel), Or.inl (sTm_1 (List.mem_of_getElem? (i := 47) rfl) rfl)⟩
theorem tp_10_7 : sTy 10 7 = .int := by decide +kernel
theorem tk_10_6 : skd (sTy 10 6) = 0 := by decide +kernel
theorem lf_X10_40 : sFl RX10 40 10 6 10 false := ⟨RX10, TX10, rfl, by decide, by decide, sIn_RX10, tyX10_ok, nmX10, (by decide +kernel), (by decide +kernel), Or.inl (sTm_1 (List.mem_of_getElem? (i := 46) rfl) rfl)⟩
theorem tp_10_6 : sTy 10 6 = .int := by decide +kernel
theorem lm_X10_43 : sMl RX10 43 yX10_cutToken := Or.inl (sTm_2 (List.mem_of_getElem? (i := 215) rfl) rfl)
theorem mf_X10_cutToken : sMf yX10_cutToken cX10_cutToken 4 (some .int) 1 := ⟨(sTm_2 (List.mem_of_getElem? (i := 218) rfl) rfl), (sTm_1 (List.mem_of_getElem? (i := 2) rfl) rfl), ⟨by decide +kernel, by decide +kernel⟩, by decide +kernel, by decide⟩
theorem mi_X10_cutToken : Cond.instanceMethod yX10_cutToken ∈ sTb ∧ Cond.selects yX10_cutToken.cls yX10_cutToken yX10_cutToken ∈ sTb := ⟨(sTm_2 (List.mem_of_getElem? (i := 217) rfl) rfl), (sTs_1 (i := 1) rfl rfl)⟩
theorem lm_X10_47 : sMl RX10 47 yX10_note := Or.inl (sTm_3 (List.mem_of_getElem? (i := 48) rfl) rfl)
theorem mf_X10_note : sMf yX10_note cX10_note 5 none 4 := ⟨(sTm_3 (List.mem_of_getElem? (i := 51) rfl) rfl), (sTm_1 (List.mem_of_getElem? (i := 2) rfl) rfl), ⟨by decide +kernel, by decide +kernel⟩, by decide +kernel, by decide⟩
theorem mi_X10_note : Cond.instanceMethod yX10_note ∈ sTb ∧ Cond.selects yX10_note.cls yX10_note yX10_note ∈ sTb := ⟨(sTm_3 (List.mem_of_getElem? (i := 50) rfl) rfl), (sTs_1 (i := 6) rfl rfl)⟩
theorem lm_X10_51 : sMl RX10 51 yJ9_max_7cf53 := Or.inl (sTm_3 (List.mem_of_getElem? (i := 80) rfl) rfl)
theorem lm_X10_57 : sMl RX10 57 yX10_goOn := Or.inl (sTm_3 (List.mem_of_getElem? (i := 91) rfl) rfl)
theorem mf_X10_goOn : sMf yX10_goOn cX10_goOn 1 none 0 := ⟨(sTm_3 (List.mem_of_getElem? (i := 94) rfl) rfl), (sTm_1 (List.mem_of_getElem? (i := 2) rfl) rfl), ⟨by decide +kernel, by decide +kernel⟩, by decide +kernel, by decide⟩
theorem mi_X10_goOn : Cond.instanceMethod yX10_goOn ∈ sTb ∧ Cond.selects yX10_goOn.cls yX10_goOn yX10_goOn ∈ sTb := ⟨(sTm_3 (List.mem_of_getElem? (i := 93) rfl) rfl), (sTs_1 (i := 9) rfl rfl)⟩
theorem lm_X10_60 : sMl RX10 60 yX10_takesSign := Or.inl (sTm_3 (List.mem_of_getElem? (i := 150) rfl) rfl)
theorem lm_X10_64 : sMl RX10 64 yX10_fail := Or.inl (sTm_3 (List.mem_of_getElem? (i := 95) rfl) rfl)
theorem lm_X10_68 : sMl RX10 68 yX10_takesWord := Or.inl (sTm_3 (List.mem_of_getElem? (i := 87) rfl) rfl)
theorem lm_X10_72 : sMl RX10 72 yX10_byteAt := Or.inl (sTm_2 (List.mem_of_getElem? (i := 219) rfl) rfl)
theorem mf_X10_byteAt : sMf yX10_byteAt cX10_byteAt 2 (some .int) 1 := ⟨(sTm_2 (List.mem_of_getElem? (i := 222) rfl) rfl), (sTm_1 (List.mem_of_getElem? (i := 2) rfl) rfl), ⟨by decide +kernel, by decide +kernel⟩, by decide +kernel, by decide⟩
theorem mi_X10_byteAt : Cond.instanceMethod yX10_byteAt ∈ sTb ∧ Cond.selects yX10_byteAt.cls yX10_byteAt yX10_byteAt ∈ sTb := ⟨(sTm_2 (List.mem_of_getElem? (i := 220) rfl) rfl), (sTm_2 (List.mem_of_getElem? (i := 221) rfl) rfl)⟩
theorem lm_X10_75 : sMl RX10 75 yX10_runEnd := Or.inl (sTm_2 (List.mem_of_getElem? (i := 223) rfl) rfl)
theorem mf_X10_runEnd : sMf yX10_runEnd cX10_runEnd 5 (some .int) 3 := ⟨(sTm_2 (List.mem_of_getElem? (i := 226) rfl) rfl), (sTm_1 (List.mem_of_getElem? (i := 2) rfl) rfl), ⟨by decide +kernel, by decide +kernel⟩, by decide +kernel, by decide⟩
theorem mi_X10_runEnd : Cond.instanceMethod yX10_runEnd ∈ sTb ∧ Cond.selects yX10_runEnd.cls yX10_runEnd yX10_runEnd ∈ sTb := ⟨(sTm_2 (List.mem_of_getElem? (i := 225) rfl) rfl), (sTs_1 (i := 2) rfl rfl)⟩
theorem lm_X10_79 : sMl RX10 79 yX10_isGlued := Or.inl (sTm_2 (List.mem_of_getElem? (i := 227) rfl) rfl)
theorem mf_X10_isGlued : sMf yX10_isGlued cX10_isGlued 2 (some .boolean) 1 := ⟨(sTm_2 (List.mem_of_getElem? (i := 230) rfl) rfl), (sTm_1 (List.mem_of_getElem? (i := 2) rfl) rfl), ⟨by decide +kernel, by decide +kernel⟩, by decide +kernel, by decide⟩
theorem mi_X10_isGlued : Cond.instanceMethod yX10_isGlued ∈ sTb ∧ Cond.selects yX10_isGlued.cls yX10_isGlued yX10_isGlued ∈ sTb := ⟨(sTm_2 (List.mem_of_getElem? (i := 229) rfl) rfl), (sTs_1 (i := 3) rfl rfl)⟩
theorem lm_X10_82 : sMl RX10 82 yX10_wordBetween := Or.inl (sTm_2 (List.mem_of_getElem? (i := 231) rfl) rfl)
theorem mf_X10_wordBetween : sMf yX10_wordBetween cX10_wordBetween 6 (some .int) 2 := ⟨(sTm_2 (List.mem_of_getElem? (i := 234) rfl) rfl), (sTm_1 (List.mem_of_getElem? (i := 2) rfl) rfl), ⟨by decide +kernel, by decide +kernel⟩, by decide +kernel, by decide⟩
theorem mi_X10_wordBetween : Cond.instanceMethod yX10_wordBetween ∈ sTb ∧ Cond.selects yX10_wordBetween.cls yX10_wordBetween yX10_wordBetween ∈ sTb := ⟨(sTm_2 (List.mem_of_getElem? (i := 233) rfl) rfl), (sTs_1 (i := 4) rfl rfl)⟩
theorem lm_X10_85 : sMl RX10 85 yX10_valueBetween := Or.inl (sTm_3 (List.mem_of_getElem? (i := 52) rfl) rfl)
theorem mf_X10_valueBetween : sMf yX10_valueBetween cX10_valueBetween 5 (some .int) 2 := ⟨(sTm_3 (List.mem_of_getElem? (i := 55) rfl) rfl), (sTm_1 (List.mem_of_getElem? (i := 2) rfl) rfl), ⟨by decide +kernel, by decide +kernel⟩, by decide +kernel, by decide⟩
theorem mi_X10_valueBetween : Cond.instanceMethod yX10_valueBetween ∈ sTb ∧ Cond.selects yX10_valueBetween.cls yX10_valueBetween yX10_valueBetween ∈ sTb := ⟨(sTm_3 (List.mem_of_getElem? (i := 54) rfl) rfl), (sTs_1 (i := 7) rfl rfl)⟩
theorem lm_X10_90 : sMl RX10 90 yJ0_length_8abf5 := Or.inl (sTm_2 (List.mem_of_getElem? (i := 236) rfl) rfl)
theorem mf_J0_length_8abf5 : sMf yJ0_length_8abf5 cJ0_length_8abf5 1 (some .int) 0 := ⟨(sTm_2 (List.mem_of_getElem? (i := 239) rfl) rfl), (sTm_1 (List.mem_of_getElem? (i := 14) rfl) rfl), ⟨by decide +kernel, by decide +kernel⟩, by decide +kernel, by decide⟩
theorem mi_J0_length_8abf5 : Cond.instanceMethod yJ0_length_8abf5 ∈ sTb ∧ Cond.selects yJ0_length_8abf5.cls yJ0_length_8abf5 yJ0_length_8abf5 ∈ sTb := ⟨(sTm_2 (List.mem_of_getElem? (i := 237) rfl) rfl), (sTm_2 (List.mem_of_getElem? (i := 238) rfl) rfl)⟩
theorem lm_X10_96 : sMl RX10 96 yJ0_charAt_5068e := Or.inl (sTm_3 (List.mem_of_getElem? (i := 6) rfl) rfl)
theorem mf_J0_charAt_5068e : sMf yJ0_charAt_5068e cJ0_charAt_5068e 2 (some .char) 1 := ⟨(sTm_3 (List.mem_of_getElem? (i := 9) rfl) rfl), (sTm_1 (List.mem_of_getElem? (i := 14) rfl) rfl), ⟨by decide +kernel, by decide +kernel⟩, by decide +kernel, by decide⟩
theorem mi_J0_charAt_5068e : Cond.instanceMethod yJ0_charAt_5068e ∈ sTb ∧ Cond.selects yJ0_charAt_5068e.cls yJ0_charAt_5068e yJ0_charAt_5068e ∈ sTb := ⟨(sTm_3 (List.mem_of_getElem? (i := 7) rfl) rfl), (sTm_3 (List.mem_of_getElem? (i := 8) rfl) rfl)⟩
theorem lm_X10_100 : sMl RX10 100 yX10_isWord := Or.inl (sTm_3 (List.mem_of_getElem? (i := 44) rfl) rfl)
theorem mf_X10_isWord : sMf yX10_isWord cX10_isWord 5 (some .boolean) 3 := ⟨(sTm_3 (List.mem_of_getElem? (i := 47) rfl) rfl), (sTm_1 (List.mem_of_getElem? (i := 2) rfl) rfl), ⟨by decide +kernel, by decide +kernel⟩, by decide +kernel, by decide⟩
theorem mi_X10_isWord : Cond.instanceMethod yX10_isWord ∈ sTb ∧ Cond.selects yX10_isWord.cls yX10_isWord yX10_isWord ∈ sTb := ⟨(sTm_3 (List.mem_of_getElem? (i := 46) rfl) rfl), (sTs_1 (i := 5) rfl rfl)⟩
theorem lo_X11_3 : Cond.methodLink RX11 3 Lib.objectInit ∈ sTb := (sTm_1 (List.mem_of_getElem? (i := 29) rfl) rfl)
theorem cw_X11_9 : sCw RX11 9 10 10 := ⟨RX10, TX10, rfl, by decide, sIn_RX10, tyX10_ok, (sTm_1 (List.mem_of_getElem? (i := 32) rfl) rfl), (sTm_1 (List.mem_of_getElem? (i := 33) rfl) rfl), (sTm_1 (List.mem_of_getElem? (i := 2) rfl) rfl), by decide +kernel⟩
theorem lm_X11_11 : sMl RX11 11 yX10_init := Or.inr ⟨"CenturyGates", (lwm_1 (List.mem_of_getElem? (i := 34) rfl))⟩
theorem mf_X10_init : sMf yX10_init cX10_init 1 none 0 := ⟨(sTm_1 (List.mem_of_getElem? (i := 36) rfl) rfl), (sTm_1 (List.mem_of_getElem? (i := 2) rfl) rfl), ⟨by decide +kernel, by decide +kernel⟩, by decide +kernel, by decide⟩
theorem mj_X10_init : yX10_init.name = "<init>" ∧ Cond.instanceMethod yX10_init ∈ sTb := ⟨rfl, (sTm_1 (List.mem_of_getElem? (i := 35) rfl) rfl)⟩
theorem tk_11_0 : skd (sTy 11 0) = 2 := by decide +kernel
theorem lf_X11_12 : sFl RX11 12 11 0 20 true := ⟨RX11, TX11, rfl, by decide, by decide, sIn_RX11, tyX11_ok, nmX11, (by decide +kernel), (by decide +kernel), Or.inl (sTm_2 (List.mem_of_getElem? (i := 126) rfl) rfl)⟩
theorem lg_X11_12 : sFf RX11 12 11 0 20 := ⟨TX11, rfl, by decide, by decide, sIn_RX11, tyX11_ok, nmX11, (by decide +kernel), (by decide +kernel), (sTm_2 (List.mem_of_getElem? (i := 126) rfl) rfl)⟩
theorem cw_X11_16 : sCw RX11 16 5 2 := ⟨RX5, TX5, rfl, by decide, sIn_RX5, tyX5_ok, (sTm_1 (List.mem_of_getElem? (i := 74) rfl) rfl), (sTm_1 (List.mem_of_getElem? (i := 75) rfl) rfl), (sTm_1 (List.mem_of_getElem? (i := 3) rfl) rfl), by decide +kernel⟩
theorem lm_X11_18 : sMl RX11 18 yX5_init := Or.inl (sTm_1 (List.mem_of_getElem? (i := 76) rfl) rfl)
theorem mf_X5_init : sMf yX5_init cX5_init 2 none 1 := ⟨(sTm_1 (List.mem_of_getElem? (i := 78) rfl) rfl), (sTm_1 (List.mem_of_getElem? (i := 3) rfl) rfl), ⟨by decide +kernel, by decide +kernel⟩, by decide +kernel, by decide⟩
theorem mj_X5_init : yX5_init.name = "<init>" ∧ Cond.instanceMethod yX5_init ∈ sTb := ⟨rfl, (sTm_1 (List.mem_of_getElem? (i := 77) rfl) rfl)⟩
theorem tk_11_1 : skd (sTy 11 1) = 2 := by decide +kernel
theorem lf_X11_21 : sFl RX11 21 11 1 20 true := ⟨RX11, TX11, rfl, by decide, by decide, sIn_RX11, tyX11_ok, nmX11, (by decide +kernel), (by decide +kernel), Or.inl (sTm_2 (List.mem_of_getElem? (i := 127) rfl) rfl)⟩
theorem lg_X11_21 : sFf RX11 21 11 1 20 := ⟨TX11, rfl, by decide, by decide, sIn_RX11, tyX11_ok, nmX11, (by decide +kernel), (by decide +kernel), (sTm_2 (List.mem_of_getElem? (i := 127) rfl) rfl)⟩
theorem cw_X11_25 : sCw RX11 25 1 10 := ⟨RX1, TX1, rfl, by decide, sIn_RX1, tyX1_ok, (sTm_1 (List.mem_of_getElem? (i := 105) rfl) rfl), (sTm_1 (List.mem_of_getElem? (i := 106) rfl) rfl), (sTm_1 (List.mem_of_getElem? (i := 5) rfl) rfl), by decide +kernel⟩
theorem lm_X11_27 : sMl RX11 27 yX1_init := Or.inr ⟨"CenturyGates", (lwm_1 (List.mem_of_getElem? (i := 107) rfl))⟩
theorem mf_X1_init : sMf yX1_init cX1_init 1 none 0 := ⟨(sTm_1 (List.mem_of_getElem? (i := 109) rfl) rfl), (sTm_1 (List.mem_of_getElem? (i := 5) rfl) rfl), ⟨by decide +kernel, by decide +kernel⟩, by decide +kernel, by decide⟩
theorem mj_X1_init : yX1_init.name = "<init>" ∧ Cond.instanceMethod yX1_init ∈ sTb := ⟨rfl, (sTm_1 (List.mem_of_getElem? (i := 108) rfl) rfl)⟩
theorem tk_11_2 : skd (sTy 11 2) = 2 := by decide +kernel
theorem lf_X11_28 : sFl RX11 28 11 2 20 false := ⟨RX11, TX11, rfl, by decide, by decide, sIn_RX11, tyX11_ok, nmX11, (by decide +kernel), (by decide +kernel), Or.inl (sTm_2 (List.mem_of_getElem? (i := 128) rfl) rfl)⟩
theorem tk_11_3 : skd (sTy 11 3) = 2 := by decide +kernel
theorem lf_X11_32 : sFl RX11 32 11 3 20 false := ⟨RX11, TX11, rfl, by decide, by decide, sIn_RX11, tyX11_ok, nmX11, (by decide +kernel), (by decide +kernel), Or.inl (sTm_2 (List.mem_of_getElem? (i := 129) rfl) rfl)⟩
theorem cw_X11_35 : sCw RX11 35 8 8 := ⟨RX8, TX8, rfl, by decide, sIn_RX8, tyX8_ok, (sTm_1 (List.mem_of_getElem? (i := 198) rfl) rfl), (sTm_1 (List.mem_of_getElem? (i := 199) rfl) rfl), (sTm_1 (List.mem_of_getElem? (i := 7) rfl) rfl), by decide +kernel⟩
theorem lm_X11_37 : sMl RX11 37 yX8_init := Or.inr ⟨"CenturyGates", (lwm_1 (List.mem_of_getElem? (i := 200) rfl))⟩
theorem mf_X8_init : sMf yX8_init cX8_init 1 none 0 := ⟨(sTm_1 (List.mem_of_getElem? (i := 202) rfl) rfl), (sTm_1 (List.mem_of_getElem? (i := 7) rfl) rfl), ⟨by decide +kernel, by decide +kernel⟩, by decide +kernel, by decide⟩
theorem mj_X8_init : yX8_init.name = "<init>" ∧ Cond.instanceMethod yX8_init ∈ sTb := ⟨rfl, (sTm_1 (List.mem_of_getElem? (i := 201) rfl) rfl)⟩
theorem tk_11_4 : skd (sTy 11 4) = 2 := by decide +kernel
theorem lf_X11_38 : sFl RX11 38 11 4 20 true := ⟨RX11, TX11, rfl, by decide, by decide, sIn_RX11, tyX11_ok, nmX11, (by decide +kernel), (by decide +kernel), Or.inl (sTm_2 (List.mem_of_getElem? (i := 130) rfl) rfl)⟩
theorem lg_X11_38 : sFf RX11 38 11 4 20 := ⟨TX11, rfl, by decide, by decide, sIn_RX11, tyX11_ok, nmX11, (by decide +kernel), (by decide +kernel), (sTm_2 (List.mem_of_getElem? (i := 130) rfl) rfl)⟩
theorem tk_11_5 : skd (sTy 11 5) = 2 := by decide +kernel
theorem lf_X11_42 : sFl RX11 42 11 5 20 true := ⟨RX11, TX11, rfl, by decide, by decide, sIn_RX11, tyX11_ok, nmX11, (by decide +kernel), (by decide +kernel), Or.inl (sTm_2 (List.mem_of_getElem? (i := 131) rfl) rfl)⟩
theorem lg_X11_42 : sFf RX11 42 11 5 20 := ⟨TX11, rfl, by decide, by decide, sIn_RX11, tyX11_ok, nmX11, (by decide +kernel), (by decide +kernel), (sTm_2 (List.mem_of_getElem? (i := 131) rfl) rfl)⟩
theorem ca_X11_35 : Cond.classLink RX11 35 "CenturyGates$State" ∈ sTb := (sTm_1 (List.mem_of_getElem? (i := 198) rfl) rfl)
theorem tk_11_6 : skd (sTy 11 6) = 2 := by decide +kernel
theorem lf_X11_45 : sFl RX11 45 11 6 20 true := ⟨RX11, TX11, rfl, by decide, by decide, sIn_RX11, tyX11_ok, nmX11, (by decide +kernel), (by decide +kernel), Or.inl (sTm_2 (List.mem_of_getElem? (i := 132) rfl) rfl)⟩
theorem lg_X11_45 : sFf RX11 45 11 6 20 := ⟨TX11, rfl, by decide, by decide, sIn_RX11, tyX11_ok, nmX11, (by decide +kernel), (by decide +kernel), (sTm_2 (List.mem_of_getElem? (i := 132) rfl) rfl)⟩
theorem cw_X11_49 : sCw RX11 49 0 7 := ⟨RX0, TX0, rfl, by decide, sIn_RX0, tyX0_ok, (sTm_2 (List.mem_of_getElem? (i := 5) rfl) rfl), (sTm_2 (List.mem_of_getElem? (i := 6) rfl) rfl), (sTm_1 (List.mem_of_getElem? (i := 8) rfl) rfl), by decide +kernel⟩
theorem lm_X11_51 : sMl RX11 51 yX0_init := Or.inl (sTm_2 (List.mem_of_getElem? (i := 7) rfl) rfl)
theorem mf_X0_init : sMf yX0_init cX0_init 2 none 1 := ⟨(sTm_2 (List.mem_of_getElem? (i := 9) rfl) rfl), (sTm_1 (List.mem_of_getElem? (i := 8) rfl) rfl), ⟨by decide +kernel, by decide +kernel⟩, by decide +kernel, by decide⟩
theorem mj_X0_init : yX0_init.name = "<init>" ∧ Cond.instanceMethod yX0_init ∈ sTb := ⟨rfl, (sTm_2 (List.mem_of_getElem? (i := 8) rfl) rfl)⟩
theorem tk_11_9 : skd (sTy 11 9) = 2 := by decide +kernel
theorem lf_X11_54 : sFl RX11 54 11 9 20 true := ⟨RX11, TX11, rfl, by decide, by decide, sIn_RX11, tyX11_ok, nmX11, (by decide +kernel), (by decide +kernel), Or.inl (sTm_2 (List.mem_of_getElem? (i := 135) rfl) rfl)⟩
theorem lg_X11_54 : sFf RX11 54 11 9 20 := ⟨TX11, rfl, by decide, by decide, sIn_RX11, tyX11_ok, nmX11, (by decide +kernel), (by decide +kernel), (sTm_2 (List.mem_of_getElem? (i := 135) rfl) rfl)⟩
theorem cw_X11_58 : sCw RX11 58 3 6 := ⟨RX3, TX3, rfl, by decide, sIn_RX3, tyX3_ok, (sTm_2 (List.mem_of_getElem? (i := 100) rfl) rfl), (sTm_2 (List.mem_of_getElem? (i := 101) rfl) rfl), (sTm_1 (List.mem_of_getElem? (i := 12) rfl) rfl), by decide +kernel⟩
theorem lm_X11_60 : sMl RX11 60 yX3_init := Or.inr ⟨"CenturyGates", (lwm_2 (List.mem_of_getElem? (i := 102) rfl))⟩
theorem mf_X3_init : sMf yX3_init cX3_init 1 none 0 := ⟨(sTm_2 (List.mem_of_getElem? (i := 104) rfl) rfl), (sTm_1 (List.mem_of_getElem? (i := 12) rfl) rfl), ⟨by decide +kernel, by decide +kernel⟩, by decide +kernel, by decide⟩
theorem mj_X3_init : yX3_init.name = "<init>" ∧ Cond.instanceMethod yX3_init ∈ sTb := ⟨rfl, (sTm_2 (List.mem_of_getElem? (i := 103) rfl) rfl)⟩
theorem tk_11_10 : skd (sTy 11 10) = 2 := by decide +kernel
theorem lf_X11_61 : sFl RX11 61 11 10 20 true := ⟨RX11, TX11, rfl, by decide, by decide, sIn_RX11, tyX11_ok, nmX11, (by decide +kernel), (by decide +kernel), Or.inl (sTm_2 (List.mem_of_getElem? (i := 136) rfl) rfl)⟩
theorem lg_X11_61 : sFf RX11 61 11 10 20 := ⟨TX11, rfl, by decide, by decide, sIn_RX11, tyX11_ok, nmX11, (by decide +kernel), (by decide +kernel), (sTm_2 (List.mem_of_getElem? (i := 136) rfl) rfl)⟩
theorem tk_11_11 : skd (sTy 11 11) = 2 := by decide +kernel
theorem lf_X11_65 : sFl RX11 65 11 11 20 true := ⟨RX11, TX11, rfl, by decide, by decide, sIn_RX11, tyX11_ok, nmX11, (by decide +kernel), (by decide +kernel), Or.inl (sTm_2 (List.mem_of_getElem? (i := 137) rfl) rfl)⟩
theorem lg_X11_65 : sFf RX11 65 11 11 20 := ⟨TX11, rfl, by decide, by decide, sIn_RX11, tyX11_ok, nmX11, (by decide +kernel), (by decide +kernel), (sTm_2 (List.mem_of_getElem? (i := 137) rfl) rfl)⟩
theorem tk_11_12 : skd (sTy 11 12) = 2 := by decide +kernel
theorem lf_X11_69 : sFl RX11 69 11 12 20 true := ⟨RX11, TX11, rfl, by decide, by decide, sIn_RX11, tyX11_ok, nmX11, (by decide +kernel), (by decide +kernel), Or.inl (sTm_2 (List.mem_of_getElem? (i := 138) rfl) rfl)⟩
theorem lg_X11_69 : sFf RX11 69 11 12 20 := ⟨TX11, rfl, by decide, by decide, sIn_RX11, tyX11_ok, nmX11, (by decide +kernel), (by decide +kernel), (sTm_2 (List.mem_of_getElem? (i := 138) rfl) rfl)⟩
theorem tk_11_14 : skd (sTy 11 14) = 2 := by decide +kernel
theorem lf_X11_73 : sFl RX11 73 11 14 20 true := ⟨RX11, TX11, rfl, by decide, by decide, sIn_RX11, tyX11_ok, nmX11, (by decide +kernel), (by decide +kernel), Or.inl (sTm_2 (List.mem_of_getElem? (i := 140) rfl) rfl)⟩
theorem lg_X11_73 : sFf RX11 73 11 14 20 := ⟨TX11, rfl, by decide, by decide, sIn_RX11, tyX11_ok, nmX11, (by decide +kernel), (by decide +kernel), (sTm_2 (List.mem_of_getElem? (i := 140) rfl) rfl)⟩
theorem tk_11_15 : skd (sTy 11 15) = 2 := by decide +kernel
theorem lf_X11_76 : sFl RX11 76 11 15 20 true := ⟨RX11, TX11, rfl, by decide, by decide, sIn_RX11, tyX11_ok, nmX11, (by decide +kernel), (by decide +kernel), Or.inl (sTm_2 (List.mem_of_getElem? (i := 141) rfl) rfl)⟩
theorem lg_X11_76 : sFf RX11 76 11 15 20 := ⟨TX11, rfl, by decide, by decide, sIn_RX11, tyX11_ok, nmX11, (by decide +kernel), (by decide +kernel), (sTm_2 (List.mem_of_getElem? (i := 141) rfl) rfl)⟩
theorem tk_11_16 : skd (sTy 11 16) = 2 := by decide +kernel
theorem lf_X11_79 : sFl RX11 79 11 16 20 true := ⟨RX11, TX11, rfl, by decide, by decide, sIn_RX11, tyX11_ok, nmX11, (by decide +kernel), (by decide +kernel), Or.inl (sTm_2 (List.mem_of_getElem? (i := 142) rfl) rfl)⟩
theorem lg_X11_79 : sFf RX11 79 11 16 20 := ⟨TX11, rfl, by decide, by decide, sIn_RX11, tyX11_ok, nmX11, (by decide +kernel), (by decide +kernel), (sTm_2 (List.mem_of_getElem? (i := 142) rfl) rfl)⟩
theorem tk_11_18 : skd (sTy 11 18) = 2 := by decide +kernel
theorem lf_X11_82 : sFl RX11 82 11 18 20 true := ⟨RX11, TX11, rfl, by decide, by decide, sIn_RX11, tyX11_ok, nmX11, (by decide +kernel), (by decide +kernel), Or.inl (sTm_2 (List.mem_of_getElem? (i := 144) rfl) rfl)⟩
theorem lg_X11_82 : sFf RX11 82 11 18 20 := ⟨TX11, rfl, by decide, by decide, sIn_RX11, tyX11_ok, nmX11, (by decide +kernel), (by decide +kernel), (sTm_2 (List.mem_of_getElem? (i := 144) rfl) rfl)⟩
theorem tk_11_19 : skd (sTy 11 19) = 0 := by decide +kernel
theorem lf_X11_85 : sFl RX11 85 11 19 20 false := ⟨RX11, TX11, rfl, by decide, by decide, sIn_RX11, tyX11_ok, nmX11, (by decide +kernel), (by decide +kernel), Or.inl (sTm_2 (List.mem_of_getElem? (i := 145) rfl) rfl)⟩
theorem tp_11_19 : sTy 11 19 = .int := by decide +kernel
theorem lf_X11_89 : sFl RX11 89 10 1 10 false := ⟨RX10, TX10, rfl, by decide, by decide, sIn_RX10, tyX10_ok, nmX10, (by decide +kernel), (by decide +kernel), Or.inr ⟨"CenturyGates", (lwm_1 (List.mem_of_getElem? (i := 40) rfl))⟩⟩
theorem lm_X11_92 : sMl RX11 92 yX11_refuse := Or.inl (sTm_2 (List.mem_of_getElem? (i := 191) rfl) rfl)
theorem mf_X11_refuse : sMf yX11_refuse cX11_refuse 2 (some .int) 1 := ⟨(sTm_2 (List.mem_of_getElem? (i := 194) rfl) rfl), (sTm_1 (List.mem_of_getElem? (i := 1) rfl) rfl), ⟨by decide +kernel, by decide +kernel⟩, by decide +kernel, by decide⟩
theorem mi_X11_refuse : Cond.instanceMethod yX11_refuse ∈ sTb ∧ Cond.selects yX11_refuse.cls yX11_refuse yX11_refuse ∈ sTb := ⟨(sTm_2 (List.mem_of_getElem? (i := 193) rfl) rfl), (sTs_1 (i := 0) rfl rfl)⟩
theorem lm_X11_96 : sMl RX11 96 yX10_append := Or.inl (sTm_2 (List.mem_of_getElem? (i := 195) rfl) rfl)
theorem mf_X10_append : sMf yX10_append cX10_append 3 none 1 := ⟨(sTm_2 (List.mem_of_getElem? (i := 198) rfl) rfl), (sTm_1 (List.mem_of_getElem? (i := 2) rfl) rfl), ⟨by decide +kernel, by decide +kernel⟩, by decide +kernel, by decide⟩
theorem mi_X10_append : Cond.instanceMethod yX10_append ∈ sTb ∧ Cond.selects yX10_append.cls yX10_append yX10_append ∈ sTb := ⟨(sTm_2 (List.mem_of_getElem? (i := 196) rfl) rfl), (sTm_2 (List.mem_of_getElem? (i := 197) rfl) rfl)⟩
theorem lm_X11_100 : sMl RX11 100 yX5_readDistrict := Or.inl (sTm_2 (List.mem_of_getElem? (i := 207) rfl) rfl)
theorem mf_X5_readDistrict : sMf yX5_readDistrict cX5_readDistrict 4 (some .int) 1 := ⟨(sTm_2 (List.mem_of_getElem? (i := 210) rfl) rfl), (sTm_1 (List.mem_of_getElem? (i := 3) rfl) rfl), ⟨by decide +kernel, by decide +kernel⟩, by decide +kernel, by decide⟩
theorem mi_X5_readDistrict : Cond.instanceMethod yX5_readDistrict ∈ sTb ∧ Cond.selects yX5_readDistrict.cls yX5_readDistrict yX5_readDistrict ∈ sTb := ⟨(sTm_2 (List.mem_of_getElem? (i := 208) rfl) rfl), (sTm_2 (List.mem_of_getElem? (i := 209) rfl) rfl)⟩
theorem lm_X11_104 : sMl RX11 104 yX0_take := Or.inl (sTm_3 (List.mem_of_getElem? (i := 234) rfl) rfl)
theorem mf_X0_take : sMf yX0_take cX0_take 2 none 1 := ⟨(sTm_3 (List.mem_of_getElem? (i := 237) rfl) rfl), (sTm_1 (List.mem_of_getElem? (i := 8) rfl) rfl), ⟨by decide +kernel, by decide +kernel⟩, by decide +kernel, by decide⟩
theorem mi_X0_take : Cond.instanceMethod yX0_take ∈ sTb ∧ Cond.selects yX0_take.cls yX0_take yX0_take ∈ sTb := ⟨(sTm_3 (List.mem_of_getElem? (i := 235) rfl) rfl), (sTm_3 (List.mem_of_getElem? (i := 236) rfl) rfl)⟩
theorem lm_X11_107 : sMl RX11 107 yX8_start := Or.inl (sTm_4 (List.mem_of_getElem? (i := 5) rfl) rfl)
theorem mf_X8_start : sMf yX8_start cX8_start 3 none 1 := ⟨(sTm_4 (List.mem_of_getElem? (i := 8) rfl) rfl), (sTm_1 (List.mem_of_getElem? (i := 7) rfl) rfl), ⟨by decide +kernel, by decide +kernel⟩, by decide +kernel, by decide⟩
theorem mi_X8_start : Cond.instanceMethod yX8_start ∈ sTb ∧ Cond.selects yX8_start.cls yX8_start yX8_start ∈ sTb := ⟨(sTm_4 (List.mem_of_getElem? (i := 6) rfl) rfl), (sTm_4 (List.mem_of_getElem? (i := 7) rfl) rfl)⟩
theorem tk_11_7 : skd (sTy 11 7) = 0 := by decide +kernel
theorem lf_X11_110 : sFl RX11 110 11 7 20 false := ⟨RX11, TX11, rfl, by decide, by decide, sIn_RX11, tyX11_ok, nmX11, (by decide +kernel), (by decide +kernel), Or.inl (sTm_2 (List.mem_of_getElem? (i := 133) rfl) rfl)⟩
theorem tp_11_7 : sTy 11 7 = .int := by decide +kernel
theorem tk_11_13 : skd (sTy 11 13) = 0 := by decide +kernel
theorem lf_X11_113 : sFl RX11 113 11 13 20 false := ⟨RX11, TX11, rfl, by decide, by decide, sIn_RX11, tyX11_ok, nmX11, (by decide +kernel), (by decide +kernel), Or.inl (sTm_2 (List.mem_of_getElem? (i := 139) rfl) rfl)⟩
theorem tp_11_13 : sTy 11 13 = .int := by decide +kernel
theorem lf_X11_116 : sFl RX11 116 10 8 10 false := ⟨RX10, TX10, rfl, by decide, by decide, sIn_RX10, tyX10_ok, nmX10, (by decide +kernel), (by decide +kernel), Or.inr ⟨"CenturyGates", (lwm_1 (List.mem_of_getElem? (i := 49) rfl))⟩⟩
theorem lf_X11_119 : sFl RX11 119 10 9 10 false := ⟨RX10, TX10, rfl, by decide, by decide, sIn_RX10, tyX10_ok, nmX10, (by decide +kernel), (by decide +kernel), Or.inr ⟨"CenturyGates", (lwm_1 (List.mem_of_getElem? (i := 51) rfl))⟩⟩
theorem lf_X11_122 : sFl RX11 122 1 0 10 false := ⟨RX1, TX1, rfl, by decide, by decide, sIn_RX1, tyX1_ok, nmX1, (by decide +kernel), (by decide +kernel), Or.inr ⟨"CenturyGates", (lwm_1 (List.mem_of_getElem? (i := 142) rfl))⟩⟩
theorem lf_X11_125 : sFl RX11 125 1 1 10 true := ⟨RX1, TX1, rfl, by decide, by decide, sIn_RX1, tyX1_ok, nmX1, (by decide +kernel), (by decide +kernel), Or.inr ⟨"CenturyGates", (lwm_1 (List.mem_of_getElem? (i := 146) rfl))⟩⟩
theorem lf_X11_129 : sFl RX11 129 9 3 4 false := ⟨RX9, TX9, rfl, by decide, by decide, sIn_RX9, tyX9_ok, nmX9, (by decide +kernel), (by decide +kernel), Or.inr ⟨"CenturyGates", (lwm_1 (List.mem_of_getElem? (i := 126) rfl))⟩⟩
theorem lf_X11_134 : sFl RX11 134 1 2 10 true := ⟨RX1, TX1, rfl, by decide, by decide, sIn_RX1, tyX1_ok, nmX1, (by decide +kernel), (by decide +kernel), Or.inr ⟨"CenturyGates", (lwm_1 (List.mem_of_getElem? (i := 149) rfl))⟩⟩
theorem lf_X11_137 : sFl RX11 137 1 3 10 true := ⟨RX1, TX1, rfl, by decide, by decide, sIn_RX1, tyX1_ok, nmX1, (by decide +kernel), (by decide +kernel), Or.inr ⟨"CenturyGates", (lwm_1 (List.mem_of_getElem? (i := 153) rfl))⟩⟩
theorem lf_X11_140 : sFl RX11 140 1 4 10 true := ⟨RX1, TX1, rfl, by decide, by decide, sIn_RX1, tyX1_ok, nmX1, (by decide +kernel), (by decide +kernel), Or.inr ⟨"CenturyGates", (lwm_1 (List.mem_of_getElem? (i := 157) rfl))⟩⟩
theorem lf_X11_143 : sFl RX11 143 1 5 10 true := ⟨RX1, TX1, rfl, by decide, by decide, sIn_RX1, tyX1_ok, nmX1, (by decide +kernel), (by decide +kernel), Or.inr ⟨"CenturyGates", (lwm_1 (List.mem_of_getElem? (i := 163) rfl))⟩⟩
theorem lf_X11_146 : sFl RX11 146 8 0 8 false := ⟨RX8, TX8, rfl, by decide, by decide, sIn_RX8, tyX8_ok, nmX8, (by decide +kernel), (by decide +kernel), Or.inr ⟨"CenturyGates", (lwm_1 (List.mem_of_getElem? (i := 206) rfl))⟩⟩
theorem lf_X11_149 : sFl RX11 149 8 1 8 false := ⟨RX8, TX8, rfl, by decide, by decide, sIn_RX8, tyX8_ok, nmX8, (by decide +kernel), (by decide +kernel), Or.inr ⟨"CenturyGates", (lwm_1 (List.mem_of_getElem? (i := 209) rfl))⟩⟩
theorem lm_X11_152 : sMl RX11 152 yJ6_bitCount_0f7a4 := Or.inl (sTm_4 (List.mem_of_getElem? (i := 23) rfl) rfl)
theorem mf_J6_bitCount_0f7a4 : sMf yJ6_bitCount_0f7a4 cJ6_bitCount_0f7a4 1 (some .int) 1 := ⟨(sTm_4 (List.mem_of_getElem? (i := 25) rfl) rfl), (sTm_1 (List.mem_of_getElem? (i := 22) rfl) rfl), ⟨by decide +kernel, by decide +kernel⟩, by decide +kernel, by decide⟩
theorem ms_J6_bitCount_0f7a4 : Cond.static yJ6_bitCount_0f7a4 ∈ sTb := (sTm_4 (List.mem_of_getElem? (i := 24) rfl) rfl)
theorem lf_X11_157 : sFl RX11 157 8 7 8 false := ⟨RX8, TX8, rfl, by decide, by decide, sIn_RX8, tyX8_ok, nmX8, (by decide +kernel), (by decide +kernel), Or.inr ⟨"CenturyGates", (lwm_1 (List.mem_of_getElem? (i := 226) rfl))⟩⟩
theorem lm_X11_160 : sMl RX11 160 yX9_letterOf := Or.inl (sTm_4 (List.mem_of_getElem? (i := 33) rfl) rfl)
theorem mf_X9_letterOf : sMf yX9_letterOf cX9_letterOf 5 (some .int) 2 := ⟨(sTm_4 (List.mem_of_getElem? (i := 36) rfl) rfl), (sTm_1 (List.mem_of_getElem? (i := 6) rfl) rfl), ⟨by decide +kernel, by decide +kernel⟩, by decide +kernel, by decide⟩
theorem mi_X9_letterOf : Cond.instanceMethod yX9_letterOf ∈ sTb ∧ Cond.selects yX9_letterOf.cls yX9_letterOf yX9_letterOf ∈ sTb := ⟨(sTm_4 (List.mem_of_getElem? (i := 34) rfl) rfl), (sTm_4 (List.mem_of_getElem? (i := 35) rfl) rfl)⟩
theorem lm_X11_164 : sMl RX11 164 yX9_isThere := Or.inl (sTm_4 (List.mem_of_getElem? (i := 45) rfl) rfl)
theorem lm_X11_168 : sMl RX11 168 yX9_cell := Or.inl (sTm_4 (List.mem_of_getElem? (i := 46) rfl) rfl)
theorem lm_X11_171 : sMl RX11 171 yX8_isUp := Or.inl (sTm_4 (List.mem_of_getElem? (i := 47) rfl) rfl)
theorem mf_X8_isUp : sMf yX8_isUp cX8_isUp 2 (some .boolean) 1 := ⟨(sTm_4 (List.mem_of_getElem? (i := 50) rfl) rfl), (sTm_1 (List.mem_of_getElem? (i := 7) rfl) rfl), ⟨by decide +kernel, by decide +kernel⟩, by decide +kernel, by decide⟩
theorem mi_X8_isUp : Cond.instanceMethod yX8_isUp ∈ sTb ∧ Cond.selects yX8_isUp.cls yX8_isUp yX8_isUp ∈ sTb := ⟨(sTm_4 (List.mem_of_getElem? (i := 48) rfl) rfl), (sTm_4 (List.mem_of_getElem? (i := 49) rfl) rfl)⟩
theorem lf_X11_174 : sFl RX11 174 8 2 8 true := ⟨RX8, TX8, rfl, by decide, by decide, sIn_RX8, tyX8_ok, nmX8, (by decide +kernel), (by decide +kernel), Or.inr ⟨"CenturyGates", (lwm_1 (List.mem_of_getElem? (i := 213) rfl))⟩⟩
theorem lf_X11_177 : sFl RX11 177 8 3 8 true := ⟨RX8, TX8, rfl, by decide, by decide, sIn_RX8, tyX8_ok, nmX8, (by decide +kernel), (by decide +kernel), Or.inr ⟨"CenturyGates", (lwm_1 (List.mem_of_getElem? (i := 216) rfl))⟩⟩
theorem lf_X11_180 : sFl RX11 180 8 4 8 true := ⟨RX8, TX8, rfl, by decide, by decide, sIn_RX8, tyX8_ok, nmX8, (by decide +kernel), (by decide +kernel), Or.inr ⟨"CenturyGates", (lwm_1 (List.mem_of_getElem? (i := 219) rfl))⟩⟩
theorem lf_X11_183 : sFl RX11 183 8 5 8 true := ⟨RX8, TX8, rfl, by decide, by decide, sIn_RX8, tyX8_ok, nmX8, (by decide +kernel), (by decide +kernel), Or.inr ⟨"CenturyGates", (lwm_1 (List.mem_of_getElem? (i := 222) rfl))⟩⟩
theorem lf_X11_186 : sFl RX11 186 8 6 8 true := ⟨RX8, TX8, rfl, by decide, by decide, sIn_RX8, tyX8_ok, nmX8, (by decide +kernel), (by decide +kernel), Or.inr ⟨"CenturyGates", (lwm_1 (List.mem_of_getElem? (i := 224) rfl))⟩⟩
theorem lm_X11_189 : sMl RX11 189 yX11_isMinute := Or.inl (sTm_4 (List.mem_of_getElem? (i := 67) rfl) rfl)
theorem mf_X11_isMinute : sMf yX11_isMinute cX11_isMinute 1 (some .boolean) 1 := ⟨(sTm_4 (List.mem_of_getElem? (i := 69) rfl) rfl), (sTm_1 (List.mem_of_getElem? (i := 1) rfl) rfl), ⟨by decide +kernel, by decide +kernel⟩, by decide +kernel, by decide⟩
theorem ms_X11_isMinute : Cond.static yX11_isMinute ∈ sTb := (sTm_4 (List.mem_of_getElem? (i := 68) rfl) rfl)
theorem lf_X11_192 : sFl RX11 192 0 1 7 true := ⟨RX0, TX0, rfl, by decide, by decide, sIn_RX0, tyX0_ok, nmX0, (by decide +kernel), (by decide +kernel), Or.inr ⟨"CenturyGates", (lwm_2 (List.mem_of_getElem? (i := 78) rfl))⟩⟩
theorem lm_X11_196 : sMl RX11 196 yX4_headOf := Or.inl (sTm_4 (List.mem_of_getElem? (i := 70) rfl) rfl)
theorem lm_X11_202 : sMl RX11 202 yX11_closeNow := Or.inl (sTm_4 (List.mem_of_getElem? (i := 79) rfl) rfl)
theorem mf_X11_closeNow : sMf yX11_closeNow cX11_closeNow 1 none 0 := ⟨(sTm_4 (List.mem_of_getElem? (i := 82) rfl) rfl), (sTm_1 (List.mem_of_getElem? (i := 1) rfl) rfl), ⟨by decide +kernel, by decide +kernel⟩, by decide +kernel, by decide⟩
theorem mi_X11_closeNow : Cond.instanceMethod yX11_closeNow ∈ sTb ∧ Cond.selects yX11_closeNow.cls yX11_closeNow yX11_closeNow ∈ sTb := ⟨(sTm_4 (List.mem_of_getElem? (i := 81) rfl) rfl), (sTs_2 (i := 13) rfl rfl)⟩
theorem lm_X11_205 : sMl RX11 205 yX11_isMarked := Or.inl (sTm_4 (List.mem_of_getElem? (i := 130) rfl) rfl)
theorem lm_X11_209 : sMl RX11 209 yX11_firstOpen := Or.inl (sTm_4 (List.mem_of_getElem? (i := 137) rfl) rfl)
theorem lf_X11_213 : sFl RX11 213 0 2 7 true := ⟨RX0, TX0, rfl, by decide, by decide, sIn_RX0, tyX0_ok, nmX0, (by decide +kernel), (by decide +kernel), Or.inr ⟨"CenturyGates", (lwm_2 (List.mem_of_getElem? (i := 80) rfl))⟩⟩
theorem lm_X11_217 : sMl RX11 217 yX7_go := Or.inl (sTm_4 (List.mem_of_getElem? (i := 144) rfl) rfl)
theorem lm_X11_223 : sMl RX11 223 yX7_arrival := Or.inl (sTm_4 (List.mem_of_getElem? (i := 164) rfl) rfl)
theorem lm_X11_226 : sMl RX11 226 yX0_waitOf := Or.inl (sTm_4 (List.mem_of_getElem? (i := 172) rfl) rfl)
theorem lm_X11_230 : sMl RX11 230 yX11_goesAhead := Or.inl (sTm_4 (List.mem_of_getElem? (i := 183) rfl) rfl)
theorem mf_X11_goesAhead : sMf yX11_goesAhead cX11_goesAhead 3 (some .boolean) 1 := ⟨(sTm_4 (List.mem_of_getElem? (i := 186) rfl) rfl), (sTm_1 (List.mem_of_getElem? (i := 1) rfl) rfl), ⟨by decide +kernel, by decide +kernel⟩, by decide +kernel, by decide⟩
theorem mi_X11_goesAhead : Cond.instanceMethod yX11_goesAhead ∈ sTb ∧ Cond.selects yX11_goesAhead.cls yX11_goesAhead yX11_goesAhead ∈ sTb := ⟨(sTm_4 (List.mem_of_getElem? (i := 185) rfl) rfl), (sTs_3 (i := 4) rfl rfl)⟩
theorem lm_X11_233 : sMl RX11 233 yX11_leastLift := Or.inl (sTm_4 (List.mem_of_getElem? (i := 221) rfl) rfl)
theorem mf_X11_leastLift : sMf yX11_leastLift cX11_leastLift 6 (some .int) 3 := ⟨(sTm_4 (List.mem_of_getElem? (i := 224) rfl) rfl), (sTm_1 (List.mem_of_getElem? (i := 1) rfl) rfl), ⟨by decide +kernel, by decide +kernel⟩, by decide +kernel, by decide⟩
theorem mi_X11_leastLift : Cond.instanceMethod yX11_leastLift ∈ sTb ∧ Cond.selects yX11_leastLift.cls yX11_leastLift yX11_leastLift ∈ sTb := ⟨(sTm_4 (List.mem_of_getElem? (i := 223) rfl) rfl), (sTs_3 (i := 7) rfl rfl)⟩
theorem lm_X11_236 : sMl RX11 236 yX0_arrivalFrom := Or.inl (sTm_4 (List.mem_of_getElem? (i := 225) rfl) rfl)
theorem mf_X0_arrivalFrom : sMf yX0_arrivalFrom cX0_arrivalFrom 5 (some .int) 4 := ⟨(sTm_4 (List.mem_of_getElem? (i := 228) rfl) rfl), (sTm_1 (List.mem_of_getElem? (i := 8) rfl) rfl), ⟨by decide +kernel, by decide +kernel⟩, by decide +kernel, by decide⟩
theorem mi_X0_arrivalFrom : Cond.instanceMethod yX0_arrivalFrom ∈ sTb ∧ Cond.selects yX0_arrivalFrom.cls yX0_arrivalFrom yX0_arrivalFrom ∈ sTb := ⟨(sTm_4 (List.mem_of_getElem? (i := 226) rfl) rfl), (sTm_4 (List.mem_of_getElem? (i := 227) rfl) rfl)⟩
theorem lm_X11_240 : sMl RX11 240 yX11_countClosings := Or.inl (sTm_4 (List.mem_of_getElem? (i := 237) rfl) rfl)
theorem mf_X11_countClosings : sMf yX11_countClosings cX11_countClosings 5 (some .int) 1 := ⟨(sTm_5 (List.mem_of_getElem? (i := 0) rfl) rfl), (sTm_1 (List.mem_of_getElem? (i := 1) rfl) rfl), ⟨by decide +kernel, by decide +kernel⟩, by decide +kernel, by decide⟩
theorem mi_X11_countClosings : Cond.instanceMethod yX11_countClosings ∈ sTb ∧ Cond.selects yX11_countClosings.cls yX11_countClosings yX11_countClosings ∈ sTb := ⟨(sTm_4 (List.mem_of_getElem? (i := 239) rfl) rfl), (sTs_3 (i := 8) rfl rfl)⟩
theorem lm_X11_243 : sMl RX11 243 yX11_firstClosed := Or.inl (sTm_5 (List.mem_of_getElem? (i := 1) rfl) rfl)
theorem mf_X11_firstClosed : sMf yX11_firstClosed cX11_firstClosed 4 (some .int) 3 := ⟨(sTm_5 (List.mem_of_getElem? (i := 3) rfl) rfl), (sTm_1 (List.mem_of_getElem? (i := 1) rfl) rfl), ⟨by decide +kernel, by decide +kernel⟩, by decide +kernel, by decide⟩
theorem ms_X11_firstClosed : Cond.static yX11_firstClosed ∈ sTb := (sTm_5 (List.mem_of_getElem? (i := 2) rfl) rfl)
theorem lm_X11_246 : sMl RX11 246 yX11_lastOfClosing := Or.inl (sTm_5 (List.mem_of_getElem? (i := 4) rfl) rfl)
theorem mf_X11_lastOfClosing : sMf yX11_lastOfClosing cX11_lastOfClosing 4 (some .int) 2 := ⟨(sTm_5 (List.mem_of_getElem? (i := 7) rfl) rfl), (sTm_1 (List.mem_of_getElem? (i := 1) rfl) rfl), ⟨by decide +kernel, by decide +kernel⟩, by decide +kernel, by decide⟩
theorem mi_X11_lastOfClosing : Cond.instanceMethod yX11_lastOfClosing ∈ sTb ∧ Cond.selects yX11_lastOfClosing.cls yX11_lastOfClosing yX11_lastOfClosing ∈ sTb := ⟨(sTm_5 (List.mem_of_getElem? (i := 6) rfl) rfl), (sTs_3 (i := 9) rfl rfl)⟩
theorem lm_X11_249 : sMl RX11 249 yX11_isTold := Or.inl (sTm_5 (List.mem_of_getElem? (i := 12) rfl) rfl)
theorem mf_X11_isTold : sMf yX11_isTold cX11_isTold 1 (some .boolean) 0 := ⟨(sTm_5 (List.mem_of_getElem? (i := 15) rfl) rfl), (sTm_1 (List.mem_of_getElem? (i := 1) rfl) rfl), ⟨by decide +kernel, by decide +kernel⟩, by decide +kernel, by decide⟩
theorem mi_X11_isTold : Cond.instanceMethod yX11_isTold ∈ sTb ∧ Cond.selects yX11_isTold.cls yX11_isTold yX11_isTold ∈ sTb := ⟨(sTm_5 (List.mem_of_getElem? (i := 14) rfl) rfl), (sTs_3 (i := 10) rfl rfl)⟩
theorem lf_X11_253 : sFl RX11 253 3 5 6 false := ⟨RX3, TX3, rfl, by decide, by decide, sIn_RX3, tyX3_ok, nmX3, (by decide +kernel), (by decide +kernel), Or.inr ⟨"CenturyGates", (lwm_2 (List.mem_of_getElem? (i := 112) rfl))⟩⟩
theorem lm_X11_254 : sMl RX11 254 yX11_callKeepers := Or.inl (sTm_5 (List.mem_of_getElem? (i := 16) rfl) rfl)
theorem mf_X11_callKeepers : sMf yX11_callKeepers cX11_callKeepers 6 (some .boolean) 1 := ⟨(sTm_5 (List.mem_of_getElem? (i := 19) rfl) rfl), (sTm_1 (List.mem_of_getElem? (i := 1) rfl) rfl), ⟨by decide +kernel, by decide +kernel⟩, by decide +kernel, by decide⟩
theorem mi_X11_callKeepers : Cond.instanceMethod yX11_callKeepers ∈ sTb ∧ Cond.selects yX11_callKeepers.cls yX11_callKeepers yX11_callKeepers ∈ sTb := ⟨(sTm_5 (List.mem_of_getElem? (i := 18) rfl) rfl), (sTs_3 (i := 11) rfl rfl)⟩
theorem lm_X11_257 : sMl RX11 257 yX3_fewest := Or.inl (sTm_5 (List.mem_of_getElem? (i := 24) rfl) rfl)
theorem mf_X3_fewest : sMf yX3_fewest cX3_fewest 3 (some .int) 0 := ⟨(sTm_5 (List.mem_of_getElem? (i := 27) rfl) rfl), (sTm_1 (List.mem_of_getElem? (i := 12) rfl) rfl), ⟨by decide +kernel, by decide +kernel⟩, by decide +kernel, by decide⟩
theorem mi_X3_fewest : Cond.instanceMethod yX3_fewest ∈ sTb ∧ Cond.selects yX3_fewest.cls yX3_fewest yX3_fewest ∈ sTb := ⟨(sTm_5 (List.mem_of_getElem? (i := 25) rfl) rfl), (sTm_5 (List.mem_of_getElem? (i := 26) rfl) rfl)⟩
theorem lm_X11_261 : sMl RX11 261 yX11_isSight := Or.inl (sTm_5 (List.mem_of_getElem? (i := 44) rfl) rfl)
theorem mf_X11_isSight : sMf yX11_isSight cX11_isSight 2 (some .boolean) 1 := ⟨(sTm_5 (List.mem_of_getElem? (i := 47) rfl) rfl), (sTm_1 (List.mem_of_getElem? (i := 1) rfl) rfl), ⟨by decide +kernel, by decide +kernel⟩, by decide +kernel, by decide⟩
theorem mi_X11_isSight : Cond.instanceMethod yX11_isSight ∈ sTb ∧ Cond.selects yX11_isSight.cls yX11_isSight yX11_isSight ∈ sTb := ⟨(sTm_5 (List.mem_of_getElem? (i := 46) rfl) rfl), (sTs_3 (i := 14) rfl rfl)⟩
theorem lm_X11_264 : sMl RX11 264 yX10_byteAt := Or.inl (sTm_5 (List.mem_of_getElem? (i := 48) rfl) rfl)
theorem lm_X11_267 : sMl RX11 267 yX11_findLates := Or.inl (sTm_5 (List.mem_of_getElem? (i := 56) rfl) rfl)
theorem mf_X11_findLates : sMf yX11_findLates cX11_findLates 4 (some .int) 1 := ⟨(sTm_5 (List.mem_of_getElem? (i := 59) rfl) rfl), (sTm_1 (List.mem_of_getElem? (i := 1) rfl) rfl), ⟨by decide +kernel, by decide +kernel⟩, by decide +kernel, by decide⟩
theorem mi_X11_findLates : Cond.instanceMethod yX11_findLates ∈ sTb ∧ Cond.selects yX11_findLates.cls yX11_findLates yX11_findLates ∈ sTb := ⟨(sTm_5 (List.mem_of_getElem? (i := 58) rfl) rfl), (sTs_3 (i := 15) rfl rfl)⟩
theorem lm_X11_270 : sMl RX11 270 yX11_countShut := Or.inl (sTm_5 (List.mem_of_getElem? (i := 69) rfl) rfl)
theorem mf_X11_countShut : sMf yX11_countShut cX11_countShut 6 none 2 := ⟨(sTm_5 (List.mem_of_getElem? (i := 72) rfl) rfl), (sTm_1 (List.mem_of_getElem? (i := 1) rfl) rfl), ⟨by decide +kernel, by decide +kernel⟩, by decide +kernel, by decide⟩
theorem mi_X11_countShut : Cond.instanceMethod yX11_countShut ∈ sTb ∧ Cond.selects yX11_countShut.cls yX11_countShut yX11_countShut ∈ sTb := ⟨(sTm_5 (List.mem_of_getElem? (i := 71) rfl) rfl), (sTs_4 (i := 1) rfl rfl)⟩
theorem lm_X11_274 : sMl RX11 274 yJ9_max_7cf53 := Or.inl (sTm_5 (List.mem_of_getElem? (i := 85) rfl) rfl)
theorem lm_X11_279 : sMl RX11 279 yX11_remember := Or.inl (sTm_5 (List.mem_of_getElem? (i := 90) rfl) rfl)
theorem mf_X11_remember : sMf yX11_remember cX11_remember 1 none 0 := ⟨(sTm_5 (List.mem_of_getElem? (i := 93) rfl) rfl), (sTm_1 (List.mem_of_getElem? (i := 1) rfl) rfl), ⟨by decide +kernel, by decide +kernel⟩, by decide +kernel, by decide⟩
theorem mi_X11_remember : Cond.instanceMethod yX11_remember ∈ sTb ∧ Cond.selects yX11_remember.cls yX11_remember yX11_remember ∈ sTb := ⟨(sTm_5 (List.mem_of_getElem? (i := 92) rfl) rfl), (sTs_4 (i := 3) rfl rfl)⟩
theorem lm_X11_282 : sMl RX11 282 yX11_canPass := Or.inl (sTm_5 (List.mem_of_getElem? (i := 107) rfl) rfl)
theorem mf_X11_canPass : sMf yX11_canPass cX11_canPass 2 (some .boolean) 1 := ⟨(sTm_5 (List.mem_of_getElem? (i := 110) rfl) rfl), (sTm_1 (List.mem_of_getElem? (i := 1) rfl) rfl), ⟨by decide +kernel, by decide +kernel⟩, by decide +kernel, by decide⟩
theorem mi_X11_canPass : Cond.instanceMethod yX11_canPass ∈ sTb ∧ Cond.selects yX11_canPass.cls yX11_canPass yX11_canPass ∈ sTb := ⟨(sTm_5 (List.mem_of_getElem? (i := 109) rfl) rfl), (sTs_4 (i := 4) rfl rfl)⟩
theorem lm_X11_285 : sMl RX11 285 yX0_pass := Or.inl (sTm_4 (List.mem_of_getElem? (i := 192) rfl) rfl)
theorem mf_X0_pass : sMf yX0_pass cX0_pass 5 (some .int) 1 := ⟨(sTm_4 (List.mem_of_getElem? (i := 195) rfl) rfl), (sTm_1 (List.mem_of_getElem? (i := 8) rfl) rfl), ⟨by decide +kernel, by decide +kernel⟩, by decide +kernel, by decide⟩
theorem mi_X0_pass : Cond.instanceMethod yX0_pass ∈ sTb ∧ Cond.selects yX0_pass.cls yX0_pass yX0_pass ∈ sTb := ⟨(sTm_4 (List.mem_of_getElem? (i := 193) rfl) rfl), (sTm_4 (List.mem_of_getElem? (i := 194) rfl) rfl)⟩
theorem lm_X11_289 : sMl RX11 289 yX11_draw := Or.inl (sTm_5 (List.mem_of_getElem? (i := 115) rfl) rfl)
theorem mf_X11_draw : sMf yX11_draw cX11_draw 2 (some .int) 1 := ⟨(sTm_5 (List.mem_of_getElem? (i := 118) rfl) rfl), (sTm_1 (List.mem_of_getElem? (i := 1) rfl) rfl), ⟨by decide +kernel, by decide +kernel⟩, by decide +kernel, by decide⟩
theorem mi_X11_draw : Cond.instanceMethod yX11_draw ∈ sTb ∧ Cond.selects yX11_draw.cls yX11_draw yX11_draw ∈ sTb := ⟨(sTm_5 (List.mem_of_getElem? (i := 117) rfl) rfl), (sTs_4 (i := 5) rfl rfl)⟩
theorem lf_X11_292 : sFl RX11 292 1 9 10 false := ⟨RX1, TX1, rfl, by decide, by decide, sIn_RX1, tyX1_ok, nmX1, (by decide +kernel), (by decide +kernel), Or.inr ⟨"CenturyGates", (lwm_1 (List.mem_of_getElem? (i := 176) rfl))⟩⟩
theorem lm_X11_295 : sMl RX11 295 yX11_letPigsOut := Or.inl (sTm_5 (List.mem_of_getElem? (i := 121) rfl) rfl)
theorem mf_X11_letPigsOut : sMf yX11_letPigsOut cX11_letPigsOut 2 none 0 := ⟨(sTm_5 (List.mem_of_getElem? (i := 124) rfl) rfl), (sTm_1 (List.mem_of_getElem? (i := 1) rfl) rfl), ⟨by decide +kernel, by decide +kernel⟩, by decide +kernel, by decide⟩
theorem mi_X11_letPigsOut : Cond.instanceMethod yX11_letPigsOut ∈ sTb ∧ Cond.selects yX11_letPigsOut.cls yX11_letPigsOut yX11_letPigsOut ∈ sTb := ⟨(sTm_5 (List.mem_of_getElem? (i := 123) rfl) rfl), (sTs_4 (i := 6) rfl rfl)⟩
theorem tk_11_8 : skd (sTy 11 8) = 0 := by decide +kernel
theorem lf_X11_298 : sFl RX11 298 11 8 20 false := ⟨RX11, TX11, rfl, by decide, by decide, sIn_RX11, tyX11_ok, nmX11, (by decide +kernel), (by decide +kernel), Or.inl (sTm_2 (List.mem_of_getElem? (i := 134) rfl) rfl)⟩
theorem tp_11_8 : sTy 11 8 = .int := by decide +kernel
theorem lm_X11_301 : sMl RX11 301 yX8_copy := Or.inl (sTm_4 (List.mem_of_getElem? (i := 187) rfl) rfl)
theorem mf_X8_copy : sMf yX8_copy cX8_copy 2 none 1 := ⟨(sTm_4 (List.mem_of_getElem? (i := 190) rfl) rfl), (sTm_1 (List.mem_of_getElem? (i := 7) rfl) rfl), ⟨by decide +kernel, by decide +kernel⟩, by decide +kernel, by decide⟩
theorem mi_X8_copy : Cond.instanceMethod yX8_copy ∈ sTb ∧ Cond.selects yX8_copy.cls yX8_copy yX8_copy ∈ sTb := ⟨(sTm_4 (List.mem_of_getElem? (i := 188) rfl) rfl), (sTm_4 (List.mem_of_getElem? (i := 189) rfl) rfl)⟩
theorem lm_X11_305 : sMl RX11 305 yX5_readQuestion := Or.inl (sTm_5 (List.mem_of_getElem? (i := 137) rfl) rfl)
theorem mf_X5_readQuestion : sMf yX5_readQuestion cX5_readQuestion 2 (some .int) 0 := ⟨(sTm_5 (List.mem_of_getElem? (i := 140) rfl) rfl), (sTm_1 (List.mem_of_getElem? (i := 3) rfl) rfl), ⟨by decide +kernel, by decide +kernel⟩, by decide +kernel, by decide⟩
theorem mi_X5_readQuestion : Cond.instanceMethod yX5_readQuestion ∈ sTb ∧ Cond.selects yX5_readQuestion.cls yX5_readQuestion yX5_readQuestion ∈ sTb := ⟨(sTm_5 (List.mem_of_getElem? (i := 138) rfl) rfl), (sTm_5 (List.mem_of_getElem? (i := 139) rfl) rfl)⟩
theorem kl_X11_308 : Cond.constantLong RX11 308 (-1000000000000000) ∈ sTb := (sTm_5 (List.mem_of_getElem? (i := 142) rfl) rfl)
theorem kl_X11_310 : Cond.constantLong RX11 310 (-1) ∈ sTb := (sTm_5 (List.mem_of_getElem? (i := 143) rfl) rfl)
theorem lf_X11_312 : sFl RX11 312 5 1 2 true := ⟨RX5, TX5, rfl, by decide, by decide, sIn_RX5, tyX5_ok, nmX5, (by decide +kernel), (by decide +kernel), Or.inr ⟨"CenturyGates", (lwm_1 (List.mem_of_getElem? (i := 99) rfl))⟩⟩
theorem lm_X11_316 : sMl RX11 316 yX0_answerOf := Or.inl (sTm_5 (List.mem_of_getElem? (i := 144) rfl) rfl)
theorem mf_X0_answerOf : sMf yX0_answerOf cX0_answerOf 7 (some .int) 4 := ⟨(sTm_5 (List.mem_of_getElem? (i := 147) rfl) rfl), (sTm_1 (List.mem_of_getElem? (i := 8) rfl) rfl), ⟨by decide +kernel, by decide +kernel⟩, by decide +kernel, by decide⟩
theorem mi_X0_answerOf : Cond.instanceMethod yX0_answerOf ∈ sTb ∧ Cond.selects yX0_answerOf.cls yX0_answerOf yX0_answerOf ∈ sTb := ⟨(sTm_5 (List.mem_of_getElem? (i := 145) rfl) rfl), (sTm_5 (List.mem_of_getElem? (i := 146) rfl) rfl)⟩
theorem lm_X11_320 : sMl RX11 320 yX11_joined := Or.inl (sTm_5 (List.mem_of_getElem? (i := 149) rfl) rfl)
theorem mf_X11_joined : sMf yX11_joined cX11_joined 5 (some .long) 4 := ⟨(sTm_5 (List.mem_of_getElem? (i := 151) rfl) rfl), (sTm_1 (List.mem_of_getElem? (i := 1) rfl) rfl), ⟨by decide +kernel, by decide +kernel⟩, by decide +kernel, by decide⟩
theorem ms_X11_joined : Cond.static yX11_joined ∈ sTb := (sTm_5 (List.mem_of_getElem? (i := 150) rfl) rfl)
theorem tk_11_17 : skd (sTy 11 17) = 0 := by decide +kernel
theorem lf_X11_324 : sFl RX11 324 11 17 20 false := ⟨RX11, TX11, rfl, by decide, by decide, sIn_RX11, tyX11_ok, nmX11, (by decide +kernel), (by decide +kernel), Or.inl (sTm_2 (List.mem_of_getElem? (i := 143) rfl) rfl)⟩
theorem tp_11_17 : sTy 11 17 = .int := by decide +kernel
theorem lm_X11_327 : sMl RX11 327 yX11_writePair := Or.inl (sTm_5 (List.mem_of_getElem? (i := 162) rfl) rfl)
theorem mf_X11_writePair : sMf yX11_writePair cX11_writePair 2 none 1 := ⟨(sTm_5 (List.mem_of_getElem? (i := 165) rfl) rfl), (sTm_1 (List.mem_of_getElem? (i := 1) rfl) rfl), ⟨by decide +kernel, by decide +kernel⟩, by decide +kernel, by decide⟩
theorem mi_X11_writePair : Cond.instanceMethod yX11_writePair ∈ sTb ∧ Cond.selects yX11_writePair.cls yX11_writePair yX11_writePair ∈ sTb := ⟨(sTm_5 (List.mem_of_getElem? (i := 164) rfl) rfl), (sTs_4 (i := 7) rfl rfl)⟩
theorem lm_X11_330 : sMl RX11 330 yX11_write := Or.inl (sTm_5 (List.mem_of_getElem? (i := 166) rfl) rfl)
theorem mf_X11_write : sMf yX11_write cX11_write 2 none 1 := ⟨(sTm_5 (List.mem_of_getElem? (i := 169) rfl) rfl), (sTm_1 (List.mem_of_getElem? (i := 1) rfl) rfl), ⟨by decide +kernel, by decide +kernel⟩, by decide +kernel, by decide⟩
theorem mi_X11_write : Cond.instanceMethod yX11_write ∈ sTb ∧ Cond.selects yX11_write.cls yX11_write yX11_write ∈ sTb := ⟨(sTm_5 (List.mem_of_getElem? (i := 168) rfl) rfl), (sTs_4 (i := 8) rfl rfl)⟩
theorem lm_X11_333 : sMl RX11 333 yX11_imageSum := Or.inl (sTm_5 (List.mem_of_getElem? (i := 170) rfl) rfl)
theorem mf_X11_imageSum : sMf yX11_imageSum cX11_imageSum 4 (some .int) 2 := ⟨(sTm_5 (List.mem_of_getElem? (i := 172) rfl) rfl), (sTm_1 (List.mem_of_getElem? (i := 1) rfl) rfl), ⟨by decide +kernel, by decide +kernel⟩, by decide +kernel, by decide⟩
theorem ms_X11_imageSum : Cond.static yX11_imageSum ∈ sTb := (sTm_5 (List.mem_of_getElem? (i := 171) rfl) rfl)
theorem lm_X11_337 : sMl RX11 337 yX11_readImage := Or.inl (sTm_5 (List.mem_of_getElem? (i := 181) rfl) rfl)
theorem mf_X11_readImage : sMf yX11_readImage cX11_readImage 8 (some .boolean) 0 := ⟨(sTm_5 (List.mem_of_getElem? (i := 184) rfl) rfl), (sTm_1 (List.mem_of_getElem? (i := 1) rfl) rfl), ⟨by decide +kernel, by decide +kernel⟩, by decide +kernel, by decide⟩
theorem mi_X11_readImage : Cond.instanceMethod yX11_readImage ∈ sTb ∧ Cond.selects yX11_readImage.cls yX11_readImage yX11_readImage ∈ sTb := ⟨(sTm_5 (List.mem_of_getElem? (i := 183) rfl) rfl), (sTs_4 (i := 9) rfl rfl)⟩
theorem lm_X11_340 : sMl RX11 340 yX4_close := Or.inl (sTm_4 (List.mem_of_getElem? (i := 83) rfl) rfl)
theorem lm_X11_344 : sMl RX11 344 yJ9_min_7cf53 := Or.inl (sTm_5 (List.mem_of_getElem? (i := 94) rfl) rfl)
theorem kc_X11_347 : Cond.constant RX11 347 (1103515245) ∈ sTb := (sTm_5 (List.mem_of_getElem? (i := 119) rfl) rfl)
theorem kc_X11_348 : Cond.constant RX11 348 (2147483647) ∈ sTb := (sTm_5 (List.mem_of_getElem? (i := 120) rfl) rfl)
theorem lm_X11_349 : sMl RX11 349 yX3_addClosing := Or.inl (sTm_5 (List.mem_of_getElem? (i := 20) rfl) rfl)
theorem mf_X3_addClosing : sMf yX3_addClosing cX3_addClosing 4 (some .boolean) 3 := ⟨(sTm_5 (List.mem_of_getElem? (i := 23) rfl) rfl), (sTm_1 (List.mem_of_getElem? (i := 12) rfl) rfl), ⟨by decide +kernel, by decide +kernel⟩, by decide +kernel, by decide⟩
theorem mi_X3_addClosing : Cond.instanceMethod yX3_addClosing ∈ sTb ∧ Cond.selects yX3_addClosing.cls yX3_addClosing yX3_addClosing ∈ sTb := ⟨(sTm_5 (List.mem_of_getElem? (i := 21) rfl) rfl), (sTm_5 (List.mem_of_getElem? (i := 22) rfl) rfl)⟩
theorem lm_X11_353 : sMl RX11 353 yX11_isFlag := Or.inl (sTm_5 (List.mem_of_getElem? (i := 49) rfl) rfl)
theorem mf_X11_isFlag : sMf yX11_isFlag cX11_isFlag 1 (some .boolean) 1 := ⟨(sTm_5 (List.mem_of_getElem? (i := 51) rfl) rfl), (sTm_1 (List.mem_of_getElem? (i := 1) rfl) rfl), ⟨by decide +kernel, by decide +kernel⟩, by decide +kernel, by decide⟩
theorem ms_X11_isFlag : Cond.static yX11_isFlag ∈ sTb := (sTm_5 (List.mem_of_getElem? (i := 50) rfl) rfl)
theorem lm_X11_356 : sMl RX11 356 yX4_row := Or.inl (sTm_5 (List.mem_of_getElem? (i := 60) rfl) rfl)
theorem lm_X11_360 : sMl RX11 360 yX11_isAsSeen := Or.inl (sTm_5 (List.mem_of_getElem? (i := 61) rfl) rfl)
theorem mf_X11_isAsSeen : sMf yX11_isAsSeen cX11_isAsSeen 6 (some .boolean) 1 := ⟨(sTm_5 (List.mem_of_getElem? (i := 64) rfl) rfl), (sTm_1 (List.mem_of_getElem? (i := 1) rfl) rfl), ⟨by decide +kernel, by decide +kernel⟩, by decide +kernel, by decide⟩
theorem mi_X11_isAsSeen : Cond.instanceMethod yX11_isAsSeen ∈ sTb ∧ Cond.selects yX11_isAsSeen.cls yX11_isAsSeen yX11_isAsSeen ∈ sTb := ⟨(sTm_5 (List.mem_of_getElem? (i := 63) rfl) rfl), (sTs_4 (i := 0) rfl rfl)⟩
theorem lm_X11_364 : sMl RX11 364 yJ7_fill_53178 := Or.inl (sTm_5 (List.mem_of_getElem? (i := 73) rfl) rfl)
theorem lm_X11_370 : sMl RX11 370 yX11_countBits := Or.inl (sTm_5 (List.mem_of_getElem? (i := 74) rfl) rfl)
theorem mf_X11_countBits : sMf yX11_countBits cX11_countBits 9 none 2 := ⟨(sTm_5 (List.mem_of_getElem? (i := 77) rfl) rfl), (sTm_1 (List.mem_of_getElem? (i := 1) rfl) rfl), ⟨by decide +kernel, by decide +kernel⟩, by decide +kernel, by decide⟩
theorem mi_X11_countBits : Cond.instanceMethod yX11_countBits ∈ sTb ∧ Cond.selects yX11_countBits.cls yX11_countBits yX11_countBits ∈ sTb := ⟨(sTm_5 (List.mem_of_getElem? (i := 76) rfl) rfl), (sTs_4 (i := 2) rfl rfl)⟩
theorem lm_X11_374 : sMl RX11 374 yJ13_numberOfTrailingZeros_95d88 := Or.inl (sTm_5 (List.mem_of_getElem? (i := 78) rfl) rfl)
theorem mf_J13_numberOfTrailingZeros_95d88 : sMf yJ13_numberOfTrailingZeros_95d88 cJ13_numberOfTrailingZeros_95d88 3 (some .int) 1 := ⟨(sTm_5 (List.mem_of_getElem? (i := 80) rfl) rfl), (sTm_1 (List.mem_of_getElem? (i := 23) rfl) rfl), ⟨by decide +kernel, by decide +kernel⟩, by decide +kernel, by decide⟩
theorem ms_J13_numberOfTrailingZeros_95d88 : Cond.static yJ13_numberOfTrailingZeros_95d88 ∈ sTb := (sTm_5 (List.mem_of_getElem? (i := 79) rfl) rfl)
theorem lm_X11_380 : sMl RX11 380 yJ9_max_f86c9 := Or.inl (sTm_5 (List.mem_of_getElem? (i := 152) rfl) rfl)
theorem mf_J9_max_f86c9 : sMf yJ9_max_f86c9 cJ9_max_f86c9 4 (some .long) 2 := ⟨(sTm_5 (List.mem_of_getElem? (i := 154) rfl) rfl), (sTm_1 (List.mem_of_getElem? (i := 18) rfl) rfl), ⟨by decide +kernel, by decide +kernel⟩, by decide +kernel, by decide⟩
theorem ms_J9_max_f86c9 : Cond.static yJ9_max_f86c9 ∈ sTb := (sTm_5 (List.mem_of_getElem? (i := 153) rfl) rfl)
theorem lm_X11_383 : sMl RX11 383 yJ9_min_f86c9 := Or.inl (sTm_5 (List.mem_of_getElem? (i := 155) rfl) rfl)
theorem mf_J9_min_f86c9 : sMf yJ9_min_f86c9 cJ9_min_f86c9 4 (some .long) 2 := ⟨(sTm_5 (List.mem_of_getElem? (i := 157) rfl) rfl), (sTm_1 (List.mem_of_getElem? (i := 18) rfl) rfl), ⟨by decide +kernel, by decide +kernel⟩, by decide +kernel, by decide⟩
theorem ms_J9_min_f86c9 : Cond.static yJ9_min_f86c9 ∈ sTb := (sTm_5 (List.mem_of_getElem? (i := 156) rfl) rfl)
theorem lf_X11_385 : sFl RX11 385 10 0 10 true := ⟨RX10, TX10, rfl, by decide, by decide, sIn_RX10, tyX10_ok, nmX10, (by decide +kernel), (by decide +kernel), Or.inr ⟨"CenturyGates", (lwm_1 (List.mem_of_getElem? (i := 39) rfl))⟩⟩
theorem lm_X11_388 : sMl RX11 388 yX11_pairAt := Or.inl (sTm_5 (List.mem_of_getElem? (i := 185) rfl) rfl)
theorem mf_X11_pairAt : sMf yX11_pairAt cX11_pairAt 2 (some .int) 1 := ⟨(sTm_5 (List.mem_of_getElem? (i := 188) rfl) rfl), (sTm_1 (List.mem_of_getElem? (i := 1) rfl) rfl), ⟨by decide +kernel, by decide +kernel⟩, by decide +kernel, by decide⟩
theorem mi_X11_pairAt : Cond.instanceMethod yX11_pairAt ∈ sTb ∧ Cond.selects yX11_pairAt.cls yX11_pairAt yX11_pairAt ∈ sTb := ⟨(sTm_5 (List.mem_of_getElem? (i := 187) rfl) rfl), (sTs_4 (i := 10) rfl rfl)⟩
theorem lm_X11_391 : sMl RX11 391 yX11_readCarImage := Or.inl (sTm_5 (List.mem_of_getElem? (i := 189) rfl) rfl)
theorem mf_X11_readCarImage : sMf yX11_readCarImage cX11_readCarImage 3 (some .boolean) 2 := ⟨(sTm_5 (List.mem_of_getElem? (i := 192) rfl) rfl), (sTm_1 (List.mem_of_getElem? (i := 1) rfl) rfl), ⟨by decide +kernel, by decide +kernel⟩, by decide +kernel, by decide⟩
theorem mi_X11_readCarImage : Cond.instanceMethod yX11_readCarImage ∈ sTb ∧ Cond.selects yX11_readCarImage.cls yX11_readCarImage yX11_readCarImage ∈ sTb := ⟨(sTm_5 (List.mem_of_getElem? (i := 191) rfl) rfl), (sTs_4 (i := 11) rfl rfl)⟩
theorem lo_X12_1 : Cond.methodLink RX12 1 Lib.objectInit ∈ sTb := (sTm_5 (List.mem_of_getElem? (i := 202) rfl) rfl)
theorem tk_12_0 : skd (sTy 12 0) = 2 := by decide +kernel
theorem lf_X12_7 : sFl RX12 7 12 0 127 true := ⟨RX12, TX12, rfl, by decide, by decide, sIn_RX12, tyX12_ok, nmX12, (by decide +kernel), (by decide +kernel), Or.inl (sTm_5 (List.mem_of_getElem? (i := 203) rfl) rfl)⟩
theorem lg_X12_7 : sFf RX12 7 12 0 127 := ⟨TX12, rfl, by decide, by decide, sIn_RX12, tyX12_ok, nmX12, (by decide +kernel), (by decide +kernel), (sTm_5 (List.mem_of_getElem? (i := 203) rfl) rfl)⟩
theorem tk_12_8 : skd (sTy 12 8) = 0 := by decide +kernel
theorem lf_X12_13 : sFl RX12 13 12 8 127 false := ⟨RX12, TX12, rfl, by decide, by decide, sIn_RX12, tyX12_ok, nmX12, (by decide +kernel), (by decide +kernel), Or.inl (sTm_5 (List.mem_of_getElem? (i := 211) rfl) rfl)⟩
theorem tp_12_8 : sTy 12 8 = .int := by decide +kernel
theorem tk_12_9 : skd (sTy 12 9) = 2 := by decide +kernel
theorem lf_X12_17 : sFl RX12 17 12 9 127 true := ⟨RX12, TX12, rfl, by decide, by decide, sIn_RX12, tyX12_ok, nmX12, (by decide +kernel), (by decide +kernel), Or.inl (sTm_5 (List.mem_of_getElem? (i := 212) rfl) rfl)⟩
theorem lg_X12_17 : sFf RX12 17 12 9 127 := ⟨TX12, rfl, by decide, by decide, sIn_RX12, tyX12_ok, nmX12, (by decide +kernel), (by decide +kernel), (sTm_5 (List.mem_of_getElem? (i := 212) rfl) rfl)⟩
theorem tk_12_11 : skd (sTy 12 11) = 2 := by decide +kernel
theorem lf_X12_20 : sFl RX12 20 12 11 127 true := ⟨RX12, TX12, rfl, by decide, by decide, sIn_RX12, tyX12_ok, nmX12, (by decide +kernel), (by decide +kernel), Or.inl (sTm_5 (List.mem_of_getElem? (i := 214) rfl) rfl)⟩
theorem lg_X12_20 : sFf RX12 20 12 11 127 := ⟨TX12, rfl, by decide, by decide, sIn_RX12, tyX12_ok, nmX12, (by decide +kernel), (by decide +kernel), (sTm_5 (List.mem_of_getElem? (i := 214) rfl) rfl)⟩
theorem tk_12_12 : skd (sTy 12 12) = 2 := by decide +kernel
theorem lf_X12_24 : sFl RX12 24 12 12 127 true := ⟨RX12, TX12, rfl, by decide, by decide, sIn_RX12, tyX12_ok, nmX12, (by decide +kernel), (by decide +kernel), Or.inl (sTm_5 (List.mem_of_getElem? (i := 215) rfl) rfl)⟩
theorem lg_X12_24 : sFf RX12 24 12 12 127 := ⟨TX12, rfl, by decide, by decide, sIn_RX12, tyX12_ok, nmX12, (by decide +kernel), (by decide +kernel), (sTm_5 (List.mem_of_getElem? (i := 215) rfl) rfl)⟩
theorem tk_12_13 : skd (sTy 12 13) = 2 := by decide +kernel
theorem lf_X12_27 : sFl RX12 27 12 13 127 true := ⟨RX12, TX12, rfl, by decide, by decide, sIn_RX12, tyX12_ok, nmX12, (by decide +kernel), (by decide +kernel), Or.inl (sTm_5 (List.mem_of_getElem? (i := 216) rfl) rfl)⟩
theorem lg_X12_27 : sFf RX12 27 12 13 127 := ⟨TX12, rfl, by decide, by decide, sIn_RX12, tyX12_ok, nmX12, (by decide +kernel), (by decide +kernel), (sTm_5 (List.mem_of_getElem? (i := 216) rfl) rfl)⟩
theorem tk_12_14 : skd (sTy 12 14) = 2 := by decide +kernel
theorem lf_X12_30 : sFl RX12 30 12 14 127 true := ⟨RX12, TX12, rfl, by decide, by decide, sIn_RX12, tyX12_ok, nmX12, (by decide +kernel), (by decide +kernel), Or.inl (sTm_5 (List.mem_of_getElem? (i := 217) rfl) rfl)⟩
theorem lg_X12_30 : sFf RX12 30 12 14 127 := ⟨TX12, rfl, by decide, by decide, sIn_RX12, tyX12_ok, nmX12, (by decide +kernel), (by decide +kernel), (sTm_5 (List.mem_of_getElem? (i := 217) rfl) rfl)⟩
theorem tk_12_15 : skd (sTy 12 15) = 2 := by decide +kernel
theorem lf_X12_33 : sFl RX12 33 12 15 127 true := ⟨RX12, TX12, rfl, by decide, by decide, sIn_RX12, tyX12_ok, nmX12, (by decide +kernel), (by decide +kernel), Or.inl (sTm_5 (List.mem_of_getElem? (i := 218) rfl) rfl)⟩
theorem lg_X12_33 : sFf RX12 33 12 15 127 := ⟨TX12, rfl, by decide, by decide, sIn_RX12, tyX12_ok, nmX12, (by decide +kernel), (by decide +kernel), (sTm_5 (List.mem_of_getElem? (i := 218) rfl) rfl)⟩
theorem tk_12_16 : skd (sTy 12 16) = 2 := by decide +kernel
theorem lf_X12_36 : sFl RX12 36 12 16 127 true := ⟨RX12, TX12, rfl, by decide, by decide, sIn_RX12, tyX12_ok, nmX12, (by decide +kernel), (by decide +kernel), Or.inl (sTm_5 (List.mem_of_getElem? (i := 219) rfl) rfl)⟩
theorem lg_X12_36 : sFf RX12 36 12 16 127 := ⟨TX12, rfl, by decide, by decide, sIn_RX12, tyX12_ok, nmX12, (by decide +kernel), (by decide +kernel), (sTm_5 (List.mem_of_getElem? (i := 219) rfl) rfl)⟩
theorem tk_12_17 : skd (sTy 12 17) = 2 := by decide +kernel
theorem lf_X12_39 : sFl RX12 39 12 17 127 true := ⟨RX12, TX12, rfl, by decide, by decide, sIn_RX12, tyX12_ok, nmX12, (by decide +kernel), (by decide +kernel), Or.inl (sTm_5 (List.mem_of_getElem? (i := 220) rfl) rfl)⟩
theorem lg_X12_39 : sFf RX12 39 12 17 127 := ⟨TX12, rfl, by decide, by decide, sIn_RX12, tyX12_ok, nmX12, (by decide +kernel), (by decide +kernel), (sTm_5 (List.mem_of_getElem? (i := 220) rfl) rfl)⟩
theorem tk_12_18 : skd (sTy 12 18) = 2 := by decide +kernel
theorem lf_X12_42 : sFl RX12 42 12 18 127 true := ⟨RX12, TX12, rfl, by decide, by decide, sIn_RX12, tyX12_ok, nmX12, (by decide +kernel), (by decide +kernel), Or.inl (sTm_5 (List.mem_of_getElem? (i := 221) rfl) rfl)⟩
theorem lg_X12_42 : sFf RX12 42 12 18 127 := ⟨TX12, rfl, by decide, by decide, sIn_RX12, tyX12_ok, nmX12, (by decide +kernel), (by decide +kernel), (sTm_5 (List.mem_of_getElem? (i := 221) rfl) rfl)⟩
theorem tk_12_19 : skd (sTy 12 19) = 2 := by decide +kernel
theorem lf_X12_45 : sFl RX12 45 12 19 127 true := ⟨RX12, TX12, rfl, by decide, by decide, sIn_RX12, tyX12_ok, nmX12, (by decide +kernel), (by decide +kernel), Or.inl (sTm_5 (List.mem_of_getElem? (i := 222) rfl) rfl)⟩
theorem lg_X12_45 : sFf RX12 45 12 19 127 := ⟨TX12, rfl, by decide, by decide, sIn_RX12, tyX12_ok, nmX12, (by decide +kernel), (by decide +kernel), (sTm_5 (List.mem_of_getElem? (i := 222) rfl) rfl)⟩
theorem tk_12_20 : skd (sTy 12 20) = 2 := by decide +kernel
theorem lf_X12_48 : sFl RX12 48 12 20 127 true := ⟨RX12, TX12, rfl, by decide, by decide, sIn_RX12, tyX12_ok, nmX12, (by decide +kernel), (by decide +kernel), Or.inl (sTm_5 (List.mem_of_getElem? (i := 223) rfl) rfl)⟩
theorem lg_X12_48 : sFf RX12 48 12 20 127 := ⟨TX12, rfl, by decide, by decide, sIn_RX12, tyX12_ok, nmX12, (by decide +kernel), (by decide +kernel), (sTm_5 (List.mem_of_getElem? (i := 223) rfl) rfl)⟩
theorem tk_12_21 : skd (sTy 12 21) = 2 := by decide +kernel
theorem lf_X12_51 : sFl RX12 51 12 21 127 true := ⟨RX12, TX12, rfl, by decide, by decide, sIn_RX12, tyX12_ok, nmX12, (by decide +kernel), (by decide +kernel), Or.inl (sTm_5 (List.mem_of_getElem? (i := 224) rfl) rfl)⟩
theorem lg_X12_51 : sFf RX12 51 12 21 127 := ⟨TX12, rfl, by decide, by decide, sIn_RX12, tyX12_ok, nmX12, (by decide +kernel), (by decide +kernel), (sTm_5 (List.mem_of_getElem? (i := 224) rfl) rfl)⟩
theorem tk_12_22 : skd (sTy 12 22) = 2 := by decide +kernel
theorem lf_X12_54 : sFl RX12 54 12 22 127 true := ⟨RX12, TX12, rfl, by decide, by decide, sIn_RX12, tyX12_ok, nmX12, (by decide +kernel), (by decide +kernel), Or.inl (sTm_5 (List.mem_of_getElem? (i := 225) rfl) rfl)⟩
theorem lg_X12_54 : sFf RX12 54 12 22 127 := ⟨TX12, rfl, by decide, by decide, sIn_RX12, tyX12_ok, nmX12, (by decide +kernel), (by decide +kernel), (sTm_5 (List.mem_of_getElem? (i := 225) rfl) rfl)⟩
theorem tk_12_23 : skd (sTy 12 23) = 2 := by decide +kernel
theorem lf_X12_57 : sFl RX12 57 12 23 127 true := ⟨RX12, TX12, rfl, by decide, by decide, sIn_RX12, tyX12_ok, nmX12, (by decide +kernel), (by decide +kernel), Or.inl (sTm_5 (List.mem_of_getElem? (i := 226) rfl) rfl)⟩
theorem lg_X12_57 : sFf RX12 57 12 23 127 := ⟨TX12, rfl, by decide, by decide, sIn_RX12, tyX12_ok, nmX12, (by decide +kernel), (by decide +kernel), (sTm_5 (List.mem_of_getElem? (i := 226) rfl) rfl)⟩
theorem tk_12_24 : skd (sTy 12 24) = 2 := by decide +kernel
theorem lf_X12_60 : sFl RX12 60 12 24 127 true := ⟨RX12, TX12, rfl, by decide, by decide, sIn_RX12, tyX12_ok, nmX12, (by decide +kernel), (by decide +kernel), Or.inl (sTm_5 (List.mem_of_getElem? (i := 227) rfl) rfl)⟩
theorem lg_X12_60 : sFf RX12 60 12 24 127 := ⟨TX12, rfl, by decide, by decide, sIn_RX12, tyX12_ok, nmX12, (by decide +kernel), (by decide +kernel), (sTm_5 (List.mem_of_getElem? (i := 227) rfl) rfl)⟩
theorem tk_12_25 : skd (sTy 12 25) = 2 := by decide +kernel
theorem lf_X12_63 : sFl RX12 63 12 25 127 true := ⟨RX12, TX12, rfl, by decide, by decide, sIn_RX12, tyX12_ok, nmX12, (by decide +kernel), (by decide +kernel), Or.inl (sTm_5 (List.mem_of_getElem? (i := 228) rfl) rfl)⟩
theorem lg_X12_63 : sFf RX12 63 12 25 127 := ⟨TX12, rfl, by decide, by decide, sIn_RX12, tyX12_ok, nmX12, (by decide +kernel), (by decide +kernel), (sTm_5 (List.mem_of_getElem? (i := 228) rfl) rfl)⟩
theorem tk_12_26 : skd (sTy 12 26) = 2 := by decide +kernel
theorem lf_X12_66 : sFl RX12 66 12 26 127 true := ⟨RX12, TX12, rfl, by decide, by decide, sIn_RX12, tyX12_ok, nmX12, (by decide +kernel), (by decide +kernel), Or.inl (sTm_5 (List.mem_of_getElem? (i := 229) rfl) rfl)⟩
theorem lg_X12_66 : sFf RX12 66 12 26 127 := ⟨TX12, rfl, by decide, by decide, sIn_RX12, tyX12_ok, nmX12, (by decide +kernel), (by decide +kernel), (sTm_5 (List.mem_of_getElem? (i := 229) rfl) rfl)⟩
theorem tk_12_27 : skd (sTy 12 27) = 2 := by decide +kernel
theorem lf_X12_69 : sFl RX12 69 12 27 127 true := ⟨RX12, TX12, rfl, by decide, by decide, sIn_RX12, tyX12_ok, nmX12, (by decide +kernel), (by decide +kernel), Or.inl (sTm_5 (List.mem_of_getElem? (i := 230) rfl) rfl)⟩
theorem lg_X12_69 : sFf RX12 69 12 27 127 := ⟨TX12, rfl, by decide, by decide, sIn_RX12, tyX12_ok, nmX12, (by decide +kernel), (by decide +kernel), (sTm_5 (List.mem_of_getElem? (i := 230) rfl) rfl)⟩
theorem tk_12_28 : skd (sTy 12 28) = 2 := by decide +kernel
theorem lf_X12_72 : sFl RX12 72 12 28 127 true := ⟨RX12, TX12, rfl, by decide, by decide, sIn_RX12, tyX12_ok, nmX12, (by decide +kernel), (by decide +kernel), Or.inl (sTm_5 (List.mem_of_getElem? (i := 231) rfl) rfl)⟩
theorem lg_X12_72 : sFf RX12 72 12 28 127 := ⟨TX12, rfl, by decide, by decide, sIn_RX12, tyX12_ok, nmX12, (by decide +kernel), (by decide +kernel), (sTm_5 (List.mem_of_getElem? (i := 231) rfl) rfl)⟩
theorem tk_12_29 : skd (sTy 12 29) = 2 := by decide +kernel
theorem lf_X12_75 : sFl RX12 75 12 29 127 true := ⟨RX12, TX12, rfl, by decide, by decide, sIn_RX12, tyX12_ok, nmX12, (by decide +kernel), (by decide +kernel), Or.inl (sTm_5 (List.mem_of_getElem? (i := 232) rfl) rfl)⟩
theorem lg_X12_75 : sFf RX12 75 12 29 127 := ⟨TX12, rfl, by decide, by decide, sIn_RX12, tyX12_ok, nmX12, (by decide +kernel), (by decide +kernel), (sTm_5 (List.mem_of_getElem? (i := 232) rfl) rfl)⟩
theorem tk_12_30 : skd (sTy 12 30) = 2 := by decide +kernel
theorem lf_X12_78 : sFl RX12 78 12 30 127 true := ⟨RX12, TX12, rfl, by decide, by decide, sIn_RX12, tyX12_ok, nmX12, (by decide +kernel), (by decide +kernel), Or.inl (sTm_5 (List.mem_of_getElem? (i := 233) rfl) rfl)⟩
theorem lg_X12_78 : sFf RX12 78 12 30 127 := ⟨TX12, rfl, by decide, by decide, sIn_RX12, tyX12_ok, nmX12, (by decide +kernel), (by decide +kernel), (sTm_5 (List.mem_of_getElem? (i := 233) rfl) rfl)⟩
theorem tk_12_31 : skd (sTy 12 31) = 2 := by decide +kernel
theorem lf_X12_81 : sFl RX12 81 12 31 127 true := ⟨RX12, TX12, rfl, by decide, by decide, sIn_RX12, tyX12_ok, nmX12, (by decide +kernel), (by decide +kernel), Or.inl (sTm_5 (List.mem_of_getElem? (i := 234) rfl) rfl)⟩
theorem lg_X12_81 : sFf RX12 81 12 31 127 := ⟨TX12, rfl, by decide, by decide, sIn_RX12, tyX12_ok, nmX12, (by decide +kernel), (by decide +kernel), (sTm_5 (List.mem_of_getElem? (i := 234) rfl) rfl)⟩
theorem tk_12_32 : skd (sTy 12 32) = 2 := by decide +kernel
theorem lf_X12_84 : sFl RX12 84 12 32 127 true := ⟨RX12, TX12, rfl, by decide, by decide, sIn_RX12, tyX12_ok, nmX12, (by decide +kernel), (by decide +kernel), Or.inl (sTm_5 (List.mem_of_getElem? (i := 235) rfl) rfl)⟩
theorem lg_X12_84 : sFf RX12 84 12 32 127 := ⟨TX12, rfl, by decide, by decide, sIn_RX12, tyX12_ok, nmX12, (by decide +kernel), (by decide +kernel), (sTm_5 (List.mem_of_getElem? (i := 235) rfl) rfl)⟩
theorem tk_12_33 : skd (sTy 12 33) = 2 := by decide +kernel
theorem lf_X12_87 : sFl RX12 87 12 33 127 true := ⟨RX12, TX12, rfl, by decide, by decide, sIn_RX12, tyX12_ok, nmX12, (by decide +kernel), (by decide +kernel), Or.inl (sTm_5 (List.mem_of_getElem? (i := 236) rfl) rfl)⟩
theorem lg_X12_87 : sFf RX12 87 12 33 127 := ⟨TX12, rfl, by decide, by decide, sIn_RX12, tyX12_ok, nmX12, (by decide +kernel), (by decide +kernel), (sTm_5 (List.mem_of_getElem? (i := 236) rfl) rfl)⟩
theorem tk_12_34 : skd (sTy 12 34) = 2 := by decide +kernel
theorem lf_X12_90 : sFl RX12 90 12 34 127 true := ⟨RX12, TX12, rfl, by decide, by decide, sIn_RX12, tyX12_ok, nmX12, (by decide +kernel), (by decide +kernel), Or.inl (sTm_5 (List.mem_of_getElem? (i := 237) rfl) rfl)⟩
theorem lg_X12_90 : sFf RX12 90 12 34 127 := ⟨TX12, rfl, by decide, by decide, sIn_RX12, tyX12_ok, nmX12, (by decide +kernel), (by decide +kernel), (sTm_5 (List.mem_of_getElem? (i := 237) rfl) rfl)⟩
theorem tk_12_35 : skd (sTy 12 35) = 2 := by decide +kernel
theorem lf_X12_93 : sFl RX12 93 12 35 127 true := ⟨RX12, TX12, rfl, by decide, by decide, sIn_RX12, tyX12_ok, nmX12, (by decide +kernel), (by decide +kernel), Or.inl (sTm_5 (List.mem_of_getElem? (i := 238) rfl) rfl)⟩
theorem lg_X12_93 : sFf RX12 93 12 35 127 := ⟨TX12, rfl, by decide, by decide, sIn_RX12, tyX12_ok, nmX12, (by decide +kernel), (by decide +kernel), (sTm_5 (List.mem_of_getElem? (i := 238) rfl) rfl)⟩
theorem tk_12_36 : skd (sTy 12 36) = 2 := by decide +kernel
theorem lf_X12_96 : sFl RX12 96 12 36 127 true := ⟨RX12, TX12, rfl, by decide, by decide, sIn_RX12, tyX12_ok, nmX12, (by decide +kernel), (by decide +kernel), Or.inl (sTm_5 (List.mem_of_getElem? (i := 239) rfl) rfl)⟩
theorem lg_X12_96 : sFf RX12 96 12 36 127 := ⟨TX12, rfl, by decide, by decide, sIn_RX12, tyX12_ok, nmX12, (by decide +kernel), (by decide +kernel), (sTm_5 (List.mem_of_getElem? (i := 239) rfl) rfl)⟩
theorem tk_12_37 : skd (sTy 12 37) = 2 := by decide +kernel
theorem lf_X12_99 : sFl RX12 99 12 37 127 true := ⟨RX12, TX12, rfl, by decide, by decide, sIn_RX12, tyX12_ok, nmX12, (by decide +kernel), (by decide +kernel), Or.inl (sTm_6 (List.mem_of_getElem? (i := 0) rfl) rfl)⟩
theorem lg_X12_99 : sFf RX12 99 12 37 127 := ⟨TX12, rfl, by decide, by decide, sIn_RX12, tyX12_ok, nmX12, (by decide +kernel), (by decide +kernel), (sTm_6 (List.mem_of_getElem? (i := 0) rfl) rfl)⟩
theorem tk_12_38 : skd (sTy 12 38) = 2 := by decide +kernel
theorem lf_X12_102 : sFl RX12 102 12 38 127 true := ⟨RX12, TX12, rfl, by decide, by decide, sIn_RX12, tyX12_ok, nmX12, (by decide +kernel), (by decide +kernel), Or.inl (sTm_6 (List.mem_of_getElem? (i := 1) rfl) rfl)⟩
theorem lg_X12_102 : sFf RX12 102 12 38 127 := ⟨TX12, rfl, by decide, by decide, sIn_RX12, tyX12_ok, nmX12, (by decide +kernel), (by decide +kernel), (sTm_6 (List.mem_of_getElem? (i := 1) rfl) rfl)⟩
theorem tk_12_39 : skd (sTy 12 39) = 2 := by decide +kernel
theorem lf_X12_105 : sFl RX12 105 12 39 127 true := ⟨RX12, TX12, rfl, by decide, by decide, sIn_RX12, tyX12_ok, nmX12, (by decide +kernel), (by decide +kernel), Or.inl (sTm_6 (List.mem_of_getElem? (i := 2) rfl) rfl)⟩
theorem lg_X12_105 : sFf RX12 105 12 39 127 := ⟨TX12, rfl, by decide, by decide, sIn_RX12, tyX12_ok, nmX12, (by decide +kernel), (by decide +kernel), (sTm_6 (List.mem_of_getElem? (i := 2) rfl) rfl)⟩
theorem tk_12_40 : skd (sTy 12 40) = 2 := by decide +kernel
theorem lf_X12_108 : sFl RX12 108 12 40 127 true := ⟨RX12, TX12, rfl, by decide, by decide, sIn_RX12, tyX12_ok, nmX12, (by decide +kernel), (by decide +kernel), Or.inl (sTm_6 (List.mem_of_getElem? (i := 3) rfl) rfl)⟩
theorem lg_X12_108 : sFf RX12 108 12 40 127 := ⟨TX12, rfl, by decide, by decide, sIn_RX12, tyX12_ok, nmX12, (by decide +kernel), (by decide +kernel), (sTm_6 (List.mem_of_getElem? (i := 3) rfl) rfl)⟩
theorem tk_12_41 : skd (sTy 12 41) = 2 := by decide +kernel
theorem lf_X12_111 : sFl RX12 111 12 41 127 true := ⟨RX12, TX12, rfl, by decide, by decide, sIn_RX12, tyX12_ok, nmX12, (by decide +kernel), (by decide +kernel), Or.inl (sTm_6 (List.mem_of_getElem? (i := 4) rfl) rfl)⟩
theorem lg_X12_111 : sFf RX12 111 12 41 127 := ⟨TX12, rfl, by decide, by decide, sIn_RX12, tyX12_ok, nmX12, (by decide +kernel), (by decide +kernel), (sTm_6 (List.mem_of_getElem? (i := 4) rfl) rfl)⟩
theorem tk_12_42 : skd (sTy 12 42) = 2 := by decide +kernel
theorem lf_X12_114 : sFl RX12 114 12 42 127 true := ⟨RX12, TX12, rfl, by decide, by decide, sIn_RX12, tyX12_ok, nmX12, (by decide +kernel), (by decide +kernel), Or.inl (sTm_6 (List.mem_of_getElem? (i := 5) rfl) rfl)⟩
theorem lg_X12_114 : sFf RX12 114 12 42 127 := ⟨TX12, rfl, by decide, by decide, sIn_RX12, tyX12_ok, nmX12, (by decide +kernel), (by decide +kernel), (sTm_6 (List.mem_of_getElem? (i := 5) rfl) rfl)⟩
theorem tk_12_43 : skd (sTy 12 43) = 2 := by decide +kernel
theorem lf_X12_117 : sFl RX12 117 12 43 127 true := ⟨RX12, TX12, rfl, by decide, by decide, sIn_RX12, tyX12_ok, nmX12, (by decide +kernel), (by decide +kernel), Or.inl (sTm_6 (List.mem_of_getElem? (i := 6) rfl) rfl)⟩
theorem lg_X12_117 : sFf RX12 117 12 43 127 := ⟨TX12, rfl, by decide, by decide, sIn_RX12, tyX12_ok, nmX12, (by decide +kernel), (by decide +kernel), (sTm_6 (List.mem_of_getElem? (i := 6) rfl) rfl)⟩
theorem tk_12_45 : skd (sTy 12 45) = 2 := by decide +kernel
theorem lf_X12_120 : sFl RX12 120 12 45 127 true := ⟨RX12, TX12, rfl, by decide, by decide, sIn_RX12, tyX12_ok, nmX12, (by decide +kernel), (by decide +kernel), Or.inl (sTm_6 (List.mem_of_getElem? (i := 8) rfl) rfl)⟩
theorem lg_X12_120 : sFf RX12 120 12 45 127 := ⟨TX12, rfl, by decide, by decide, sIn_RX12, tyX12_ok, nmX12, (by decide +kernel), (by decide +kernel), (sTm_6 (List.mem_of_getElem? (i := 8) rfl) rfl)⟩
theorem tk_12_46 : skd (sTy 12 46) = 2 := by decide +kernel
theorem lf_X12_123 : sFl RX12 123 12 46 127 true := ⟨RX12, TX12, rfl, by decide, by decide, sIn_RX12, tyX12_ok, nmX12, (by decide +kernel), (by decide +kernel), Or.inl (sTm_6 (List.mem_of_getElem? (i := 9) rfl) rfl)⟩
theorem lg_X12_123 : sFf RX12 123 12 46 127 := ⟨TX12, rfl, by decide, by decide, sIn_RX12, tyX12_ok, nmX12, (by decide +kernel), (by decide +kernel), (sTm_6 (List.mem_of_getElem? (i := 9) rfl) rfl)⟩
theorem tk_12_47 : skd (sTy 12 47) = 2 := by decide +kernel
theorem lf_X12_126 : sFl RX12 126 12 47 127 true := ⟨RX12, TX12, rfl, by decide, by decide, sIn_RX12, tyX12_ok, nmX12, (by decide +kernel), (by decide +kernel), Or.inl (sTm_6 (List.mem_of_getElem? (i := 10) rfl) rfl)⟩
theorem lg_X12_126 : sFf RX12 126 12 47 127 := ⟨TX12, rfl, by decide, by decide, sIn_RX12, tyX12_ok, nmX12, (by decide +kernel), (by decide +kernel), (sTm_6 (List.mem_of_getElem? (i := 10) rfl) rfl)⟩
theorem tk_12_48 : skd (sTy 12 48) = 2 := by decide +kernel
theorem lf_X12_130 : sFl RX12 130 12 48 127 true := ⟨RX12, TX12, rfl, by decide, by decide, sIn_RX12, tyX12_ok, nmX12, (by decide +kernel), (by decide +kernel), Or.inl (sTm_6 (List.mem_of_getElem? (i := 11) rfl) rfl)⟩
theorem lg_X12_130 : sFf RX12 130 12 48 127 := ⟨TX12, rfl, by decide, by decide, sIn_RX12, tyX12_ok, nmX12, (by decide +kernel), (by decide +kernel), (sTm_6 (List.mem_of_getElem? (i := 11) rfl) rfl)⟩
theorem tk_12_49 : skd (sTy 12 49) = 2 := by decide +kernel
theorem lf_X12_133 : sFl RX12 133 12 49 127 true := ⟨RX12, TX12, rfl, by decide, by decide, sIn_RX12, tyX12_ok, nmX12, (by decide +kernel), (by decide +kernel), Or.inl (sTm_6 (List.mem_of_getElem? (i := 12) rfl) rfl)⟩
theorem lg_X12_133 : sFf RX12 133 12 49 127 := ⟨TX12, rfl, by decide, by decide, sIn_RX12, tyX12_ok, nmX12, (by decide +kernel), (by decide +kernel), (sTm_6 (List.mem_of_getElem? (i := 12) rfl) rfl)⟩
theorem tk_12_50 : skd (sTy 12 50) = 2 := by decide +kernel
theorem lf_X12_136 : sFl RX12 136 12 50 127 true := ⟨RX12, TX12, rfl, by decide, by decide, sIn_RX12, tyX12_ok, nmX12, (by decide +kernel), (by decide +kernel), Or.inl (sTm_6 (List.mem_of_getElem? (i := 13) rfl) rfl)⟩
theorem lg_X12_136 : sFf RX12 136 12 50 127 := ⟨TX12, rfl, by decide, by decide, sIn_RX12, tyX12_ok, nmX12, (by decide +kernel), (by decide +kernel), (sTm_6 (List.mem_of_getElem? (i := 13) rfl) rfl)⟩
theorem tk_12_51 : skd (sTy 12 51) = 2 := by decide +kernel
theorem lf_X12_139 : sFl RX12 139 12 51 127 true := ⟨RX12, TX12, rfl, by decide, by decide, sIn_RX12, tyX12_ok, nmX12, (by decide +kernel), (by decide +kernel), Or.inl (sTm_6 (List.mem_of_getElem? (i := 14) rfl) rfl)⟩
theorem lg_X12_139 : sFf RX12 139 12 51 127 := ⟨TX12, rfl, by decide, by decide, sIn_RX12, tyX12_ok, nmX12, (by decide +kernel), (by decide +kernel), (sTm_6 (List.mem_of_getElem? (i := 14) rfl) rfl)⟩
theorem tk_12_52 : skd (sTy 12 52) = 2 := by decide +kernel
theorem lf_X12_142 : sFl RX12 142 12 52 127 true := ⟨RX12, TX12, rfl, by decide, by decide, sIn_RX12, tyX12_ok, nmX12, (by decide +kernel), (by decide +kernel), Or.inl (sTm_6 (List.mem_of_getElem? (i := 15) rfl) rfl)⟩
theorem lg_X12_142 : sFf RX12 142 12 52 127 := ⟨TX12, rfl, by decide, by decide, sIn_RX12, tyX12_ok, nmX12, (by decide +kernel), (by decide +kernel), (sTm_6 (List.mem_of_getElem? (i := 15) rfl) rfl)⟩
theorem tk_12_53 : skd (sTy 12 53) = 2 := by decide +kernel
theorem lf_X12_145 : sFl RX12 145 12 53 127 true := ⟨RX12, TX12, rfl, by decide, by decide, sIn_RX12, tyX12_ok, nmX12, (by decide +kernel), (by decide +kernel), Or.inl (sTm_6 (List.mem_of_getElem? (i := 16) rfl) rfl)⟩
theorem lg_X12_145 : sFf RX12 145 12 53 127 := ⟨TX12, rfl, by decide, by decide, sIn_RX12, tyX12_ok, nmX12, (by decide +kernel), (by decide +kernel), (sTm_6 (List.mem_of_getElem? (i := 16) rfl) rfl)⟩
theorem tk_12_54 : skd (sTy 12 54) = 2 := by decide +kernel
theorem lf_X12_148 : sFl RX12 148 12 54 127 true := ⟨RX12, TX12, rfl, by decide, by decide, sIn_RX12, tyX12_ok, nmX12, (by decide +kernel), (by decide +kernel), Or.inl (sTm_6 (List.mem_of_getElem? (i := 17) rfl) rfl)⟩
theorem lg_X12_148 : sFf RX12 148 12 54 127 := ⟨TX12, rfl, by decide, by decide, sIn_RX12, tyX12_ok, nmX12, (by decide +kernel), (by decide +kernel), (sTm_6 (List.mem_of_getElem? (i := 17) rfl) rfl)⟩
theorem tk_12_59 : skd (sTy 12 59) = 2 := by decide +kernel
theorem lf_X12_151 : sFl RX12 151 12 59 127 true := ⟨RX12, TX12, rfl, by decide, by decide, sIn_RX12, tyX12_ok, nmX12, (by decide +kernel), (by decide +kernel), Or.inl (sTm_6 (List.mem_of_getElem? (i := 22) rfl) rfl)⟩
theorem lg_X12_151 : sFf RX12 151 12 59 127 := ⟨TX12, rfl, by decide, by decide, sIn_RX12, tyX12_ok, nmX12, (by decide +kernel), (by decide +kernel), (sTm_6 (List.mem_of_getElem? (i := 22) rfl) rfl)⟩
theorem tk_12_60 : skd (sTy 12 60) = 2 := by decide +kernel
theorem lf_X12_154 : sFl RX12 154 12 60 127 true := ⟨RX12, TX12, rfl, by decide, by decide, sIn_RX12, tyX12_ok, nmX12, (by decide +kernel), (by decide +kernel), Or.inl (sTm_6 (List.mem_of_getElem? (i := 23) rfl) rfl)⟩
theorem lg_X12_154 : sFf RX12 154 12 60 127 := ⟨TX12, rfl, by decide, by decide, sIn_RX12, tyX12_ok, nmX12, (by decide +kernel), (by decide +kernel), (sTm_6 (List.mem_of_getElem? (i := 23) rfl) rfl)⟩
theorem tk_12_66 : skd (sTy 12 66) = 2 := by decide +kernel
theorem lf_X12_157 : sFl RX12 157 12 66 127 true := ⟨RX12, TX12, rfl, by decide, by decide, sIn_RX12, tyX12_ok, nmX12, (by decide +kernel), (by decide +kernel), Or.inl (sTm_6 (List.mem_of_getElem? (i := 29) rfl) rfl)⟩
theorem lg_X12_157 : sFf RX12 157 12 66 127 := ⟨TX12, rfl, by decide, by decide, sIn_RX12, tyX12_ok, nmX12, (by decide +kernel), (by decide +kernel), (sTm_6 (List.mem_of_getElem? (i := 29) rfl) rfl)⟩
theorem tk_12_67 : skd (sTy 12 67) = 2 := by decide +kernel
theorem lf_X12_160 : sFl RX12 160 12 67 127 true := ⟨RX12, TX12, rfl, by decide, by decide, sIn_RX12, tyX12_ok, nmX12, (by decide +kernel), (by decide +kernel), Or.inl (sTm_6 (List.mem_of_getElem? (i := 30) rfl) rfl)⟩
theorem lg_X12_160 : sFf RX12 160 12 67 127 := ⟨TX12, rfl, by decide, by decide, sIn_RX12, tyX12_ok, nmX12, (by decide +kernel), (by decide +kernel), (sTm_6 (List.mem_of_getElem? (i := 30) rfl) rfl)⟩
theorem tk_12_68 : skd (sTy 12 68) = 2 := by decide +kernel
theorem lf_X12_163 : sFl RX12 163 12 68 127 true := ⟨RX12, TX12, rfl, by decide, by decide, sIn_RX12, tyX12_ok, nmX12, (by decide +kernel), (by decide +kernel), Or.inl (sTm_6 (List.mem_of_getElem? (i := 31) rfl) rfl)⟩
theorem lg_X12_163 : sFf RX12 163 12 68 127 := ⟨TX12, rfl, by decide, by decide, sIn_RX12, tyX12_ok, nmX12, (by decide +kernel), (by decide +kernel), (sTm_6 (List.mem_of_getElem? (i := 31) rfl) rfl)⟩
theorem tk_12_69 : skd (sTy 12 69) = 2 := by decide +kernel
theorem lf_X12_167 : sFl RX12 167 12 69 127 true := ⟨RX12, TX12, rfl, by decide, by decide, sIn_RX12, tyX12_ok, nmX12, (by decide +kernel), (by decide +kernel), Or.inl (sTm_6 (List.mem_of_getElem? (i := 32) rfl) rfl)⟩
theorem lg_X12_167 : sFf RX12 167 12 69 127 := ⟨TX12, rfl, by decide, by decide, sIn_RX12, tyX12_ok, nmX12, (by decide +kernel), (by decide +kernel), (sTm_6 (List.mem_of_getElem? (i := 32) rfl) rfl)⟩
theorem tk_12_73 : skd (sTy 12 73) = 2 := by decide +kernel
theorem lf_X12_170 : sFl RX12 170 12 73 127 true := ⟨RX12, TX12, rfl, by decide, by decide, sIn_RX12, tyX12_ok, nmX12, (by decide +kernel), (by decide +kernel), Or.inl (sTm_6 (List.mem_of_getElem? (i := 36) rfl) rfl)⟩
theorem lg_X12_170 : sFf RX12 170 12 73 127 := ⟨TX12, rfl, by decide, by decide, sIn_RX12, tyX12_ok, nmX12, (by decide +kernel), (by decide +kernel), (sTm_6 (List.mem_of_getElem? (i := 36) rfl) rfl)⟩
theorem tk_12_74 : skd (sTy 12 74) = 2 := by decide +kernel
theorem lf_X12_173 : sFl RX12 173 12 74 127 true := ⟨RX12, TX12, rfl, by decide, by decide, sIn_RX12, tyX12_ok, nmX12, (by decide +kernel), (by decide +kernel), Or.inl (sTm_6 (List.mem_of_getElem? (i := 37) rfl) rfl)⟩
theorem lg_X12_173 : sFf RX12 173 12 74 127 := ⟨TX12, rfl, by decide, by decide, sIn_RX12, tyX12_ok, nmX12, (by decide +kernel), (by decide +kernel), (sTm_6 (List.mem_of_getElem? (i := 37) rfl) rfl)⟩
theorem tk_12_75 : skd (sTy 12 75) = 2 := by decide +kernel
theorem lf_X12_176 : sFl RX12 176 12 75 127 true := ⟨RX12, TX12, rfl, by decide, by decide, sIn_RX12, tyX12_ok, nmX12, (by decide +kernel), (by decide +kernel), Or.inl (sTm_6 (List.mem_of_getElem? (i := 38) rfl) rfl)⟩
theorem lg_X12_176 : sFf RX12 176 12 75 127 := ⟨TX12, rfl, by decide, by decide, sIn_RX12, tyX12_ok, nmX12, (by decide +kernel), (by decide +kernel), (sTm_6 (List.mem_of_getElem? (i := 38) rfl) rfl)⟩
theorem tk_12_76 : skd (sTy 12 76) = 2 := by decide +kernel
theorem lf_X12_179 : sFl RX12 179 12 76 127 true := ⟨RX12, TX12, rfl, by decide, by decide, sIn_RX12, tyX12_ok, nmX12, (by decide +kernel), (by decide +kernel), Or.inl (sTm_6 (List.mem_of_getElem? (i := 39) rfl) rfl)⟩
theorem lg_X12_179 : sFf RX12 179 12 76 127 := ⟨TX12, rfl, by decide, by decide, sIn_RX12, tyX12_ok, nmX12, (by decide +kernel), (by decide +kernel), (sTm_6 (List.mem_of_getElem? (i := 39) rfl) rfl)⟩
theorem tk_12_77 : skd (sTy 12 77) = 2 := by decide +kernel
theorem lf_X12_182 : sFl RX12 182 12 77 127 true := ⟨RX12, TX12, rfl, by decide, by decide, sIn_RX12, tyX12_ok, nmX12, (by decide +kernel), (by decide +kernel), Or.inl (sTm_6 (List.mem_of_getElem? (i := 40) rfl) rfl)⟩
theorem lg_X12_182 : sFf RX12 182 12 77 127 := ⟨TX12, rfl, by decide, by decide, sIn_RX12, tyX12_ok, nmX12, (by decide +kernel), (by decide +kernel), (sTm_6 (List.mem_of_getElem? (i := 40) rfl) rfl)⟩
theorem tk_12_78 : skd (sTy 12 78) = 2 := by decide +kernel
theorem lf_X12_185 : sFl RX12 185 12 78 127 true := ⟨RX12, TX12, rfl, by decide, by decide, sIn_RX12, tyX12_ok, nmX12, (by decide +kernel), (by decide +kernel), Or.inl (sTm_6 (List.mem_of_getElem? (i := 41) rfl) rfl)⟩
theorem lg_X12_185 : sFf RX12 185 12 78 127 := ⟨TX12, rfl, by decide, by decide, sIn_RX12, tyX12_ok, nmX12, (by decide +kernel), (by decide +kernel), (sTm_6 (List.mem_of_getElem? (i := 41) rfl) rfl)⟩
theorem tk_12_79 : skd (sTy 12 79) = 2 := by decide +kernel
theorem lf_X12_188 : sFl RX12 188 12 79 127 true := ⟨RX12, TX12, rfl, by decide, by decide, sIn_RX12, tyX12_ok, nmX12, (by decide +kernel), (by decide +kernel), Or.inl (sTm_6 (List.mem_of_getElem? (i := 42) rfl) rfl)⟩
theorem lg_X12_188 : sFf RX12 188 12 79 127 := ⟨TX12, rfl, by decide, by decide, sIn_RX12, tyX12_ok, nmX12, (by decide +kernel), (by decide +kernel), (sTm_6 (List.mem_of_getElem? (i := 42) rfl) rfl)⟩
theorem tk_12_81 : skd (sTy 12 81) = 2 := by decide +kernel
theorem lf_X12_191 : sFl RX12 191 12 81 127 true := ⟨RX12, TX12, rfl, by decide, by decide, sIn_RX12, tyX12_ok, nmX12, (by decide +kernel), (by decide +kernel), Or.inl (sTm_6 (List.mem_of_getElem? (i := 44) rfl) rfl)⟩
theorem lg_X12_191 : sFf RX12 191 12 81 127 := ⟨TX12, rfl, by decide, by decide, sIn_RX12, tyX12_ok, nmX12, (by decide +kernel), (by decide +kernel), (sTm_6 (List.mem_of_getElem? (i := 44) rfl) rfl)⟩
theorem tk_12_82 : skd (sTy 12 82) = 2 := by decide +kernel
theorem lf_X12_194 : sFl RX12 194 12 82 127 true := ⟨RX12, TX12, rfl, by decide, by decide, sIn_RX12, tyX12_ok, nmX12, (by decide +kernel), (by decide +kernel), Or.inl (sTm_6 (List.mem_of_getElem? (i := 45) rfl) rfl)⟩
theorem lg_X12_194 : sFf RX12 194 12 82 127 := ⟨TX12, rfl, by decide, by decide, sIn_RX12, tyX12_ok, nmX12, (by decide +kernel), (by decide +kernel), (sTm_6 (List.mem_of_getElem? (i := 45) rfl) rfl)⟩
theorem tk_12_84 : skd (sTy 12 84) = 2 := by decide +kernel
theorem lf_X12_197 : sFl RX12 197 12 84 127 true := ⟨RX12, TX12, rfl, by decide, by decide, sIn_RX12, tyX12_ok, nmX12, (by decide +kernel), (by decide +kernel), Or.inl (sTm_6 (List.mem_of_getElem? (i := 47) rfl) rfl)⟩
theorem lg_X12_197 : sFf RX12 197 12 84 127 := ⟨TX12, rfl, by decide, by decide, sIn_RX12, tyX12_ok, nmX12, (by decide +kernel), (by decide +kernel), (sTm_6 (List.mem_of_getElem? (i := 47) rfl) rfl)⟩
theorem tk_12_87 : skd (sTy 12 87) = 1 := by decide +kernel
theorem lf_X12_200 : sFl RX12 200 12 87 127 false := ⟨RX12, TX12, rfl, by decide, by decide, sIn_RX12, tyX12_ok, nmX12, (by decide +kernel), (by decide +kernel), Or.inl (sTm_6 (List.mem_of_getElem? (i := 50) rfl) rfl)⟩
theorem tp_12_87 : sTy 12 87 = .long := by decide +kernel
theorem tk_12_88 : skd (sTy 12 88) = 2 := by decide +kernel
theorem lf_X12_204 : sFl RX12 204 12 88 127 true := ⟨RX12, TX12, rfl, by decide, by decide, sIn_RX12, tyX12_ok, nmX12, (by decide +kernel), (by decide +kernel), Or.inl (sTm_6 (List.mem_of_getElem? (i := 51) rfl) rfl)⟩
theorem lg_X12_204 : sFf RX12 204 12 88 127 := ⟨TX12, rfl, by decide, by decide, sIn_RX12, tyX12_ok, nmX12, (by decide +kernel), (by decide +kernel), (sTm_6 (List.mem_of_getElem? (i := 51) rfl) rfl)⟩
theorem tk_12_89 : skd (sTy 12 89) = 2 := by decide +kernel
theorem lf_X12_207 : sFl RX12 207 12 89 127 true := ⟨RX12, TX12, rfl, by decide, by decide, sIn_RX12, tyX12_ok, nmX12, (by decide +kernel), (by decide +kernel), Or.inl (sTm_6 (List.mem_of_getElem? (i := 52) rfl) rfl)⟩
theorem lg_X12_207 : sFf RX12 207 12 89 127 := ⟨TX12, rfl, by decide, by decide, sIn_RX12, tyX12_ok, nmX12, (by decide +kernel), (by decide +kernel), (sTm_6 (List.mem_of_getElem? (i := 52) rfl) rfl)⟩
theorem tk_12_90 : skd (sTy 12 90) = 2 := by decide +kernel
theorem lf_X12_210 : sFl RX12 210 12 90 127 true := ⟨RX12, TX12, rfl, by decide, by decide, sIn_RX12, tyX12_ok, nmX12, (by decide +kernel), (by decide +kernel), Or.inl (sTm_6 (List.mem_of_getElem? (i := 53) rfl) rfl)⟩
theorem lg_X12_210 : sFf RX12 210 12 90 127 := ⟨TX12, rfl, by decide, by decide, sIn_RX12, tyX12_ok, nmX12, (by decide +kernel), (by decide +kernel), (sTm_6 (List.mem_of_getElem? (i := 53) rfl) rfl)⟩
theorem tk_12_91 : skd (sTy 12 91) = 2 := by decide +kernel
theorem lf_X12_213 : sFl RX12 213 12 91 127 true := ⟨RX12, TX12, rfl, by decide, by decide, sIn_RX12, tyX12_ok, nmX12, (by decide +kernel), (by decide +kernel), Or.inl (sTm_6 (List.mem_of_getElem? (i := 54) rfl) rfl)⟩
theorem lg_X12_213 : sFf RX12 213 12 91 127 := ⟨TX12, rfl, by decide, by decide, sIn_RX12, tyX12_ok, nmX12, (by decide +kernel), (by decide +kernel), (sTm_6 (List.mem_of_getElem? (i := 54) rfl) rfl)⟩
theorem tk_12_92 : skd (sTy 12 92) = 2 := by decide +kernel
theorem lf_X12_216 : sFl RX12 216 12 92 127 true := ⟨RX12, TX12, rfl, by decide, by decide, sIn_RX12, tyX12_ok, nmX12, (by decide +kernel), (by decide +kernel), Or.inl (sTm_6 (List.mem_of_getElem? (i := 55) rfl) rfl)⟩
theorem lg_X12_216 : sFf RX12 216 12 92 127 := ⟨TX12, rfl, by decide, by decide, sIn_RX12, tyX12_ok, nmX12, (by decide +kernel), (by decide +kernel), (sTm_6 (List.mem_of_getElem? (i := 55) rfl) rfl)⟩
theorem tk_12_93 : skd (sTy 12 93) = 2 := by decide +kernel
theorem lf_X12_219 : sFl RX12 219 12 93 127 true := ⟨RX12, TX12, rfl, by decide, by decide, sIn_RX12, tyX12_ok, nmX12, (by decide +kernel), (by decide +kernel), Or.inl (sTm_6 (List.mem_of_getElem? (i := 56) rfl) rfl)⟩
theorem lg_X12_219 : sFf RX12 219 12 93 127 := ⟨TX12, rfl, by decide, by decide, sIn_RX12, tyX12_ok, nmX12, (by decide +kernel), (by decide +kernel), (sTm_6 (List.mem_of_getElem? (i := 56) rfl) rfl)⟩
theorem tk_12_94 : skd (sTy 12 94) = 2 := by decide +kernel
theorem lf_X12_222 : sFl RX12 222 12 94 127 true := ⟨RX12, TX12, rfl, by decide, by decide, sIn_RX12, tyX12_ok, nmX12, (by decide +kernel), (by decide +kernel), Or.inl (sTm_6 (List.mem_of_getElem? (i := 57) rfl) rfl)⟩
theorem lg_X12_222 : sFf RX12 222 12 94 127 := ⟨TX12, rfl, by decide, by decide, sIn_RX12, tyX12_ok, nmX12, (by decide +kernel), (by decide +kernel), (sTm_6 (List.mem_of_getElem? (i := 57) rfl) rfl)⟩
theorem tk_12_95 : skd (sTy 12 95) = 2 := by decide +kernel
theorem lf_X12_225 : sFl RX12 225 12 95 127 true := ⟨RX12, TX12, rfl, by decide, by decide, sIn_RX12, tyX12_ok, nmX12, (by decide +kernel), (by decide +kernel), Or.inl (sTm_6 (List.mem_of_getElem? (i := 58) rfl) rfl)⟩
theorem lg_X12_225 : sFf RX12 225 12 95 127 := ⟨TX12, rfl, by decide, by decide, sIn_RX12, tyX12_ok, nmX12, (by decide +kernel), (by decide +kernel), (sTm_6 (List.mem_of_getElem? (i := 58) rfl) rfl)⟩
theorem tk_12_96 : skd (sTy 12 96) = 2 := by decide +kernel
theorem lf_X12_228 : sFl RX12 228 12 96 127 true := ⟨RX12, TX12, rfl, by decide, by decide, sIn_RX12, tyX12_ok, nmX12, (by decide +kernel), (by decide +kernel), Or.inl (sTm_6 (List.mem_of_getElem? (i := 59) rfl) rfl)⟩
theorem lg_X12_228 : sFf RX12 228 12 96 127 := ⟨TX12, rfl, by decide, by decide, sIn_RX12, tyX12_ok, nmX12, (by decide +kernel), (by decide +kernel), (sTm_6 (List.mem_of_getElem? (i := 59) rfl) rfl)⟩
theorem tk_12_97 : skd (sTy 12 97) = 2 := by decide +kernel
theorem lf_X12_231 : sFl RX12 231 12 97 127 true := ⟨RX12, TX12, rfl, by decide, by decide, sIn_RX12, tyX12_ok, nmX12, (by decide +kernel), (by decide +kernel), Or.inl (sTm_6 (List.mem_of_getElem? (i := 60) rfl) rfl)⟩
theorem lg_X12_231 : sFf RX12 231 12 97 127 := ⟨TX12, rfl, by decide, by decide, sIn_RX12, tyX12_ok, nmX12, (by decide +kernel), (by decide +kernel), (sTm_6 (List.mem_of_getElem? (i := 60) rfl) rfl)⟩
theorem tk_12_98 : skd (sTy 12 98) = 2 := by decide +kernel
theorem lf_X12_234 : sFl RX12 234 12 98 127 true := ⟨RX12, TX12, rfl, by decide, by decide, sIn_RX12, tyX12_ok, nmX12, (by decide +kernel), (by decide +kernel), Or.inl (sTm_6 (List.mem_of_getElem? (i := 61) rfl) rfl)⟩
theorem lg_X12_234 : sFf RX12 234 12 98 127 := ⟨TX12, rfl, by decide, by decide, sIn_RX12, tyX12_ok, nmX12, (by decide +kernel), (by decide +kernel), (sTm_6 (List.mem_of_getElem? (i := 61) rfl) rfl)⟩
theorem tk_12_99 : skd (sTy 12 99) = 2 := by decide +kernel
theorem lf_X12_237 : sFl RX12 237 12 99 127 true := ⟨RX12, TX12, rfl, by decide, by decide, sIn_RX12, tyX12_ok, nmX12, (by decide +kernel), (by decide +kernel), Or.inl (sTm_6 (List.mem_of_getElem? (i := 62) rfl) rfl)⟩
theorem lg_X12_237 : sFf RX12 237 12 99 127 := ⟨TX12, rfl, by decide, by decide, sIn_RX12, tyX12_ok, nmX12, (by decide +kernel), (by decide +kernel), (sTm_6 (List.mem_of_getElem? (i := 62) rfl) rfl)⟩
theorem tk_12_100 : skd (sTy 12 100) = 2 := by decide +kernel
theorem lf_X12_240 : sFl RX12 240 12 100 127 true := ⟨RX12, TX12, rfl, by decide, by decide, sIn_RX12, tyX12_ok, nmX12, (by decide +kernel), (by decide +kernel), Or.inl (sTm_6 (List.mem_of_getElem? (i := 63) rfl) rfl)⟩
theorem lg_X12_240 : sFf RX12 240 12 100 127 := ⟨TX12, rfl, by decide, by decide, sIn_RX12, tyX12_ok, nmX12, (by decide +kernel), (by decide +kernel), (sTm_6 (List.mem_of_getElem? (i := 63) rfl) rfl)⟩
theorem tk_12_101 : skd (sTy 12 101) = 2 := by decide +kernel
theorem lf_X12_243 : sFl RX12 243 12 101 127 true := ⟨RX12, TX12, rfl, by decide, by decide, sIn_RX12, tyX12_ok, nmX12, (by decide +kernel), (by decide +kernel), Or.inl (sTm_6 (List.mem_of_getElem? (i := 64) rfl) rfl)⟩
theorem lg_X12_243 : sFf RX12 243 12 101 127 := ⟨TX12, rfl, by decide, by decide, sIn_RX12, tyX12_ok, nmX12, (by decide +kernel), (by decide +kernel), (sTm_6 (List.mem_of_getElem? (i := 64) rfl) rfl)⟩
theorem tk_12_102 : skd (sTy 12 102) = 2 := by decide +kernel
theorem lf_X12_246 : sFl RX12 246 12 102 127 true := ⟨RX12, TX12, rfl, by decide, by decide, sIn_RX12, tyX12_ok, nmX12, (by decide +kernel), (by decide +kernel), Or.inl (sTm_6 (List.mem_of_getElem? (i := 65) rfl) rfl)⟩
theorem lg_X12_246 : sFf RX12 246 12 102 127 := ⟨TX12, rfl, by decide, by decide, sIn_RX12, tyX12_ok, nmX12, (by decide +kernel), (by decide +kernel), (sTm_6 (List.mem_of_getElem? (i := 65) rfl) rfl)⟩
theorem tk_12_103 : skd (sTy 12 103) = 2 := by decide +kernel
theorem lf_X12_249 : sFl RX12 249 12 103 127 true := ⟨RX12, TX12, rfl, by decide, by decide, sIn_RX12, tyX12_ok, nmX12, (by decide +kernel), (by decide +kernel), Or.inl (sTm_6 (List.mem_of_getElem? (i := 66) rfl) rfl)⟩
theorem lg_X12_249 : sFf RX12 249 12 103 127 := ⟨TX12, rfl, by decide, by decide, sIn_RX12, tyX12_ok, nmX12, (by decide +kernel), (by decide +kernel), (sTm_6 (List.mem_of_getElem? (i := 66) rfl) rfl)⟩
theorem tk_12_104 : skd (sTy 12 104) = 2 := by decide +kernel
theorem lf_X12_252 : sFl RX12 252 12 104 127 true := ⟨RX12, TX12, rfl, by decide, by decide, sIn_RX12, tyX12_ok, nmX12, (by decide +kernel), (by decide +kernel), Or.inl (sTm_6 (List.mem_of_getElem? (i := 67) rfl) rfl)⟩
theorem lg_X12_252 : sFf RX12 252 12 104 127 := ⟨TX12, rfl, by decide, by decide, sIn_RX12, tyX12_ok, nmX12, (by decide +kernel), (by decide +kernel), (sTm_6 (List.mem_of_getElem? (i := 67) rfl) rfl)⟩
theorem tk_12_105 : skd (sTy 12 105) = 2 := by decide +kernel
theorem lf_X12_255 : sFl RX12 255 12 105 127 true := ⟨RX12, TX12, rfl, by decide, by decide, sIn_RX12, tyX12_ok, nmX12, (by decide +kernel), (by decide +kernel), Or.inl (sTm_6 (List.mem_of_getElem? (i := 68) rfl) rfl)⟩
theorem lg_X12_255 : sFf RX12 255 12 105 127 := ⟨TX12, rfl, by decide, by decide, sIn_RX12, tyX12_ok, nmX12, (by decide +kernel), (by decide +kernel), (sTm_6 (List.mem_of_getElem? (i := 68) rfl) rfl)⟩
theorem tk_12_106 : skd (sTy 12 106) = 2 := by decide +kernel
theorem lf_X12_258 : sFl RX12 258 12 106 127 true := ⟨RX12, TX12, rfl, by decide, by decide, sIn_RX12, tyX12_ok, nmX12, (by decide +kernel), (by decide +kernel), Or.inl (sTm_6 (List.mem_of_getElem? (i := 69) rfl) rfl)⟩
theorem lg_X12_258 : sFf RX12 258 12 106 127 := ⟨TX12, rfl, by decide, by decide, sIn_RX12, tyX12_ok, nmX12, (by decide +kernel), (by decide +kernel), (sTm_6 (List.mem_of_getElem? (i := 69) rfl) rfl)⟩
theorem tk_12_107 : skd (sTy 12 107) = 2 := by decide +kernel
theorem lf_X12_261 : sFl RX12 261 12 107 127 true := ⟨RX12, TX12, rfl, by decide, by decide, sIn_RX12, tyX12_ok, nmX12, (by decide +kernel), (by decide +kernel), Or.inl (sTm_6 (List.mem_of_getElem? (i := 70) rfl) rfl)⟩
theorem lg_X12_261 : sFf RX12 261 12 107 127 := ⟨TX12, rfl, by decide, by decide, sIn_RX12, tyX12_ok, nmX12, (by decide +kernel), (by decide +kernel), (sTm_6 (List.mem_of_getElem? (i := 70) rfl) rfl)⟩
theorem tk_12_108 : skd (sTy 12 108) = 2 := by decide +kernel
theorem lf_X12_264 : sFl RX12 264 12 108 127 true := ⟨RX12, TX12, rfl, by decide, by decide, sIn_RX12, tyX12_ok, nmX12, (by decide +kernel), (by decide +kernel), Or.inl (sTm_6 (List.mem_of_getElem? (i := 71) rfl) rfl)⟩
theorem lg_X12_264 : sFf RX12 264 12 108 127 := ⟨TX12, rfl, by decide, by decide, sIn_RX12, tyX12_ok, nmX12, (by decide +kernel), (by decide +kernel), (sTm_6 (List.mem_of_getElem? (i := 71) rfl) rfl)⟩
theorem tk_12_109 : skd (sTy 12 109) = 2 := by decide +kernel
theorem lf_X12_267 : sFl RX12 267 12 109 127 true := ⟨RX12, TX12, rfl, by decide, by decide, sIn_RX12, tyX12_ok, nmX12, (by decide +kernel), (by decide +kernel), Or.inl (sTm_6 (List.mem_of_getElem? (i := 72) rfl) rfl)⟩
theorem lg_X12_267 : sFf RX12 267 12 109 127 := ⟨TX12, rfl, by decide, by decide, sIn_RX12, tyX12_ok, nmX12, (by decide +kernel), (by decide +kernel), (sTm_6 (List.mem_of_getElem? (i := 72) rfl) rfl)⟩
theorem tk_12_110 : skd (sTy 12 110) = 2 := by decide +kernel
theorem lf_X12_270 : sFl RX12 270 12 110 127 true := ⟨RX12, TX12, rfl, by decide, by decide, sIn_RX12, tyX12_ok, nmX12, (by decide +kernel), (by decide +kernel), Or.inl (sTm_6 (List.mem_of_getElem? (i := 73) rfl) rfl)⟩
theorem lg_X12_270 : sFf RX12 270 12 110 127 := ⟨TX12, rfl, by decide, by decide, sIn_RX12, tyX12_ok, nmX12, (by decide +kernel), (by decide +kernel), (sTm_6 (List.mem_of_getElem? (i := 73) rfl) rfl)⟩
theorem tk_12_111 : skd (sTy 12 111) = 2 := by decide +kernel
theorem lf_X12_273 : sFl RX12 273 12 111 127 true := ⟨RX12, TX12, rfl, by decide, by decide, sIn_RX12, tyX12_ok, nmX12, (by decide +kernel), (by decide +kernel), Or.inl (sTm_6 (List.mem_of_getElem? (i := 74) rfl) rfl)⟩
theorem lg_X12_273 : sFf RX12 273 12 111 127 := ⟨TX12, rfl, by decide, by decide, sIn_RX12, tyX12_ok, nmX12, (by decide +kernel), (by decide +kernel), (sTm_6 (List.mem_of_getElem? (i := 74) rfl) rfl)⟩
theorem tk_12_112 : skd (sTy 12 112) = 2 := by decide +kernel
theorem lf_X12_276 : sFl RX12 276 12 112 127 true := ⟨RX12, TX12, rfl, by decide, by decide, sIn_RX12, tyX12_ok, nmX12, (by decide +kernel), (by decide +kernel), Or.inl (sTm_6 (List.mem_of_getElem? (i := 75) rfl) rfl)⟩
theorem lg_X12_276 : sFf RX12 276 12 112 127 := ⟨TX12, rfl, by decide, by decide, sIn_RX12, tyX12_ok, nmX12, (by decide +kernel), (by decide +kernel), (sTm_6 (List.mem_of_getElem? (i := 75) rfl) rfl)⟩
theorem tk_12_113 : skd (sTy 12 113) = 2 := by decide +kernel
theorem lf_X12_279 : sFl RX12 279 12 113 127 true := ⟨RX12, TX12, rfl, by decide, by decide, sIn_RX12, tyX12_ok, nmX12, (by decide +kernel), (by decide +kernel), Or.inl (sTm_6 (List.mem_of_getElem? (i := 76) rfl) rfl)⟩
theorem lg_X12_279 : sFf RX12 279 12 113 127 := ⟨TX12, rfl, by decide, by decide, sIn_RX12, tyX12_ok, nmX12, (by decide +kernel), (by decide +kernel), (sTm_6 (List.mem_of_getElem? (i := 76) rfl) rfl)⟩
theorem tk_12_114 : skd (sTy 12 114) = 2 := by decide +kernel
theorem lf_X12_282 : sFl RX12 282 12 114 127 true := ⟨RX12, TX12, rfl, by decide, by decide, sIn_RX12, tyX12_ok, nmX12, (by decide +kernel), (by decide +kernel), Or.inl (sTm_6 (List.mem_of_getElem? (i := 77) rfl) rfl)⟩
theorem lg_X12_282 : sFf RX12 282 12 114 127 := ⟨TX12, rfl, by decide, by decide, sIn_RX12, tyX12_ok, nmX12, (by decide +kernel), (by decide +kernel), (sTm_6 (List.mem_of_getElem? (i := 77) rfl) rfl)⟩
theorem tk_12_115 : skd (sTy 12 115) = 2 := by decide +kernel
theorem lf_X12_285 : sFl RX12 285 12 115 127 true := ⟨RX12, TX12, rfl, by decide, by decide, sIn_RX12, tyX12_ok, nmX12, (by decide +kernel), (by decide +kernel), Or.inl (sTm_6 (List.mem_of_getElem? (i := 78) rfl) rfl)⟩
theorem lg_X12_285 : sFf RX12 285 12 115 127 := ⟨TX12, rfl, by decide, by decide, sIn_RX12, tyX12_ok, nmX12, (by decide +kernel), (by decide +kernel), (sTm_6 (List.mem_of_getElem? (i := 78) rfl) rfl)⟩
theorem tk_12_117 : skd (sTy 12 117) = 2 := by decide +kernel
theorem lf_X12_288 : sFl RX12 288 12 117 127 true := ⟨RX12, TX12, rfl, by decide, by decide, sIn_RX12, tyX12_ok, nmX12, (by decide +kernel), (by decide +kernel), Or.inl (sTm_6 (List.mem_of_getElem? (i := 80) rfl) rfl)⟩
theorem lg_X12_288 : sFf RX12 288 12 117 127 := ⟨TX12, rfl, by decide, by decide, sIn_RX12, tyX12_ok, nmX12, (by decide +kernel), (by decide +kernel), (sTm_6 (List.mem_of_getElem? (i := 80) rfl) rfl)⟩
theorem tk_12_121 : skd (sTy 12 121) = 2 := by decide +kernel
theorem lf_X12_291 : sFl RX12 291 12 121 127 true := ⟨RX12, TX12, rfl, by decide, by decide, sIn_RX12, tyX12_ok, nmX12, (by decide +kernel), (by decide +kernel), Or.inl (sTm_6 (List.mem_of_getElem? (i := 84) rfl) rfl)⟩
theorem lg_X12_291 : sFf RX12 291 12 121 127 := ⟨TX12, rfl, by decide, by decide, sIn_RX12, tyX12_ok, nmX12, (by decide +kernel), (by decide +kernel), (sTm_6 (List.mem_of_getElem? (i := 84) rfl) rfl)⟩
theorem tk_12_125 : skd (sTy 12 125) = 2 := by decide +kernel
theorem lf_X12_294 : sFl RX12 294 12 125 127 true := ⟨RX12, TX12, rfl, by decide, by decide, sIn_RX12, tyX12_ok, nmX12, (by decide +kernel), (by decide +kernel), Or.inl (sTm_6 (List.mem_of_getElem? (i := 88) rfl) rfl)⟩
theorem lg_X12_294 : sFf RX12 294 12 125 127 := ⟨TX12, rfl, by decide, by decide, sIn_RX12, tyX12_ok, nmX12, (by decide +kernel), (by decide +kernel), (sTm_6 (List.mem_of_getElem? (i := 88) rfl) rfl)⟩
theorem tk_12_1 : skd (sTy 12 1) = 0 := by decide +kernel
theorem lf_X12_297 : sFl RX12 297 12 1 127 false := ⟨RX12, TX12, rfl, by decide, by decide, sIn_RX12, tyX12_ok, nmX12, (by decide +kernel), (by decide +kernel), Or.inl (sTm_5 (List.mem_of_getElem? (i := 204) rfl) rfl)⟩
theorem tp_12_1 : sTy 12 1 = .int := by decide +kernel
theorem tk_12_5 : skd (sTy 12 5) = 0 := by decide +kernel
theorem lf_X12_300 : sFl RX12 300 12 5 127 false := ⟨RX12, TX12, rfl, by decide, by decide, sIn_RX12, tyX12_ok, nmX12, (by decide +kernel), (by decide +kernel), Or.inl (sTm_5 (List.mem_of_getElem? (i := 208) rfl) rfl)⟩
theorem tp_12_5 : sTy 12 5 = .int := by decide +kernel
theorem tk_12_6 : skd (sTy 12 6) = 0 := by decide +kernel
theorem lf_X12_303 : sFl RX12 303 12 6 127 false := ⟨RX12, TX12, rfl, by decide, by decide, sIn_RX12, tyX12_ok, nmX12, (by decide +kernel), (by decide +kernel), Or.inl (sTm_5 (List.mem_of_getElem? (i := 209) rfl) rfl)⟩
theorem tp_12_6 : sTy 12 6 = .int := by decide +kernel
theorem tk_12_2 : skd (sTy 12 2) = 0 := by decide +kernel
theorem lf_X12_306 : sFl RX12 306 12 2 127 false := ⟨RX12, TX12, rfl, by decide, by decide, sIn_RX12, tyX12_ok, nmX12, (by decide +kernel), (by decide +kernel), Or.inl (sTm_5 (List.mem_of_getElem? (i := 205) rfl) rfl)⟩
theorem tk_12_3 : skd (sTy 12 3) = 0 := by decide +kernel
theorem lf_X12_309 : sFl RX12 309 12 3 127 false := ⟨RX12, TX12, rfl, by decide, by decide, sIn_RX12, tyX12_ok, nmX12, (by decide +kernel), (by decide +kernel), Or.inl (sTm_5 (List.mem_of_getElem? (i := 206) rfl) rfl)⟩
theorem tp_12_2 : sTy 12 2 = .int := by decide +kernel
theorem lm_X12_312 : sMl RX12 312 yX12_look := Or.inl (sTm_7 (List.mem_of_getElem? (i := 135) rfl) rfl)
theorem mf_X12_look : sMf yX12_look cX12_look 1 (some .int) 0 := ⟨(sTm_7 (List.mem_of_getElem? (i := 138) rfl) rfl), (sTm_1 (List.mem_of_getElem? (i := 13) rfl) rfl), ⟨by decide +kernel, by decide +kernel⟩, by decide +kernel, by decide⟩
theorem mi_X12_look : Cond.instanceMethod yX12_look ∈ sTb ∧ Cond.selects yX12_look.cls yX12_look yX12_look ∈ sTb := ⟨(sTm_7 (List.mem_of_getElem? (i := 137) rfl) rfl), (sTs_5 (i := 0) rfl rfl)⟩
theorem mc_12 : ∃ T : u_T, 12 < 13 ∧ vwCl[12]? = some (RX12, T, 127) := ⟨TX12, by decide, rfl⟩
theorem lm_X12_316 : sMl RX12 316 yX12_isLetter := Or.inl (sTm_7 (List.mem_of_getElem? (i := 139) rfl) rfl)
theorem mf_X12_isLetter : sMf yX12_isLetter cX12_isLetter 1 (some .boolean) 1 := ⟨(sTm_7 (List.mem_of_getElem? (i := 141) rfl) rfl), (sTm_1 (List.mem_of_getElem? (i := 13) rfl) rfl), ⟨by decide +kernel, by decide +kernel⟩, by decide +kernel, by decide⟩
theorem ms_X12_isLetter : Cond.static yX12_isLetter ∈ sTb := (sTm_7 (List.mem_of_getElem? (i := 140) rfl) rfl)
theorem tk_12_4 : skd (sTy 12 4) = 0 := by decide +kernel
theorem lf_X12_320 : sFl RX12 320 12 4 127 false := ⟨RX12, TX12, rfl, by decide, by decide, sIn_RX12, tyX12_ok, nmX12, (by decide +kernel), (by decide +kernel), Or.inl (sTm_5 (List.mem_of_getElem? (i := 207) rfl) rfl)⟩
theorem lm_X12_323 : sMl RX12 323 yX12_isHere := Or.inl (sTm_7 (List.mem_of_getElem? (i := 131) rfl) rfl)
theorem mf_X12_isHere : sMf yX12_isHere cX12_isHere 4 (some .boolean) 1 := ⟨(sTm_7 (List.mem_of_getElem? (i := 134) rfl) rfl), (sTm_1 (List.mem_of_getElem? (i := 13) rfl) rfl), ⟨by decide +kernel, by decide +kernel⟩, by decide +kernel, by decide⟩
theorem mi_X12_isHere : Cond.instanceMethod yX12_isHere ∈ sTb ∧ Cond.selects yX12_isHere.cls yX12_isHere yX12_isHere ∈ sTb := ⟨(sTm_7 (List.mem_of_getElem? (i := 133) rfl) rfl), (sTs_4 (i := 15) rfl rfl)⟩
theorem tp_12_4 : sTy 12 4 = .int := by decide +kernel
theorem lm_X12_327 : sMl RX12 327 yX12_takes := Or.inl (sTm_7 (List.mem_of_getElem? (i := 127) rfl) rfl)
theorem mf_X12_takes : sMf yX12_takes cX12_takes 2 (some .boolean) 1 := ⟨(sTm_7 (List.mem_of_getElem? (i := 130) rfl) rfl), (sTm_1 (List.mem_of_getElem? (i := 13) rfl) rfl), ⟨by decide +kernel, by decide +kernel⟩, by decide +kernel, by decide⟩
theorem mi_X12_takes : Cond.instanceMethod yX12_takes ∈ sTb ∧ Cond.selects yX12_takes.cls yX12_takes yX12_takes ∈ sTb := ⟨(sTm_7 (List.mem_of_getElem? (i := 129) rfl) rfl), (sTs_4 (i := 14) rfl rfl)⟩
theorem lm_X12_330 : sMl RX12 330 yX12_fail := Or.inl (sTm_7 (List.mem_of_getElem? (i := 142) rfl) rfl)
theorem mf_X12_fail : sMf yX12_fail cX12_fail 3 none 2 := ⟨(sTm_7 (List.mem_of_getElem? (i := 145) rfl) rfl), (sTm_1 (List.mem_of_getElem? (i := 13) rfl) rfl), ⟨by decide +kernel, by decide +kernel⟩, by decide +kernel, by decide⟩
theorem mi_X12_fail : Cond.instanceMethod yX12_fail ∈ sTb ∧ Cond.selects yX12_fail.cls yX12_fail yX12_fail ∈ sTb := ⟨(sTm_7 (List.mem_of_getElem? (i := 144) rfl) rfl), (sTs_5 (i := 1) rfl rfl)⟩
theorem lm_X12_334 : sMl RX12 334 yX12_takesSign := Or.inl (sTm_7 (List.mem_of_getElem? (i := 160) rfl) rfl)
theorem mf_X12_takesSign : sMf yX12_takesSign cX12_takesSign 2 (some .boolean) 1 := ⟨(sTm_7 (List.mem_of_getElem? (i := 163) rfl) rfl), (sTm_1 (List.mem_of_getElem? (i := 13) rfl) rfl), ⟨by decide +kernel, by decide +kernel⟩, by decide +kernel, by decide⟩
theorem mi_X12_takesSign : Cond.instanceMethod yX12_takesSign ∈ sTb ∧ Cond.selects yX12_takesSign.cls yX12_takesSign yX12_takesSign ∈ sTb := ⟨(sTm_7 (List.mem_of_getElem? (i := 162) rfl) rfl), (sTs_5 (i := 4) rfl rfl)⟩
theorem lm_X12_337 : sMl RX12 337 yX12_isDigit := Or.inl (sTm_7 (List.mem_of_getElem? (i := 150) rfl) rfl)
theorem mf_X12_isDigit : sMf yX12_isDigit cX12_isDigit 1 (some .boolean) 1 := ⟨(sTm_7 (List.mem_of_getElem? (i := 152) rfl) rfl), (sTm_1 (List.mem_of_getElem? (i := 13) rfl) rfl), ⟨by decide +kernel, by decide +kernel⟩, by decide +kernel, by decide⟩
theorem ms_X12_isDigit : Cond.static yX12_isDigit ∈ sTb := (sTm_7 (List.mem_of_getElem? (i := 151) rfl) rfl)
theorem tk_12_10 : skd (sTy 12 10) = 0 := by decide +kernel
theorem lf_X12_340 : sFl RX12 340 12 10 127 false := ⟨RX12, TX12, rfl, by decide, by decide, sIn_RX12, tyX12_ok, nmX12, (by decide +kernel), (by decide +kernel), Or.inl (sTm_5 (List.mem_of_getElem? (i := 213) rfl) rfl)⟩
theorem tp_12_10 : sTy 12 10 = .int := by decide +kernel
theorem lm_X12_343 : sMl RX12 343 yX12_isIn := Or.inl (sTm_7 (List.mem_of_getElem? (i := 153) rfl) rfl)
theorem mf_X12_isIn : sMf yX12_isIn cX12_isIn 6 (some .boolean) 3 := ⟨(sTm_7 (List.mem_of_getElem? (i := 155) rfl) rfl), (sTm_1 (List.mem_of_getElem? (i := 13) rfl) rfl), ⟨by decide +kernel, by decide +kernel⟩, by decide +kernel, by decide⟩
theorem ms_X12_isIn : Cond.static yX12_isIn ∈ sTb := (sTm_7 (List.mem_of_getElem? (i := 154) rfl) rfl)
theorem lm_X12_347 : sMl RX12 347 yX12_isOwnHere := Or.inl (sTm_7 (List.mem_of_getElem? (i := 184) rfl) rfl)
theorem mf_X12_isOwnHere : sMf yX12_isOwnHere cX12_isOwnHere 2 (some .boolean) 0 := ⟨(sTm_7 (List.mem_of_getElem? (i := 187) rfl) rfl), (sTm_1 (List.mem_of_getElem? (i := 13) rfl) rfl), ⟨by decide +kernel, by decide +kernel⟩, by decide +kernel, by decide⟩
theorem mi_X12_isOwnHere : Cond.instanceMethod yX12_isOwnHere ∈ sTb ∧ Cond.selects yX12_isOwnHere.cls yX12_isOwnHere yX12_isOwnHere ∈ sTb := ⟨(sTm_7 (List.mem_of_getElem? (i := 186) rfl) rfl), (sTs_5 (i := 10) rfl rfl)⟩
theorem tk_12_44 : skd (sTy 12 44) = 0 := by decide +kernel
theorem lf_X12_351 : sFl RX12 351 12 44 127 false := ⟨RX12, TX12, rfl, by decide, by decide, sIn_RX12, tyX12_ok, nmX12, (by decide +kernel), (by decide +kernel), Or.inl (sTm_6 (List.mem_of_getElem? (i := 7) rfl) rfl)⟩
theorem tp_12_44 : sTy 12 44 = .int := by decide +kernel
theorem kl_X12_354 : Cond.constantLong RX12 354 (27) ∈ sTb := (sTm_7 (List.mem_of_getElem? (i := 188) rfl) rfl)
theorem kl_X12_356 : Cond.constantLong RX12 356 (97) ∈ sTb := (sTm_7 (List.mem_of_getElem? (i := 189) rfl) rfl)
theorem tk_12_58 : skd (sTy 12 58) = 0 := by decide +kernel
theorem lf_X12_358 : sFl RX12 358 12 58 127 false := ⟨RX12, TX12, rfl, by decide, by decide, sIn_RX12, tyX12_ok, nmX12, (by decide +kernel), (by decide +kernel), Or.inl (sTm_6 (List.mem_of_getElem? (i := 21) rfl) rfl)⟩
theorem kl_X12_361 : Cond.constantLong RX12 361 (5) ∈ sTb := (sTm_8 (List.mem_of_getElem? (i := 10) rfl) rfl)
theorem kl_X12_363 : Cond.constantLong RX12 363 (7) ∈ sTb := (sTm_8 (List.mem_of_getElem? (i := 11) rfl) rfl)
theorem kl_X12_365 : Cond.constantLong RX12 365 (6) ∈ sTb := (sTm_8 (List.mem_of_getElem? (i := 12) rfl) rfl)
theorem kl_X12_367 : Cond.constantLong RX12 367 (8) ∈ sTb := (sTm_8 (List.mem_of_getElem? (i := 13) rfl) rfl)
theorem lm_X12_369 : sMl RX12 369 yX12_name := Or.inl (sTm_7 (List.mem_of_getElem? (i := 180) rfl) rfl)
theorem mf_X12_name : sMf yX12_name cX12_name 3 (some .long) 0 := ⟨(sTm_7 (List.mem_of_getElem? (i := 183) rfl) rfl), (sTm_1 (List.mem_of_getElem? (i := 13) rfl) rfl), ⟨by decide +kernel, by decide +kernel⟩, by decide +kernel, by decide⟩
theorem mi_X12_name : Cond.instanceMethod yX12_name ∈ sTb ∧ Cond.selects yX12_name.cls yX12_name yX12_name ∈ sTb := ⟨(sTm_7 (List.mem_of_getElem? (i := 182) rfl) rfl), (sTs_5 (i := 9) rfl rfl)⟩
theorem lm_X12_373 : sMl RX12 373 yX12_asks := Or.inl (sTm_7 (List.mem_of_getElem? (i := 123) rfl) rfl)
theorem mf_X12_asks : sMf yX12_asks cX12_asks 2 none 1 := ⟨(sTm_7 (List.mem_of_getElem? (i := 126) rfl) rfl), (sTm_1 (List.mem_of_getElem? (i := 13) rfl) rfl), ⟨by decide +kernel, by decide +kernel⟩, by decide +kernel, by decide⟩
theorem mi_X12_asks : Cond.instanceMethod yX12_asks ∈ sTb ∧ Cond.selects yX12_asks.cls yX12_asks yX12_asks ∈ sTb := ⟨(sTm_7 (List.mem_of_getElem? (i := 125) rfl) rfl), (sTs_4 (i := 13) rfl rfl)⟩
theorem lm_X12_377 : sMl RX12 377 yX12_number := Or.inl (sTm_7 (List.mem_of_getElem? (i := 146) rfl) rfl)
theorem mf_X12_number : sMf yX12_number cX12_number 5 (some .int) 2 := ⟨(sTm_7 (List.mem_of_getElem? (i := 149) rfl) rfl), (sTm_1 (List.mem_of_getElem? (i := 13) rfl) rfl), ⟨by decide +kernel, by decide +kernel⟩, by decide +kernel, by decide⟩
theorem mi_X12_number : Cond.instanceMethod yX12_number ∈ sTb ∧ Cond.selects yX12_number.cls yX12_number yX12_number ∈ sTb := ⟨(sTm_7 (List.mem_of_getElem? (i := 148) rfl) rfl), (sTs_5 (i := 2) rfl rfl)⟩
theorem lm_X12_381 : sMl RX12 381 yX12_asksSign := Or.inl (sTm_7 (List.mem_of_getElem? (i := 156) rfl) rfl)
theorem mf_X12_asksSign : sMf yX12_asksSign cX12_asksSign 2 none 1 := ⟨(sTm_7 (List.mem_of_getElem? (i := 159) rfl) rfl), (sTm_1 (List.mem_of_getElem? (i := 13) rfl) rfl), ⟨by decide +kernel, by decide +kernel⟩, by decide +kernel, by decide⟩
theorem mi_X12_asksSign : Cond.instanceMethod yX12_asksSign ∈ sTb ∧ Cond.selects yX12_asksSign.cls yX12_asksSign yX12_asksSign ∈ sTb := ⟨(sTm_7 (List.mem_of_getElem? (i := 158) rfl) rfl), (sTs_5 (i := 3) rfl rfl)⟩
theorem lm_X12_385 : sMl RX12 385 yX12_isFull := Or.inl (sTm_7 (List.mem_of_getElem? (i := 172) rfl) rfl)
theorem mf_X12_isFull : sMf yX12_isFull cX12_isFull 4 (some .boolean) 3 := ⟨(sTm_7 (List.mem_of_getElem? (i := 175) rfl) rfl), (sTm_1 (List.mem_of_getElem? (i := 13) rfl) rfl), ⟨by decide +kernel, by decide +kernel⟩, by decide +kernel, by decide⟩
theorem mi_X12_isFull : Cond.instanceMethod yX12_isFull ∈ sTb ∧ Cond.selects yX12_isFull.cls yX12_isFull yX12_isFull ∈ sTb := ⟨(sTm_7 (List.mem_of_getElem? (i := 174) rfl) rfl), (sTs_5 (i := 7) rfl rfl)⟩
theorem lm_X12_389 : sMl RX12 389 yX12_newName := Or.inl (sTm_7 (List.mem_of_getElem? (i := 176) rfl) rfl)
theorem mf_X12_newName : sMf yX12_newName cX12_newName 5 (some .long) 0 := ⟨(sTm_7 (List.mem_of_getElem? (i := 179) rfl) rfl), (sTm_1 (List.mem_of_getElem? (i := 13) rfl) rfl), ⟨by decide +kernel, by decide +kernel⟩, by decide +kernel, by decide⟩
theorem mi_X12_newName : Cond.instanceMethod yX12_newName ∈ sTb ∧ Cond.selects yX12_newName.cls yX12_newName yX12_newName ∈ sTb := ⟨(sTm_7 (List.mem_of_getElem? (i := 178) rfl) rfl), (sTs_5 (i := 8) rfl rfl)⟩
theorem lm_X12_392 : sMl RX12 392 yX12_named := Or.inl (sTm_7 (List.mem_of_getElem? (i := 198) rfl) rfl)
theorem mf_X12_named : sMf yX12_named cX12_named 6 (some .int) 2 := ⟨(sTm_7 (List.mem_of_getElem? (i := 201) rfl) rfl), (sTm_1 (List.mem_of_getElem? (i := 13) rfl) rfl), ⟨by decide +kernel, by decide +kernel⟩, by decide +kernel, by decide⟩
theorem mi_X12_named : Cond.instanceMethod yX12_named ∈ sTb ∧ Cond.selects yX12_named.cls yX12_named yX12_named ∈ sTb := ⟨(sTm_7 (List.mem_of_getElem? (i := 200) rfl) rfl), (sTs_5 (i := 13) rfl rfl)⟩
theorem tp_12_58 : sTy 12 58 = .int := by decide +kernel
theorem tk_12_116 : skd (sTy 12 116) = 0 := by decide +kernel
theorem lf_X12_395 : sFl RX12 395 12 116 127 false := ⟨RX12, TX12, rfl, by decide, by decide, sIn_RX12, tyX12_ok, nmX12, (by decide +kernel), (by decide +kernel), Or.inl (sTm_6 (List.mem_of_getElem? (i := 79) rfl) rfl)⟩
theorem tp_12_116 : sTy 12 116 = .int := by decide +kernel
theorem tk_12_118 : skd (sTy 12 118) = 0 := by decide +kernel
theorem lf_X12_398 : sFl RX12 398 12 118 127 false := ⟨RX12, TX12, rfl, by decide, by decide, sIn_RX12, tyX12_ok, nmX12, (by decide +kernel), (by decide +kernel), Or.inl (sTm_6 (List.mem_of_getElem? (i := 81) rfl) rfl)⟩
theorem tp_12_118 : sTy 12 118 = .int := by decide +kernel
theorem tk_12_119 : skd (sTy 12 119) = 0 := by decide +kernel
theorem lf_X12_401 : sFl RX12 401 12 119 127 false := ⟨RX12, TX12, rfl, by decide, by decide, sIn_RX12, tyX12_ok, nmX12, (by decide +kernel), (by decide +kernel), Or.inl (sTm_6 (List.mem_of_getElem? (i := 82) rfl) rfl)⟩
theorem tp_12_119 : sTy 12 119 = .int := by decide +kernel
theorem tk_12_120 : skd (sTy 12 120) = 0 := by decide +kernel
theorem lf_X12_404 : sFl RX12 404 12 120 127 false := ⟨RX12, TX12, rfl, by decide, by decide, sIn_RX12, tyX12_ok, nmX12, (by decide +kernel), (by decide +kernel), Or.inl (sTm_6 (List.mem_of_getElem? (i := 83) rfl) rfl)⟩
theorem tp_12_120 : sTy 12 120 = .int := by decide +kernel
theorem lm_X12_407 : sMl RX12 407 yX12_qTest := Or.inl (sTm_7 (List.mem_of_getElem? (i := 214) rfl) rfl)
theorem mf_X12_qTest : sMf yX12_qTest cX12_qTest 3 none 0 := ⟨(sTm_7 (List.mem_of_getElem? (i := 217) rfl) rfl), (sTm_1 (List.mem_of_getElem? (i := 13) rfl) rfl), ⟨by decide +kernel, by decide +kernel⟩, by decide +kernel, by decide⟩
theorem mi_X12_qTest : Cond.instanceMethod yX12_qTest ∈ sTb ∧ Cond.selects yX12_qTest.cls yX12_qTest yX12_qTest ∈ sTb := ⟨(sTm_7 (List.mem_of_getElem? (i := 216) rfl) rfl), (sTs_6 (i := 1) rfl rfl)⟩
theorem lm_X12_410 : sMl RX12 410 yX12_qSums := Or.inl (sTm_7 (List.mem_of_getElem? (i := 230) rfl) rfl)
theorem mf_X12_qSums : sMf yX12_qSums cX12_qSums 3 none 0 := ⟨(sTm_7 (List.mem_of_getElem? (i := 233) rfl) rfl), (sTm_1 (List.mem_of_getElem? (i := 13) rfl) rfl), ⟨by decide +kernel, by decide +kernel⟩, by decide +kernel, by decide⟩
theorem mi_X12_qSums : Cond.instanceMethod yX12_qSums ∈ sTb ∧ Cond.selects yX12_qSums.cls yX12_qSums yX12_qSums ∈ sTb := ⟨(sTm_7 (List.mem_of_getElem? (i := 232) rfl) rfl), (sTs_6 (i := 5) rfl rfl)⟩
theorem tk_12_55 : skd (sTy 12 55) = 0 := by decide +kernel
theorem lf_X12_413 : sFl RX12 413 12 55 127 false := ⟨RX12, TX12, rfl, by decide, by decide, sIn_RX12, tyX12_ok, nmX12, (by decide +kernel), (by decide +kernel), Or.inl (sTm_6 (List.mem_of_getElem? (i := 18) rfl) rfl)⟩
theorem tp_12_55 : sTy 12 55 = .int := by decide +kernel
theorem tk_12_56 : skd (sTy 12 56) = 0 := by decide +kernel
theorem lf_X12_416 : sFl RX12 416 12 56 127 false := ⟨RX12, TX12, rfl, by decide, by decide, sIn_RX12, tyX12_ok, nmX12, (by decide +kernel), (by decide +kernel), Or.inl (sTm_6 (List.mem_of_getElem? (i := 19) rfl) rfl)⟩
theorem lm_X12_419 : sMl RX12 419 yX12_gateTold := Or.inl (sTm_7 (List.mem_of_getElem? (i := 168) rfl) rfl)
theorem mf_X12_gateTold : sMf yX12_gateTold cX12_gateTold 5 none 1 := ⟨(sTm_7 (List.mem_of_getElem? (i := 171) rfl) rfl), (sTm_1 (List.mem_of_getElem? (i := 13) rfl) rfl), ⟨by decide +kernel, by decide +kernel⟩, by decide +kernel, by decide⟩
theorem mi_X12_gateTold : Cond.instanceMethod yX12_gateTold ∈ sTb ∧ Cond.selects yX12_gateTold.cls yX12_gateTold yX12_gateTold ∈ sTb := ⟨(sTm_7 (List.mem_of_getElem? (i := 170) rfl) rfl), (sTs_5 (i := 6) rfl rfl)⟩
theorem lm_X12_422 : sMl RX12 422 yX12_placeTold := Or.inl (sTm_7 (List.mem_of_getElem? (i := 190) rfl) rfl)
theorem mf_X12_placeTold : sMf yX12_placeTold cX12_placeTold 4 none 1 := ⟨(sTm_7 (List.mem_of_getElem? (i := 193) rfl) rfl), (sTm_1 (List.mem_of_getElem? (i := 13) rfl) rfl), ⟨by decide +kernel, by decide +kernel⟩, by decide +kernel, by decide⟩
theorem mi_X12_placeTold : Cond.instanceMethod yX12_placeTold ∈ sTb ∧ Cond.selects yX12_placeTold.cls yX12_placeTold yX12_placeTold ∈ sTb := ⟨(sTm_7 (List.mem_of_getElem? (i := 192) rfl) rfl), (sTs_5 (i := 11) rfl rfl)⟩
theorem lm_X12_425 : sMl RX12 425 yX12_roadTold := Or.inl (sTm_7 (List.mem_of_getElem? (i := 194) rfl) rfl)
theorem mf_X12_roadTold : sMf yX12_roadTold cX12_roadTold 8 none 2 := ⟨(sTm_7 (List.mem_of_getElem? (i := 197) rfl) rfl), (sTm_1 (List.mem_of_getElem? (i := 13) rfl) rfl), ⟨by decide +kernel, by decide +kernel⟩, by decide +kernel, by decide⟩
theorem mi_X12_roadTold : Cond.instanceMethod yX12_roadTold ∈ sTb ∧ Cond.selects yX12_roadTold.cls yX12_roadTold yX12_roadTold ∈ sTb := ⟨(sTm_7 (List.mem_of_getElem? (i := 196) rfl) rfl), (sTs_5 (i := 12) rfl rfl)⟩
theorem lm_X12_429 : sMl RX12 429 yX12_eraTold := Or.inl (sTm_7 (List.mem_of_getElem? (i := 202) rfl) rfl)
theorem mf_X12_eraTold : sMf yX12_eraTold cX12_eraTold 8 none 1 := ⟨(sTm_7 (List.mem_of_getElem? (i := 205) rfl) rfl), (sTm_1 (List.mem_of_getElem? (i := 13) rfl) rfl), ⟨by decide +kernel, by decide +kernel⟩, by decide +kernel, by decide⟩
theorem mi_X12_eraTold : Cond.instanceMethod yX12_eraTold ∈ sTb ∧ Cond.selects yX12_eraTold.cls yX12_eraTold yX12_eraTold ∈ sTb := ⟨(sTm_7 (List.mem_of_getElem? (i := 204) rfl) rfl), (sTs_5 (i := 14) rfl rfl)⟩
theorem lm_X12_432 : sMl RX12 432 yX12_carTold := Or.inl (sTm_7 (List.mem_of_getElem? (i := 206) rfl) rfl)
theorem mf_X12_carTold : sMf yX12_carTold cX12_carTold 8 none 1 := ⟨(sTm_7 (List.mem_of_getElem? (i := 209) rfl) rfl), (sTm_1 (List.mem_of_getElem? (i := 13) rfl) rfl), ⟨by decide +kernel, by decide +kernel⟩, by decide +kernel, by decide⟩
theorem mi_X12_carTold : Cond.instanceMethod yX12_carTold ∈ sTb ∧ Cond.selects yX12_carTold.cls yX12_carTold yX12_carTold ∈ sTb := ⟨(sTm_7 (List.mem_of_getElem? (i := 208) rfl) rfl), (sTs_5 (i := 15) rfl rfl)⟩
theorem lm_X12_435 : sMl RX12 435 yX12_codesTold := Or.inl (sTm_7 (List.mem_of_getElem? (i := 210) rfl) rfl)
theorem mf_X12_codesTold : sMf yX12_codesTold cX12_codesTold 4 none 2 := ⟨(sTm_7 (List.mem_of_getElem? (i := 213) rfl) rfl), (sTm_1 (List.mem_of_getElem? (i := 13) rfl) rfl), ⟨by decide +kernel, by decide +kernel⟩, by decide +kernel, by decide⟩
theorem mi_X12_codesTold : Cond.instanceMethod yX12_codesTold ∈ sTb ∧ Cond.selects yX12_codesTold.cls yX12_codesTold yX12_codesTold ∈ sTb := ⟨(sTm_7 (List.mem_of_getElem? (i := 212) rfl) rfl), (sTs_6 (i := 0) rfl rfl)⟩
theorem tp_12_56 : sTy 12 56 = .int := by decide +kernel
theorem tp_12_3 : sTy 12 3 = .int := by decide +kernel
theorem lm_X12_438 : sMl RX12 438 yX12_districtTold := Or.inl (sTm_7 (List.mem_of_getElem? (i := 119) rfl) rfl)
theorem mf_X12_districtTold : sMf yX12_districtTold cX12_districtTold 1 none 0 := ⟨(sTm_7 (List.mem_of_getElem? (i := 122) rfl) rfl), (sTm_1 (List.mem_of_getElem? (i := 13) rfl) rfl), ⟨by decide +kernel, by decide +kernel⟩, by decide +kernel, by decide⟩
theorem mi_X12_districtTold : Cond.instanceMethod yX12_districtTold ∈ sTb ∧ Cond.selects yX12_districtTold.cls yX12_districtTold yX12_districtTold ∈ sTb := ⟨(sTm_7 (List.mem_of_getElem? (i := 121) rfl) rfl), (sTs_4 (i := 12) rfl rfl)⟩
theorem lm_X12_441 : sMl RX12 441 yX12_statementTold := Or.inl (sTm_7 (List.mem_of_getElem? (i := 164) rfl) rfl)
theorem mf_X12_statementTold : sMf yX12_statementTold cX12_statementTold 2 none 0 := ⟨(sTm_7 (List.mem_of_getElem? (i := 167) rfl) rfl), (sTm_1 (List.mem_of_getElem? (i := 13) rfl) rfl), ⟨by decide +kernel, by decide +kernel⟩, by decide +kernel, by decide⟩
theorem mi_X12_statementTold : Cond.instanceMethod yX12_statementTold ∈ sTb ∧ Cond.selects yX12_statementTold.cls yX12_statementTold yX12_statementTold ∈ sTb := ⟨(sTm_7 (List.mem_of_getElem? (i := 166) rfl) rfl), (sTs_5 (i := 5) rfl rfl)⟩
theorem tk_12_7 : skd (sTy 12 7) = 0 := by decide +kernel
theorem lf_X12_444 : sFl RX12 444 12 7 127 false := ⟨RX12, TX12, rfl, by decide, by decide, sIn_RX12, tyX12_ok, nmX12, (by decide +kernel), (by decide +kernel), Or.inl (sTm_5 (List.mem_of_getElem? (i := 210) rfl) rfl)⟩
theorem tp_12_7 : sTy 12 7 = .int := by decide +kernel
theorem lm_X12_447 : sMl RX12 447 yX12_stands := Or.inl (sTm_8 (List.mem_of_getElem? (i := 57) rfl) rfl)
theorem mf_X12_stands : sMf yX12_stands cX12_stands 2 none 0 := ⟨(sTm_8 (List.mem_of_getElem? (i := 60) rfl) rfl), (sTm_1 (List.mem_of_getElem? (i := 13) rfl) rfl), ⟨by decide +kernel, by decide +kernel⟩, by decide +kernel, by decide⟩
theorem mi_X12_stands : Cond.instanceMethod yX12_stands ∈ sTb ∧ Cond.selects yX12_stands.cls yX12_stands yX12_stands ∈ sTb := ⟨(sTm_8 (List.mem_of_getElem? (i := 59) rfl) rfl), (sTs_7 (i := 4) rfl rfl)⟩
theorem tk_12_57 : skd (sTy 12 57) = 0 := by decide +kernel
theorem lf_X12_450 : sFl RX12 450 12 57 127 false := ⟨RX12, TX12, rfl, by decide, by decide, sIn_RX12, tyX12_ok, nmX12, (by decide +kernel), (by decide +kernel), Or.inl (sTm_6 (List.mem_of_getElem? (i := 20) rfl) rfl)⟩
theorem tp_12_57 : sTy 12 57 = .boolean := by decide +kernel
theorem tk_12_85 : skd (sTy 12 85) = 0 := by decide +kernel
theorem lf_X12_454 : sFl RX12 454 12 85 127 false := ⟨RX12, TX12, rfl, by decide, by decide, sIn_RX12, tyX12_ok, nmX12, (by decide +kernel), (by decide +kernel), Or.inl (sTm_6 (List.mem_of_getElem? (i := 48) rfl) rfl)⟩
theorem tp_12_85 : sTy 12 85 = .int := by decide +kernel
theorem tk_12_80 : skd (sTy 12 80) = 0 := by decide +kernel
theorem lf_X12_457 : sFl RX12 457 12 80 127 false := ⟨RX12, TX12, rfl, by decide, by decide, sIn_RX12, tyX12_ok, nmX12, (by decide +kernel), (by decide +kernel), Or.inl (sTm_6 (List.mem_of_getElem? (i := 43) rfl) rfl)⟩
theorem tp_12_80 : sTy 12 80 = .int := by decide +kernel
theorem lm_X12_460 : sMl RX12 460 yX12_gateMany := Or.inl (sTm_8 (List.mem_of_getElem? (i := 69) rfl) rfl)
theorem mf_X12_gateMany : sMf yX12_gateMany cX12_gateMany 1 (some .int) 0 := ⟨(sTm_8 (List.mem_of_getElem? (i := 72) rfl) rfl), (sTm_1 (List.mem_of_getElem? (i := 13) rfl) rfl), ⟨by decide +kernel, by decide +kernel⟩, by decide +kernel, by decide⟩
theorem mi_X12_gateMany : Cond.instanceMethod yX12_gateMany ∈ sTb ∧ Cond.selects yX12_gateMany.cls yX12_gateMany yX12_gateMany ∈ sTb := ⟨(sTm_8 (List.mem_of_getElem? (i := 71) rfl) rfl), (sTs_7 (i := 5) rfl rfl)⟩
theorem lm_X12_463 : sMl RX12 463 yX12_placeMany := Or.inl (sTm_8 (List.mem_of_getElem? (i := 73) rfl) rfl)
theorem mf_X12_placeMany : sMf yX12_placeMany cX12_placeMany 1 (some .int) 0 := ⟨(sTm_8 (List.mem_of_getElem? (i := 76) rfl) rfl), (sTm_1 (List.mem_of_getElem? (i := 13) rfl) rfl), ⟨by decide +kernel, by decide +kernel⟩, by decide +kernel, by decide⟩
theorem mi_X12_placeMany : Cond.instanceMethod yX12_placeMany ∈ sTb ∧ Cond.selects yX12_placeMany.cls yX12_placeMany yX12_placeMany ∈ sTb := ⟨(sTm_8 (List.mem_of_getElem? (i := 75) rfl) rfl), (sTs_7 (i := 6) rfl rfl)⟩
theorem lm_X12_466 : sMl RX12 466 yX12_eraMany := Or.inl (sTm_8 (List.mem_of_getElem? (i := 81) rfl) rfl)
theorem mf_X12_eraMany : sMf yX12_eraMany cX12_eraMany 1 (some .int) 0 := ⟨(sTm_8 (List.mem_of_getElem? (i := 84) rfl) rfl), (sTm_1 (List.mem_of_getElem? (i := 13) rfl) rfl), ⟨by decide +kernel, by decide +kernel⟩, by decide +kernel, by decide⟩
theorem mi_X12_eraMany : Cond.instanceMethod yX12_eraMany ∈ sTb ∧ Cond.selects yX12_eraMany.cls yX12_eraMany yX12_eraMany ∈ sTb := ⟨(sTm_8 (List.mem_of_getElem? (i := 83) rfl) rfl), (sTs_7 (i := 8) rfl rfl)⟩
theorem lm_X12_469 : sMl RX12 469 yX12_carMany := Or.inl (sTm_8 (List.mem_of_getElem? (i := 85) rfl) rfl)
theorem mf_X12_carMany : sMf yX12_carMany cX12_carMany 1 (some .int) 0 := ⟨(sTm_8 (List.mem_of_getElem? (i := 88) rfl) rfl), (sTm_1 (List.mem_of_getElem? (i := 13) rfl) rfl), ⟨by decide +kernel, by decide +kernel⟩, by decide +kernel, by decide⟩
theorem mi_X12_carMany : Cond.instanceMethod yX12_carMany ∈ sTb ∧ Cond.selects yX12_carMany.cls yX12_carMany yX12_carMany ∈ sTb := ⟨(sTm_8 (List.mem_of_getElem? (i := 87) rfl) rfl), (sTs_7 (i := 9) rfl rfl)⟩
theorem lm_X12_472 : sMl RX12 472 yX12_isUp := Or.inl (sTm_8 (List.mem_of_getElem? (i := 93) rfl) rfl)
theorem mf_X12_isUp : sMf yX12_isUp cX12_isUp 2 (some .boolean) 1 := ⟨(sTm_8 (List.mem_of_getElem? (i := 96) rfl) rfl), (sTm_1 (List.mem_of_getElem? (i := 13) rfl) rfl), ⟨by decide +kernel, by decide +kernel⟩, by decide +kernel, by decide⟩
theorem mi_X12_isUp : Cond.instanceMethod yX12_isUp ∈ sTb ∧ Cond.selects yX12_isUp.cls yX12_isUp yX12_isUp ∈ sTb := ⟨(sTm_8 (List.mem_of_getElem? (i := 95) rfl) rfl), (sTs_7 (i := 11) rfl rfl)⟩
theorem tk_12_122 : skd (sTy 12 122) = 0 := by decide +kernel
theorem lf_X12_475 : sFl RX12 475 12 122 127 false := ⟨RX12, TX12, rfl, by decide, by decide, sIn_RX12, tyX12_ok, nmX12, (by decide +kernel), (by decide +kernel), Or.inl (sTm_6 (List.mem_of_getElem? (i := 85) rfl) rfl)⟩
theorem tp_12_122 : sTy 12 122 = .int := by decide +kernel
theorem lm_X12_478 : sMl RX12 478 yX12_qPuts := Or.inl (sTm_8 (List.mem_of_getElem? (i := 194) rfl) rfl)
theorem mf_X12_qPuts : sMf yX12_qPuts cX12_qPuts 3 none 1 := ⟨(sTm_8 (List.mem_of_getElem? (i := 197) rfl) rfl), (sTm_1 (List.mem_of_getElem? (i := 13) rfl) rfl), ⟨by decide +kernel, by decide +kernel⟩, by decide +kernel, by decide⟩
theorem mi_X12_qPuts : Cond.instanceMethod yX12_qPuts ∈ sTb ∧ Cond.selects yX12_qPuts.cls yX12_qPuts yX12_qPuts ∈ sTb := ⟨(sTm_8 (List.mem_of_getElem? (i := 196) rfl) rfl), (sTs_8 (i := 11) rfl rfl)⟩
theorem lm_X12_482 : sMl RX12 482 yX12_qPartOf := Or.inl (sTm_8 (List.mem_of_getElem? (i := 198) rfl) rfl)
theorem mf_X12_qPartOf : sMf yX12_qPartOf cX12_qPartOf 3 (some .long) 2 := ⟨(sTm_8 (List.mem_of_getElem? (i := 201) rfl) rfl), (sTm_1 (List.mem_of_getElem? (i := 13) rfl) rfl), ⟨by decide +kernel, by decide +kernel⟩, by decide +kernel, by decide⟩
theorem mi_X12_qPartOf : Cond.instanceMethod yX12_qPartOf ∈ sTb ∧ Cond.selects yX12_qPartOf.cls yX12_qPartOf yX12_qPartOf ∈ sTb := ⟨(sTm_8 (List.mem_of_getElem? (i := 200) rfl) rfl), (sTs_8 (i := 12) rfl rfl)⟩
theorem lm_X12_486 : sMl RX12 486 yX12_qJoins := Or.inl (sTm_8 (List.mem_of_getElem? (i := 202) rfl) rfl)
theorem mf_X12_qJoins : sMf yX12_qJoins cX12_qJoins 6 none 1 := ⟨(sTm_8 (List.mem_of_getElem? (i := 205) rfl) rfl), (sTm_1 (List.mem_of_getElem? (i := 13) rfl) rfl), ⟨by decide +kernel, by decide +kernel⟩, by decide +kernel, by decide⟩
theorem mi_X12_qJoins : Cond.instanceMethod yX12_qJoins ∈ sTb ∧ Cond.selects yX12_qJoins.cls yX12_qJoins yX12_qJoins ∈ sTb := ⟨(sTm_8 (List.mem_of_getElem? (i := 204) rfl) rfl), (sTs_8 (i := 13) rfl rfl)⟩
theorem lm_X12_489 : sMl RX12 489 yX12_headOf := Or.inl (sTm_8 (List.mem_of_getElem? (i := 166) rfl) rfl)
theorem mf_X12_headOf : sMf yX12_headOf cX12_headOf 6 (some .int) 3 := ⟨(sTm_8 (List.mem_of_getElem? (i := 169) rfl) rfl), (sTm_1 (List.mem_of_getElem? (i := 13) rfl) rfl), ⟨by decide +kernel, by decide +kernel⟩, by decide +kernel, by decide⟩
theorem mi_X12_headOf : Cond.instanceMethod yX12_headOf ∈ sTb ∧ Cond.selects yX12_headOf.cls yX12_headOf yX12_headOf ∈ sTb := ⟨(sTm_8 (List.mem_of_getElem? (i := 168) rfl) rfl), (sTs_8 (i := 5) rfl rfl)⟩
theorem lm_X12_493 : sMl RX12 493 yX12_mileOf := Or.inl (sTm_8 (List.mem_of_getElem? (i := 113) rfl) rfl)
theorem mf_X12_mileOf : sMf yX12_mileOf cX12_mileOf 2 (some .int) 1 := ⟨(sTm_8 (List.mem_of_getElem? (i := 116) rfl) rfl), (sTm_1 (List.mem_of_getElem? (i := 13) rfl) rfl), ⟨by decide +kernel, by decide +kernel⟩, by decide +kernel, by decide⟩
theorem mi_X12_mileOf : Cond.instanceMethod yX12_mileOf ∈ sTb ∧ Cond.selects yX12_mileOf.cls yX12_mileOf yX12_mileOf ∈ sTb := ⟨(sTm_8 (List.mem_of_getElem? (i := 115) rfl) rfl), (sTs_7 (i := 13) rfl rfl)⟩
theorem tk_12_61 : skd (sTy 12 61) = 0 := by decide +kernel
theorem lf_X12_497 : sFl RX12 497 12 61 127 false := ⟨RX12, TX12, rfl, by decide, by decide, sIn_RX12, tyX12_ok, nmX12, (by decide +kernel), (by decide +kernel), Or.inl (sTm_6 (List.mem_of_getElem? (i := 24) rfl) rfl)⟩
theorem tp_12_61 : sTy 12 61 = .int := by decide +kernel
theorem tk_12_62 : skd (sTy 12 62) = 0 := by decide +kernel
theorem lf_X12_500 : sFl RX12 500 12 62 127 false := ⟨RX12, TX12, rfl, by decide, by decide, sIn_RX12, tyX12_ok, nmX12, (by decide +kernel), (by decide +kernel), Or.inl (sTm_6 (List.mem_of_getElem? (i := 25) rfl) rfl)⟩
theorem tp_12_62 : sTy 12 62 = .int := by decide +kernel
theorem lm_X12_503 : sMl RX12 503 yX12_isTold := Or.inl (sTm_8 (List.mem_of_getElem? (i := 186) rfl) rfl)
theorem mf_X12_isTold : sMf yX12_isTold cX12_isTold 2 (some .boolean) 1 := ⟨(sTm_8 (List.mem_of_getElem? (i := 189) rfl) rfl), (sTm_1 (List.mem_of_getElem? (i := 13) rfl) rfl), ⟨by decide +kernel, by decide +kernel⟩, by decide +kernel, by decide⟩
theorem mi_X12_isTold : Cond.instanceMethod yX12_isTold ∈ sTb ∧ Cond.selects yX12_isTold.cls yX12_isTold yX12_isTold ∈ sTb := ⟨(sTm_8 (List.mem_of_getElem? (i := 188) rfl) rfl), (sTs_8 (i := 9) rfl rfl)⟩
theorem tk_12_63 : skd (sTy 12 63) = 0 := by decide +kernel
theorem lf_X12_506 : sFl RX12 506 12 63 127 false := ⟨RX12, TX12, rfl, by decide, by decide, sIn_RX12, tyX12_ok, nmX12, (by decide +kernel), (by decide +kernel), Or.inl (sTm_6 (List.mem_of_getElem? (i := 26) rfl) rfl)⟩
theorem tp_12_63 : sTy 12 63 = .int := by decide +kernel
theorem tk_12_64 : skd (sTy 12 64) = 0 := by decide +kernel
theorem lf_X12_509 : sFl RX12 509 12 64 127 false := ⟨RX12, TX12, rfl, by decide, by decide, sIn_RX12, tyX12_ok, nmX12, (by decide +kernel), (by decide +kernel), Or.inl (sTm_6 (List.mem_of_getElem? (i := 27) rfl) rfl)⟩
theorem tp_12_64 : sTy 12 64 = .int := by decide +kernel
theorem lm_X12_512 : sMl RX12 512 yX12_codesTell := Or.inl (sTm_8 (List.mem_of_getElem? (i := 190) rfl) rfl)
theorem mf_X12_codesTell : sMf yX12_codesTell cX12_codesTell 5 (some .long) 2 := ⟨(sTm_8 (List.mem_of_getElem? (i := 193) rfl) rfl), (sTm_1 (List.mem_of_getElem? (i := 13) rfl) rfl), ⟨by decide +kernel, by decide +kernel⟩, by decide +kernel, by decide⟩
theorem mi_X12_codesTell : Cond.instanceMethod yX12_codesTell ∈ sTb ∧ Cond.selects yX12_codesTell.cls yX12_codesTell yX12_codesTell ∈ sTb := ⟨(sTm_8 (List.mem_of_getElem? (i := 192) rfl) rfl), (sTs_8 (i := 10) rfl rfl)⟩
theorem lm_X12_515 : sMl RX12 515 yX12_lateOf := Or.inl (sTm_8 (List.mem_of_getElem? (i := 125) rfl) rfl)
theorem mf_X12_lateOf : sMf yX12_lateOf cX12_lateOf 2 (some .int) 1 := ⟨(sTm_8 (List.mem_of_getElem? (i := 128) rfl) rfl), (sTm_1 (List.mem_of_getElem? (i := 13) rfl) rfl), ⟨by decide +kernel, by decide +kernel⟩, by decide +kernel, by decide⟩
theorem mi_X12_lateOf : Cond.instanceMethod yX12_lateOf ∈ sTb ∧ Cond.selects yX12_lateOf.cls yX12_lateOf yX12_lateOf ∈ sTb := ⟨(sTm_8 (List.mem_of_getElem? (i := 127) rfl) rfl), (sTs_7 (i := 15) rfl rfl)⟩
theorem lm_X12_518 : sMl RX12 518 yX12_doesShut := Or.inl (sTm_8 (List.mem_of_getElem? (i := 182) rfl) rfl)
theorem mf_X12_doesShut : sMf yX12_doesShut cX12_doesShut 6 (some .boolean) 4 := ⟨(sTm_8 (List.mem_of_getElem? (i := 185) rfl) rfl), (sTm_1 (List.mem_of_getElem? (i := 13) rfl) rfl), ⟨by decide +kernel, by decide +kernel⟩, by decide +kernel, by decide⟩
theorem mi_X12_doesShut : Cond.instanceMethod yX12_doesShut ∈ sTb ∧ Cond.selects yX12_doesShut.cls yX12_doesShut yX12_doesShut ∈ sTb := ⟨(sTm_8 (List.mem_of_getElem? (i := 184) rfl) rfl), (sTs_8 (i := 8) rfl rfl)⟩
theorem lm_X12_522 : sMl RX12 522 yX12_laysShutBut := Or.inl (sTm_8 (List.mem_of_getElem? (i := 178) rfl) rfl)
theorem mf_X12_laysShutBut : sMf yX12_laysShutBut cX12_laysShutBut 6 none 1 := ⟨(sTm_8 (List.mem_of_getElem? (i := 181) rfl) rfl), (sTm_1 (List.mem_of_getElem? (i := 13) rfl) rfl), ⟨by decide +kernel, by decide +kernel⟩, by decide +kernel, by decide⟩
theorem mi_X12_laysShutBut : Cond.instanceMethod yX12_laysShutBut ∈ sTb ∧ Cond.selects yX12_laysShutBut.cls yX12_laysShutBut yX12_laysShutBut ∈ sTb := ⟨(sTm_8 (List.mem_of_getElem? (i := 180) rfl) rfl), (sTs_8 (i := 7) rfl rfl)⟩
theorem lm_X12_525 : sMl RX12 525 yX12_reaches := Or.inl (sTm_8 (List.mem_of_getElem? (i := 234) rfl) rfl)
theorem mf_X12_reaches : sMf yX12_reaches cX12_reaches 3 none 2 := ⟨(sTm_8 (List.mem_of_getElem? (i := 237) rfl) rfl), (sTm_1 (List.mem_of_getElem? (i := 13) rfl) rfl), ⟨by decide +kernel, by decide +kernel⟩, by decide +kernel, by decide⟩
theorem mi_X12_reaches : Cond.instanceMethod yX12_reaches ∈ sTb ∧ Cond.selects yX12_reaches.cls yX12_reaches yX12_reaches ∈ sTb := ⟨(sTm_8 (List.mem_of_getElem? (i := 236) rfl) rfl), (sTs_9 (i := 1) rfl rfl)⟩
theorem lm_X12_528 : sMl RX12 528 yX12_roadMany := Or.inl (sTm_8 (List.mem_of_getElem? (i := 77) rfl) rfl)
theorem mf_X12_roadMany : sMf yX12_roadMany cX12_roadMany 1 (some .int) 0 := ⟨(sTm_8 (List.mem_of_getElem? (i := 80) rfl) rfl), (sTm_1 (List.mem_of_getElem? (i := 13) rfl) rfl), ⟨by decide +kernel, by decide +kernel⟩, by decide +kernel, by decide⟩
theorem mi_X12_roadMany : Cond.instanceMethod yX12_roadMany ∈ sTb ∧ Cond.selects yX12_roadMany.cls yX12_roadMany yX12_roadMany ∈ sTb := ⟨(sTm_8 (List.mem_of_getElem? (i := 79) rfl) rfl), (sTs_7 (i := 7) rfl rfl)⟩
theorem lm_X12_531 : sMl RX12 531 yX12_goesAlong := Or.inl (sTm_8 (List.mem_of_getElem? (i := 238) rfl) rfl)
theorem mf_X12_goesAlong : sMf yX12_goesAlong cX12_goesAlong 6 none 4 := ⟨(sTm_9 (List.mem_of_getElem? (i := 1) rfl) rfl), (sTm_1 (List.mem_of_getElem? (i := 13) rfl) rfl), ⟨by decide +kernel, by decide +kernel⟩, by decide +kernel, by decide⟩
theorem mi_X12_goesAlong : Cond.instanceMethod yX12_goesAlong ∈ sTb ∧ Cond.selects yX12_goesAlong.cls yX12_goesAlong yX12_goesAlong ∈ sTb := ⟨(sTm_9 (List.mem_of_getElem? (i := 0) rfl) rfl), (sTs_9 (i := 2) rfl rfl)⟩
theorem lm_X12_535 : sMl RX12 535 yX12_placeOf := Or.inl (sTm_8 (List.mem_of_getElem? (i := 137) rfl) rfl)
theorem mf_X12_placeOf : sMf yX12_placeOf cX12_placeOf 2 (some .int) 1 := ⟨(sTm_8 (List.mem_of_getElem? (i := 140) rfl) rfl), (sTm_1 (List.mem_of_getElem? (i := 13) rfl) rfl), ⟨by decide +kernel, by decide +kernel⟩, by decide +kernel, by decide⟩
theorem mi_X12_placeOf : Cond.instanceMethod yX12_placeOf ∈ sTb ∧ Cond.selects yX12_placeOf.cls yX12_placeOf yX12_placeOf ∈ sTb := ⟨(sTm_8 (List.mem_of_getElem? (i := 139) rfl) rfl), (sTs_8 (i := 1) rfl rfl)⟩
theorem lm_X12_538 : sMl RX12 538 yX12_goalOf := Or.inl (sTm_8 (List.mem_of_getElem? (i := 141) rfl) rfl)
theorem mf_X12_goalOf : sMf yX12_goalOf cX12_goalOf 2 (some .int) 1 := ⟨(sTm_8 (List.mem_of_getElem? (i := 144) rfl) rfl), (sTm_1 (List.mem_of_getElem? (i := 13) rfl) rfl), ⟨by decide +kernel, by decide +kernel⟩, by decide +kernel, by decide⟩
theorem mi_X12_goalOf : Cond.instanceMethod yX12_goalOf ∈ sTb ∧ Cond.selects yX12_goalOf.cls yX12_goalOf yX12_goalOf ∈ sTb := ⟨(sTm_8 (List.mem_of_getElem? (i := 143) rfl) rfl), (sTs_8 (i := 2) rfl rfl)⟩
theorem lm_X12_541 : sMl RX12 541 yX12_minuteOf := Or.inl (sTm_8 (List.mem_of_getElem? (i := 145) rfl) rfl)
theorem mf_X12_minuteOf : sMf yX12_minuteOf cX12_minuteOf 2 (some .int) 1 := ⟨(sTm_8 (List.mem_of_getElem? (i := 148) rfl) rfl), (sTm_1 (List.mem_of_getElem? (i := 13) rfl) rfl), ⟨by decide +kernel, by decide +kernel⟩, by decide +kernel, by decide⟩
theorem mi_X12_minuteOf : Cond.instanceMethod yX12_minuteOf ∈ sTb ∧ Cond.selects yX12_minuteOf.cls yX12_minuteOf yX12_minuteOf ∈ sTb := ⟨(sTm_8 (List.mem_of_getElem? (i := 147) rfl) rfl), (sTs_8 (i := 3) rfl rfl)⟩
theorem lm_X12_544 : sMl RX12 544 yX12_upSet := Or.inl (sTm_8 (List.mem_of_getElem? (i := 89) rfl) rfl)
theorem mf_X12_upSet : sMf yX12_upSet cX12_upSet 3 (some .int) 0 := ⟨(sTm_8 (List.mem_of_getElem? (i := 92) rfl) rfl), (sTm_1 (List.mem_of_getElem? (i := 13) rfl) rfl), ⟨by decide +kernel, by decide +kernel⟩, by decide +kernel, by decide⟩
theorem mi_X12_upSet : Cond.instanceMethod yX12_upSet ∈ sTb ∧ Cond.selects yX12_upSet.cls yX12_upSet yX12_upSet ∈ sTb := ⟨(sTm_8 (List.mem_of_getElem? (i := 91) rfl) rfl), (sTs_7 (i := 10) rfl rfl)⟩
theorem lm_X12_547 : sMl RX12 547 yX12_driveOf := Or.inl (sTm_8 (List.mem_of_getElem? (i := 230) rfl) rfl)
theorem mf_X12_driveOf : sMf yX12_driveOf cX12_driveOf 8 (some .int) 4 := ⟨(sTm_8 (List.mem_of_getElem? (i := 233) rfl) rfl), (sTm_1 (List.mem_of_getElem? (i := 13) rfl) rfl), ⟨by decide +kernel, by decide +kernel⟩, by decide +kernel, by decide⟩
theorem mi_X12_driveOf : Cond.instanceMethod yX12_driveOf ∈ sTb ∧ Cond.selects yX12_driveOf.cls yX12_driveOf yX12_driveOf ∈ sTb := ⟨(sTm_8 (List.mem_of_getElem? (i := 232) rfl) rfl), (sTs_9 (i := 0) rfl rfl)⟩
theorem tk_12_70 : skd (sTy 12 70) = 0 := by decide +kernel
theorem lf_X12_551 : sFl RX12 551 12 70 127 false := ⟨RX12, TX12, rfl, by decide, by decide, sIn_RX12, tyX12_ok, nmX12, (by decide +kernel), (by decide +kernel), Or.inl (sTm_6 (List.mem_of_getElem? (i := 33) rfl) rfl)⟩
theorem tk_12_65 : skd (sTy 12 65) = 1 := by decide +kernel
theorem lf_X12_554 : sFl RX12 554 12 65 127 false := ⟨RX12, TX12, rfl, by decide, by decide, sIn_RX12, tyX12_ok, nmX12, (by decide +kernel), (by decide +kernel), Or.inl (sTm_6 (List.mem_of_getElem? (i := 28) rfl) rfl)⟩
theorem tp_12_65 : sTy 12 65 = .long := by decide +kernel
theorem lm_X12_557 : sMl RX12 557 yX12_knowsOf := Or.inl (sTm_8 (List.mem_of_getElem? (i := 149) rfl) rfl)
theorem mf_X12_knowsOf : sMf yX12_knowsOf cX12_knowsOf 2 (some .int) 1 := ⟨(sTm_8 (List.mem_of_getElem? (i := 152) rfl) rfl), (sTm_1 (List.mem_of_getElem? (i := 13) rfl) rfl), ⟨by decide +kernel, by decide +kernel⟩, by decide +kernel, by decide⟩
theorem mi_X12_knowsOf : Cond.instanceMethod yX12_knowsOf ∈ sTb ∧ Cond.selects yX12_knowsOf.cls yX12_knowsOf yX12_knowsOf ∈ sTb := ⟨(sTm_8 (List.mem_of_getElem? (i := 151) rfl) rfl), (sTs_8 (i := 4) rfl rfl)⟩
theorem lm_X12_560 : sMl RX12 560 yX12_cut := Or.inl (sTm_9 (List.mem_of_getElem? (i := 34) rfl) rfl)
theorem mf_X12_cut : sMf yX12_cut cX12_cut 3 (some .int) 2 := ⟨(sTm_9 (List.mem_of_getElem? (i := 36) rfl) rfl), (sTm_1 (List.mem_of_getElem? (i := 13) rfl) rfl), ⟨by decide +kernel, by decide +kernel⟩, by decide +kernel, by decide⟩
theorem ms_X12_cut : Cond.static yX12_cut ∈ sTb := (sTm_9 (List.mem_of_getElem? (i := 35) rfl) rfl)
theorem lm_X12_564 : sMl RX12 564 yX12_laysShut := Or.inl (sTm_8 (List.mem_of_getElem? (i := 174) rfl) rfl)
theorem mf_X12_laysShut : sMf yX12_laysShut cX12_laysShut 1 none 0 := ⟨(sTm_8 (List.mem_of_getElem? (i := 177) rfl) rfl), (sTm_1 (List.mem_of_getElem? (i := 13) rfl) rfl), ⟨by decide +kernel, by decide +kernel⟩, by decide +kernel, by decide⟩
theorem mi_X12_laysShut : Cond.instanceMethod yX12_laysShut ∈ sTb ∧ Cond.selects yX12_laysShut.cls yX12_laysShut yX12_laysShut ∈ sTb := ⟨(sTm_8 (List.mem_of_getElem? (i := 176) rfl) rfl), (sTs_8 (i := 6) rfl rfl)⟩
theorem lm_X12_567 : sMl RX12 567 yX12_waitOf := Or.inl (sTm_9 (List.mem_of_getElem? (i := 6) rfl) rfl)
theorem mf_X12_waitOf : sMf yX12_waitOf cX12_waitOf 3 (some .int) 1 := ⟨(sTm_9 (List.mem_of_getElem? (i := 9) rfl) rfl), (sTm_1 (List.mem_of_getElem? (i := 13) rfl) rfl), ⟨by decide +kernel, by decide +kernel⟩, by decide +kernel, by decide⟩
theorem mi_X12_waitOf : Cond.instanceMethod yX12_waitOf ∈ sTb ∧ Cond.selects yX12_waitOf.cls yX12_waitOf yX12_waitOf ∈ sTb := ⟨(sTm_9 (List.mem_of_getElem? (i := 8) rfl) rfl), (sTs_9 (i := 3) rfl rfl)⟩
theorem lm_X12_570 : sMl RX12 570 yX12_arrives := Or.inl (sTm_9 (List.mem_of_getElem? (i := 30) rfl) rfl)
theorem mf_X12_arrives : sMf yX12_arrives cX12_arrives 6 none 2 := ⟨(sTm_9 (List.mem_of_getElem? (i := 33) rfl) rfl), (sTm_1 (List.mem_of_getElem? (i := 13) rfl) rfl), ⟨by decide +kernel, by decide +kernel⟩, by decide +kernel, by decide⟩
theorem mi_X12_arrives : Cond.instanceMethod yX12_arrives ∈ sTb ∧ Cond.selects yX12_arrives.cls yX12_arrives yX12_arrives ∈ sTb := ⟨(sTm_9 (List.mem_of_getElem? (i := 32) rfl) rfl), (sTs_9 (i := 8) rfl rfl)⟩
theorem tk_12_71 : skd (sTy 12 71) = 0 := by decide +kernel
theorem lf_X12_573 : sFl RX12 573 12 71 127 false := ⟨RX12, TX12, rfl, by decide, by decide, sIn_RX12, tyX12_ok, nmX12, (by decide +kernel), (by decide +kernel), Or.inl (sTm_6 (List.mem_of_getElem? (i := 34) rfl) rfl)⟩
theorem tp_12_71 : sTy 12 71 = .int := by decide +kernel
theorem lm_X12_576 : sMl RX12 576 yX12_isKept := Or.inl (sTm_9 (List.mem_of_getElem? (i := 37) rfl) rfl)
theorem mf_X12_isKept : sMf yX12_isKept cX12_isKept 4 none 2 := ⟨(sTm_9 (List.mem_of_getElem? (i := 40) rfl) rfl), (sTm_1 (List.mem_of_getElem? (i := 13) rfl) rfl), ⟨by decide +kernel, by decide +kernel⟩, by decide +kernel, by decide⟩
theorem mi_X12_isKept : Cond.instanceMethod yX12_isKept ∈ sTb ∧ Cond.selects yX12_isKept.cls yX12_isKept yX12_isKept ∈ sTb := ⟨(sTm_9 (List.mem_of_getElem? (i := 39) rfl) rfl), (sTs_9 (i := 9) rfl rfl)⟩
theorem lm_X12_579 : sMl RX12 579 yX12_dayGoes := Or.inl (sTm_9 (List.mem_of_getElem? (i := 26) rfl) rfl)
theorem mf_X12_dayGoes : sMf yX12_dayGoes cX12_dayGoes 5 none 0 := ⟨(sTm_9 (List.mem_of_getElem? (i := 29) rfl) rfl), (sTm_1 (List.mem_of_getElem? (i := 13) rfl) rfl), ⟨by decide +kernel, by decide +kernel⟩, by decide +kernel, by decide⟩
theorem mi_X12_dayGoes : Cond.instanceMethod yX12_dayGoes ∈ sTb ∧ Cond.selects yX12_dayGoes.cls yX12_dayGoes yX12_dayGoes ∈ sTb := ⟨(sTm_9 (List.mem_of_getElem? (i := 28) rfl) rfl), (sTs_9 (i := 7) rfl rfl)⟩
theorem tp_12_70 : sTy 12 70 = .boolean := by decide +kernel
theorem lm_X12_582 : sMl RX12 582 yX12_bits := Or.inl (sTm_8 (List.mem_of_getElem? (i := 97) rfl) rfl)
theorem mf_X12_bits : sMf yX12_bits cX12_bits 3 (some .int) 1 := ⟨(sTm_8 (List.mem_of_getElem? (i := 99) rfl) rfl), (sTm_1 (List.mem_of_getElem? (i := 13) rfl) rfl), ⟨by decide +kernel, by decide +kernel⟩, by decide +kernel, by decide⟩
theorem ms_X12_bits : Cond.static yX12_bits ∈ sTb := (sTm_8 (List.mem_of_getElem? (i := 98) rfl) rfl)
theorem kl_X12_585 : Cond.constantLong RX12 585 (3) ∈ sTb := (sTm_8 (List.mem_of_getElem? (i := 104) rfl) rfl)
theorem lm_X12_587 : sMl RX12 587 yX12_isGate := Or.inl (sTm_8 (List.mem_of_getElem? (i := 109) rfl) rfl)
theorem mf_X12_isGate : sMf yX12_isGate cX12_isGate 3 (some .boolean) 1 := ⟨(sTm_8 (List.mem_of_getElem? (i := 112) rfl) rfl), (sTm_1 (List.mem_of_getElem? (i := 13) rfl) rfl), ⟨by decide +kernel, by decide +kernel⟩, by decide +kernel, by decide⟩
theorem mi_X12_isGate : Cond.instanceMethod yX12_isGate ∈ sTb ∧ Cond.selects yX12_isGate.cls yX12_isGate yX12_isGate ∈ sTb := ⟨(sTm_8 (List.mem_of_getElem? (i := 111) rfl) rfl), (sTs_7 (i := 12) rfl rfl)⟩
theorem lm_X12_591 : sMl RX12 591 yX12_isEra := Or.inl (sTm_8 (List.mem_of_getElem? (i := 121) rfl) rfl)
theorem mf_X12_isEra : sMf yX12_isEra cX12_isEra 2 (some .boolean) 1 := ⟨(sTm_8 (List.mem_of_getElem? (i := 124) rfl) rfl), (sTm_1 (List.mem_of_getElem? (i := 13) rfl) rfl), ⟨by decide +kernel, by decide +kernel⟩, by decide +kernel, by decide⟩
theorem mi_X12_isEra : Cond.instanceMethod yX12_isEra ∈ sTb ∧ Cond.selects yX12_isEra.cls yX12_isEra yX12_isEra ∈ sTb := ⟨(sTm_8 (List.mem_of_getElem? (i := 123) rfl) rfl), (sTs_7 (i := 14) rfl rfl)⟩
theorem lm_X12_594 : sMl RX12 594 yX12_isCar := Or.inl (sTm_8 (List.mem_of_getElem? (i := 133) rfl) rfl)
theorem mf_X12_isCar : sMf yX12_isCar cX12_isCar 2 (some .boolean) 1 := ⟨(sTm_8 (List.mem_of_getElem? (i := 136) rfl) rfl), (sTm_1 (List.mem_of_getElem? (i := 13) rfl) rfl), ⟨by decide +kernel, by decide +kernel⟩, by decide +kernel, by decide⟩
theorem mi_X12_isCar : Cond.instanceMethod yX12_isCar ∈ sTb ∧ Cond.selects yX12_isCar.cls yX12_isCar yX12_isCar ∈ sTb := ⟨(sTm_8 (List.mem_of_getElem? (i := 135) rfl) rfl), (sTs_8 (i := 0) rfl rfl)⟩
theorem kl_X12_597 : Cond.constantLong RX12 597 (2) ∈ sTb := (sTm_8 (List.mem_of_getElem? (i := 157) rfl) rfl)
theorem kl_X12_599 : Cond.constantLong RX12 599 (199) ∈ sTb := (sTm_8 (List.mem_of_getElem? (i := 165) rfl) rfl)
theorem lm_X12_601 : sMl RX12 601 yX12_isMinute := Or.inl (sTm_8 (List.mem_of_getElem? (i := 162) rfl) rfl)
theorem mf_X12_isMinute : sMf yX12_isMinute cX12_isMinute 1 (some .boolean) 1 := ⟨(sTm_8 (List.mem_of_getElem? (i := 164) rfl) rfl), (sTm_1 (List.mem_of_getElem? (i := 13) rfl) rfl), ⟨by decide +kernel, by decide +kernel⟩, by decide +kernel, by decide⟩
theorem ms_X12_isMinute : Cond.static yX12_isMinute ∈ sTb := (sTm_8 (List.mem_of_getElem? (i := 163) rfl) rfl)
theorem lm_X12_604 : sMl RX12 604 yX12_isClosed := Or.inl (sTm_8 (List.mem_of_getElem? (i := 214) rfl) rfl)
theorem mf_X12_isClosed : sMf yX12_isClosed cX12_isClosed 3 (some .boolean) 2 := ⟨(sTm_8 (List.mem_of_getElem? (i := 217) rfl) rfl), (sTm_1 (List.mem_of_getElem? (i := 13) rfl) rfl), ⟨by decide +kernel, by decide +kernel⟩, by decide +kernel, by decide⟩
theorem mi_X12_isClosed : Cond.instanceMethod yX12_isClosed ∈ sTb ∧ Cond.selects yX12_isClosed.cls yX12_isClosed yX12_isClosed ∈ sTb := ⟨(sTm_8 (List.mem_of_getElem? (i := 216) rfl) rfl), (sTs_8 (i := 14) rfl rfl)⟩
theorem lm_X12_608 : sMl RX12 608 yX12_isPlace := Or.inl (sTm_8 (List.mem_of_getElem? (i := 226) rfl) rfl)
theorem mf_X12_isPlace : sMf yX12_isPlace cX12_isPlace 3 (some .boolean) 1 := ⟨(sTm_8 (List.mem_of_getElem? (i := 229) rfl) rfl), (sTm_1 (List.mem_of_getElem? (i := 13) rfl) rfl), ⟨by decide +kernel, by decide +kernel⟩, by decide +kernel, by decide⟩
theorem mi_X12_isPlace : Cond.instanceMethod yX12_isPlace ∈ sTb ∧ Cond.selects yX12_isPlace.cls yX12_isPlace yX12_isPlace ∈ sTb := ⟨(sTm_8 (List.mem_of_getElem? (i := 228) rfl) rfl), (sTs_8 (i := 15) rfl rfl)⟩
theorem lm_X12_611 : sMl RX12 611 yX12_isAhead := Or.inl (sTm_9 (List.mem_of_getElem? (i := 14) rfl) rfl)
theorem mf_X12_isAhead : sMf yX12_isAhead cX12_isAhead 4 (some .boolean) 3 := ⟨(sTm_9 (List.mem_of_getElem? (i := 17) rfl) rfl), (sTm_1 (List.mem_of_getElem? (i := 13) rfl) rfl), ⟨by decide +kernel, by decide +kernel⟩, by decide +kernel, by decide⟩
theorem mi_X12_isAhead : Cond.instanceMethod yX12_isAhead ∈ sTb ∧ Cond.selects yX12_isAhead.cls yX12_isAhead yX12_isAhead ∈ sTb := ⟨(sTm_9 (List.mem_of_getElem? (i := 16) rfl) rfl), (sTs_9 (i := 4) rfl rfl)⟩
theorem lm_X12_614 : sMl RX12 614 yX12_putsAside := Or.inl (sTm_9 (List.mem_of_getElem? (i := 18) rfl) rfl)
theorem mf_X12_putsAside : sMf yX12_putsAside cX12_putsAside 2 none 0 := ⟨(sTm_9 (List.mem_of_getElem? (i := 21) rfl) rfl), (sTm_1 (List.mem_of_getElem? (i := 13) rfl) rfl), ⟨by decide +kernel, by decide +kernel⟩, by decide +kernel, by decide⟩
theorem mi_X12_putsAside : Cond.instanceMethod yX12_putsAside ∈ sTb ∧ Cond.selects yX12_putsAside.cls yX12_putsAside yX12_putsAside ∈ sTb := ⟨(sTm_9 (List.mem_of_getElem? (i := 20) rfl) rfl), (sTs_9 (i := 5) rfl rfl)⟩
theorem lm_X12_617 : sMl RX12 617 yX12_daysGo := Or.inl (sTm_9 (List.mem_of_getElem? (i := 22) rfl) rfl)
theorem mf_X12_daysGo : sMf yX12_daysGo cX12_daysGo 3 none 1 := ⟨(sTm_9 (List.mem_of_getElem? (i := 25) rfl) rfl), (sTm_1 (List.mem_of_getElem? (i := 13) rfl) rfl), ⟨by decide +kernel, by decide +kernel⟩, by decide +kernel, by decide⟩
theorem mi_X12_daysGo : Cond.instanceMethod yX12_daysGo ∈ sTb ∧ Cond.selects yX12_daysGo.cls yX12_daysGo yX12_daysGo ∈ sTb := ⟨(sTm_9 (List.mem_of_getElem? (i := 24) rfl) rfl), (sTs_9 (i := 6) rfl rfl)⟩
theorem lm_X12_620 : sMl RX12 620 yX12_takesBack := Or.inl (sTm_9 (List.mem_of_getElem? (i := 41) rfl) rfl)
theorem mf_X12_takesBack : sMf yX12_takesBack cX12_takesBack 2 none 0 := ⟨(sTm_9 (List.mem_of_getElem? (i := 44) rfl) rfl), (sTm_1 (List.mem_of_getElem? (i := 13) rfl) rfl), ⟨by decide +kernel, by decide +kernel⟩, by decide +kernel, by decide⟩
theorem mi_X12_takesBack : Cond.instanceMethod yX12_takesBack ∈ sTb ∧ Cond.selects yX12_takesBack.cls yX12_takesBack yX12_takesBack ∈ sTb := ⟨(sTm_9 (List.mem_of_getElem? (i := 43) rfl) rfl), (sTs_9 (i := 10) rfl rfl)⟩
theorem tk_12_72 : skd (sTy 12 72) = 0 := by decide +kernel
theorem lf_X12_623 : sFl RX12 623 12 72 127 false := ⟨RX12, TX12, rfl, by decide, by decide, sIn_RX12, tyX12_ok, nmX12, (by decide +kernel), (by decide +kernel), Or.inl (sTm_6 (List.mem_of_getElem? (i := 35) rfl) rfl)⟩
theorem tp_12_72 : sTy 12 72 = .int := by decide +kernel
theorem lm_X12_626 : sMl RX12 626 yX12_laysClosings := Or.inl (sTm_9 (List.mem_of_getElem? (i := 61) rfl) rfl)
theorem mf_X12_laysClosings : sMf yX12_laysClosings cX12_laysClosings 5 none 2 := ⟨(sTm_9 (List.mem_of_getElem? (i := 64) rfl) rfl), (sTm_1 (List.mem_of_getElem? (i := 13) rfl) rfl), ⟨by decide +kernel, by decide +kernel⟩, by decide +kernel, by decide⟩
theorem mi_X12_laysClosings : Cond.instanceMethod yX12_laysClosings ∈ sTb ∧ Cond.selects yX12_laysClosings.cls yX12_laysClosings yX12_laysClosings ∈ sTb := ⟨(sTm_9 (List.mem_of_getElem? (i := 63) rfl) rfl), (sTs_9 (i := 11) rfl rfl)⟩
theorem lm_X12_629 : sMl RX12 629 yX12_canFollow := Or.inl (sTm_9 (List.mem_of_getElem? (i := 73) rfl) rfl)
theorem mf_X12_canFollow : sMf yX12_canFollow cX12_canFollow 4 (some .boolean) 2 := ⟨(sTm_9 (List.mem_of_getElem? (i := 76) rfl) rfl), (sTm_1 (List.mem_of_getElem? (i := 13) rfl) rfl), ⟨by decide +kernel, by decide +kernel⟩, by decide +kernel, by decide⟩
theorem mi_X12_canFollow : Cond.instanceMethod yX12_canFollow ∈ sTb ∧ Cond.selects yX12_canFollow.cls yX12_canFollow yX12_canFollow ∈ sTb := ⟨(sTm_9 (List.mem_of_getElem? (i := 75) rfl) rfl), (sTs_9 (i := 13) rfl rfl)⟩
theorem lm_X12_632 : sMl RX12 632 yX12_changes := Or.inl (sTm_9 (List.mem_of_getElem? (i := 77) rfl) rfl)
theorem mf_X12_changes : sMf yX12_changes cX12_changes 5 none 1 := ⟨(sTm_9 (List.mem_of_getElem? (i := 80) rfl) rfl), (sTm_1 (List.mem_of_getElem? (i := 13) rfl) rfl), ⟨by decide +kernel, by decide +kernel⟩, by decide +kernel, by decide⟩
theorem mi_X12_changes : Cond.instanceMethod yX12_changes ∈ sTb ∧ Cond.selects yX12_changes.cls yX12_changes yX12_changes ∈ sTb := ⟨(sTm_9 (List.mem_of_getElem? (i := 79) rfl) rfl), (sTs_9 (i := 14) rfl rfl)⟩
theorem lm_X12_635 : sMl RX12 635 yX12_isMatched := Or.inl (sTm_9 (List.mem_of_getElem? (i := 69) rfl) rfl)
theorem mf_X12_isMatched : sMf yX12_isMatched cX12_isMatched 6 (some .boolean) 1 := ⟨(sTm_9 (List.mem_of_getElem? (i := 72) rfl) rfl), (sTm_1 (List.mem_of_getElem? (i := 13) rfl) rfl), ⟨by decide +kernel, by decide +kernel⟩, by decide +kernel, by decide⟩
theorem mi_X12_isMatched : Cond.instanceMethod yX12_isMatched ∈ sTb ∧ Cond.selects yX12_isMatched.cls yX12_isMatched yX12_isMatched ∈ sTb := ⟨(sTm_9 (List.mem_of_getElem? (i := 71) rfl) rfl), (sTs_9 (i := 12) rfl rfl)⟩
theorem lm_X12_638 : sMl RX12 638 yX12_refuses := Or.inl (sTm_9 (List.mem_of_getElem? (i := 85) rfl) rfl)
theorem mf_X12_refuses : sMf yX12_refuses cX12_refuses 2 (some .int) 1 := ⟨(sTm_9 (List.mem_of_getElem? (i := 88) rfl) rfl), (sTm_1 (List.mem_of_getElem? (i := 13) rfl) rfl), ⟨by decide +kernel, by decide +kernel⟩, by decide +kernel, by decide⟩
theorem mi_X12_refuses : Cond.instanceMethod yX12_refuses ∈ sTb ∧ Cond.selects yX12_refuses.cls yX12_refuses yX12_refuses ∈ sTb := ⟨(sTm_9 (List.mem_of_getElem? (i := 87) rfl) rfl), (sTs_9 (i := 15) rfl rfl)⟩
theorem tk_12_83 : skd (sTy 12 83) = 0 := by decide +kernel
theorem lf_X12_641 : sFl RX12 641 12 83 127 false := ⟨RX12, TX12, rfl, by decide, by decide, sIn_RX12, tyX12_ok, nmX12, (by decide +kernel), (by decide +kernel), Or.inl (sTm_6 (List.mem_of_getElem? (i := 46) rfl) rfl)⟩
theorem tp_12_83 : sTy 12 83 = .int := by decide +kernel
theorem lm_X12_644 : sMl RX12 644 yX12_isClosedBy := Or.inl (sTm_9 (List.mem_of_getElem? (i := 97) rfl) rfl)
theorem mf_X12_isClosedBy : sMf yX12_isClosedBy cX12_isClosedBy 5 (some .boolean) 4 := ⟨(sTm_9 (List.mem_of_getElem? (i := 100) rfl) rfl), (sTm_1 (List.mem_of_getElem? (i := 13) rfl) rfl), ⟨by decide +kernel, by decide +kernel⟩, by decide +kernel, by decide⟩
theorem mi_X12_isClosedBy : Cond.instanceMethod yX12_isClosedBy ∈ sTb ∧ Cond.selects yX12_isClosedBy.cls yX12_isClosedBy yX12_isClosedBy ∈ sTb := ⟨(sTm_9 (List.mem_of_getElem? (i := 99) rfl) rfl), (sTs_10 (i := 1) rfl rfl)⟩
theorem lm_X12_647 : sMl RX12 647 yX12_laysFits := Or.inl (sTm_9 (List.mem_of_getElem? (i := 93) rfl) rfl)
theorem mf_X12_laysFits : sMf yX12_laysFits cX12_laysFits 5 none 1 := ⟨(sTm_9 (List.mem_of_getElem? (i := 96) rfl) rfl), (sTm_1 (List.mem_of_getElem? (i := 13) rfl) rfl), ⟨by decide +kernel, by decide +kernel⟩, by decide +kernel, by decide⟩
theorem mi_X12_laysFits : Cond.instanceMethod yX12_laysFits ∈ sTb ∧ Cond.selects yX12_laysFits.cls yX12_laysFits yX12_laysFits ∈ sTb := ⟨(sTm_9 (List.mem_of_getElem? (i := 95) rfl) rfl), (sTs_10 (i := 0) rfl rfl)⟩
theorem lm_X12_650 : sMl RX12 650 yX12_mostAlike := Or.inl (sTm_9 (List.mem_of_getElem? (i := 105) rfl) rfl)
theorem mf_X12_mostAlike : sMf yX12_mostAlike cX12_mostAlike 6 (some .int) 3 := ⟨(sTm_9 (List.mem_of_getElem? (i := 108) rfl) rfl), (sTm_1 (List.mem_of_getElem? (i := 13) rfl) rfl), ⟨by decide +kernel, by decide +kernel⟩, by decide +kernel, by decide⟩
theorem mi_X12_mostAlike : Cond.instanceMethod yX12_mostAlike ∈ sTb ∧ Cond.selects yX12_mostAlike.cls yX12_mostAlike yX12_mostAlike ∈ sTb := ⟨(sTm_9 (List.mem_of_getElem? (i := 107) rfl) rfl), (sTs_10 (i := 2) rfl rfl)⟩
theorem tk_12_86 : skd (sTy 12 86) = 0 := by decide +kernel
theorem lf_X12_653 : sFl RX12 653 12 86 127 false := ⟨RX12, TX12, rfl, by decide, by decide, sIn_RX12, tyX12_ok, nmX12, (by decide +kernel), (by decide +kernel), Or.inl (sTm_6 (List.mem_of_getElem? (i := 49) rfl) rfl)⟩
theorem tp_12_86 : sTy 12 86 = .int := by decide +kernel
theorem lm_X12_656 : sMl RX12 656 yX12_isRefused := Or.inl (sTm_9 (List.mem_of_getElem? (i := 117) rfl) rfl)
theorem mf_X12_isRefused : sMf yX12_isRefused cX12_isRefused 1 (some .boolean) 0 := ⟨(sTm_9 (List.mem_of_getElem? (i := 120) rfl) rfl), (sTm_1 (List.mem_of_getElem? (i := 13) rfl) rfl), ⟨by decide +kernel, by decide +kernel⟩, by decide +kernel, by decide⟩
theorem mi_X12_isRefused : Cond.instanceMethod yX12_isRefused ∈ sTb ∧ Cond.selects yX12_isRefused.cls yX12_isRefused yX12_isRefused ∈ sTb := ⟨(sTm_9 (List.mem_of_getElem? (i := 119) rfl) rfl), (sTs_10 (i := 3) rfl rfl)⟩
theorem lm_X12_659 : sMl RX12 659 yX12_keeps := Or.inl (sTm_9 (List.mem_of_getElem? (i := 121) rfl) rfl)
theorem mf_X12_keeps : sMf yX12_keeps cX12_keeps 2 none 0 := ⟨(sTm_9 (List.mem_of_getElem? (i := 124) rfl) rfl), (sTm_1 (List.mem_of_getElem? (i := 13) rfl) rfl), ⟨by decide +kernel, by decide +kernel⟩, by decide +kernel, by decide⟩
theorem mi_X12_keeps : Cond.instanceMethod yX12_keeps ∈ sTb ∧ Cond.selects yX12_keeps.cls yX12_keeps yX12_keeps ∈ sTb := ⟨(sTm_9 (List.mem_of_getElem? (i := 123) rfl) rfl), (sTs_10 (i := 4) rfl rfl)⟩
theorem kl_X12_662 : Cond.constantLong RX12 662 (99) ∈ sTb := (sTm_9 (List.mem_of_getElem? (i := 129) rfl) rfl)
theorem kl_X12_664 : Cond.constantLong RX12 664 (1103515245) ∈ sTb := (sTm_9 (List.mem_of_getElem? (i := 150) rfl) rfl)
theorem kl_X12_666 : Cond.constantLong RX12 666 (12345) ∈ sTb := (sTm_9 (List.mem_of_getElem? (i := 151) rfl) rfl)
theorem kl_X12_668 : Cond.constantLong RX12 668 (2147483648) ∈ sTb := (sTm_9 (List.mem_of_getElem? (i := 152) rfl) rfl)
theorem kl_X12_670 : Cond.constantLong RX12 670 (64) ∈ sTb := (sTm_9 (List.mem_of_getElem? (i := 153) rfl) rfl)
theorem lm_X12_672 : sMl RX12 672 yX12_drawOf := Or.inl (sTm_9 (List.mem_of_getElem? (i := 146) rfl) rfl)
theorem mf_X12_drawOf : sMf yX12_drawOf cX12_drawOf 2 (some .int) 1 := ⟨(sTm_9 (List.mem_of_getElem? (i := 149) rfl) rfl), (sTm_1 (List.mem_of_getElem? (i := 13) rfl) rfl), ⟨by decide +kernel, by decide +kernel⟩, by decide +kernel, by decide⟩
theorem mi_X12_drawOf : Cond.instanceMethod yX12_drawOf ∈ sTb ∧ Cond.selects yX12_drawOf.cls yX12_drawOf yX12_drawOf ∈ sTb := ⟨(sTm_9 (List.mem_of_getElem? (i := 148) rfl) rfl), (sTs_10 (i := 5) rfl rfl)⟩
theorem lm_X12_675 : sMl RX12 675 yX12_qCode := Or.inl (sTm_7 (List.mem_of_getElem? (i := 226) rfl) rfl)
theorem mf_X12_qCode : sMf yX12_qCode cX12_qCode 2 none 1 := ⟨(sTm_7 (List.mem_of_getElem? (i := 229) rfl) rfl), (sTm_1 (List.mem_of_getElem? (i := 13) rfl) rfl), ⟨by decide +kernel, by decide +kernel⟩, by decide +kernel, by decide⟩
theorem mi_X12_qCode : Cond.instanceMethod yX12_qCode ∈ sTb ∧ Cond.selects yX12_qCode.cls yX12_qCode yX12_qCode ∈ sTb := ⟨(sTm_7 (List.mem_of_getElem? (i := 228) rfl) rfl), (sTs_6 (i := 4) rfl rfl)⟩
theorem lm_X12_678 : sMl RX12 678 yX12_qIsBracket := Or.inl (sTm_8 (List.mem_of_getElem? (i := 34) rfl) rfl)
theorem mf_X12_qIsBracket : sMf yX12_qIsBracket cX12_qIsBracket 1 (some .boolean) 1 := ⟨(sTm_8 (List.mem_of_getElem? (i := 36) rfl) rfl), (sTm_1 (List.mem_of_getElem? (i := 13) rfl) rfl), ⟨by decide +kernel, by decide +kernel⟩, by decide +kernel, by decide⟩
theorem ms_X12_qIsBracket : Cond.static yX12_qIsBracket ∈ sTb := (sTm_8 (List.mem_of_getElem? (i := 35) rfl) rfl)
theorem lm_X12_681 : sMl RX12 681 yX12_qDrops := Or.inl (sTm_8 (List.mem_of_getElem? (i := 22) rfl) rfl)
theorem mf_X12_qDrops : sMf yX12_qDrops cX12_qDrops 1 none 0 := ⟨(sTm_8 (List.mem_of_getElem? (i := 25) rfl) rfl), (sTm_1 (List.mem_of_getElem? (i := 13) rfl) rfl), ⟨by decide +kernel, by decide +kernel⟩, by decide +kernel, by decide⟩
theorem mi_X12_qDrops : Cond.instanceMethod yX12_qDrops ∈ sTb ∧ Cond.selects yX12_qDrops.cls yX12_qDrops yX12_qDrops ∈ sTb := ⟨(sTm_8 (List.mem_of_getElem? (i := 24) rfl) rfl), (sTs_6 (i := 12) rfl rfl)⟩
theorem lm_X12_684 : sMl RX12 684 yX12_qWordHere := Or.inl (sTm_8 (List.mem_of_getElem? (i := 2) rfl) rfl)
theorem mf_X12_qWordHere : sMf yX12_qWordHere cX12_qWordHere 1 (some .int) 0 := ⟨(sTm_8 (List.mem_of_getElem? (i := 5) rfl) rfl), (sTm_1 (List.mem_of_getElem? (i := 13) rfl) rfl), ⟨by decide +kernel, by decide +kernel⟩, by decide +kernel, by decide⟩
theorem mi_X12_qWordHere : Cond.instanceMethod yX12_qWordHere ∈ sTb ∧ Cond.selects yX12_qWordHere.cls yX12_qWordHere yX12_qWordHere ∈ sTb := ⟨(sTm_8 (List.mem_of_getElem? (i := 4) rfl) rfl), (sTs_6 (i := 8) rfl rfl)⟩
theorem lm_X12_687 : sMl RX12 687 yX12_isAllowed := Or.inl (sTm_8 (List.mem_of_getElem? (i := 6) rfl) rfl)
theorem mf_X12_isAllowed : sMf yX12_isAllowed cX12_isAllowed 2 (some .boolean) 1 := ⟨(sTm_8 (List.mem_of_getElem? (i := 9) rfl) rfl), (sTm_1 (List.mem_of_getElem? (i := 13) rfl) rfl), ⟨by decide +kernel, by decide +kernel⟩, by decide +kernel, by decide⟩
theorem mi_X12_isAllowed : Cond.instanceMethod yX12_isAllowed ∈ sTb ∧ Cond.selects yX12_isAllowed.cls yX12_isAllowed yX12_isAllowed ∈ sTb := ⟨(sTm_8 (List.mem_of_getElem? (i := 8) rfl) rfl), (sTs_6 (i := 9) rfl rfl)⟩
theorem lm_X12_690 : sMl RX12 690 yX12_qWordOf := Or.inl (sTm_7 (List.mem_of_getElem? (i := 238) rfl) rfl)
theorem mf_X12_qWordOf : sMf yX12_qWordOf cX12_qWordOf 4 (some .int) 2 := ⟨(sTm_8 (List.mem_of_getElem? (i := 1) rfl) rfl), (sTm_1 (List.mem_of_getElem? (i := 13) rfl) rfl), ⟨by decide +kernel, by decide +kernel⟩, by decide +kernel, by decide⟩
theorem mi_X12_qWordOf : Cond.instanceMethod yX12_qWordOf ∈ sTb ∧ Cond.selects yX12_qWordOf.cls yX12_qWordOf yX12_qWordOf ∈ sTb := ⟨(sTm_8 (List.mem_of_getElem? (i := 0) rfl) rfl), (sTs_6 (i := 7) rfl rfl)⟩
theorem lm_X12_693 : sMl RX12 693 yX12_qOpens := Or.inl (sTm_7 (List.mem_of_getElem? (i := 218) rfl) rfl)
theorem mf_X12_qOpens : sMf yX12_qOpens cX12_qOpens 3 none 2 := ⟨(sTm_7 (List.mem_of_getElem? (i := 221) rfl) rfl), (sTm_1 (List.mem_of_getElem? (i := 13) rfl) rfl), ⟨by decide +kernel, by decide +kernel⟩, by decide +kernel, by decide⟩
theorem mi_X12_qOpens : Cond.instanceMethod yX12_qOpens ∈ sTb ∧ Cond.selects yX12_qOpens.cls yX12_qOpens yX12_qOpens ∈ sTb := ⟨(sTm_7 (List.mem_of_getElem? (i := 220) rfl) rfl), (sTs_6 (i := 2) rfl rfl)⟩
theorem lm_X12_696 : sMl RX12 696 yX12_qAsksWord := Or.inl (sTm_8 (List.mem_of_getElem? (i := 14) rfl) rfl)
theorem mf_X12_qAsksWord : sMf yX12_qAsksWord cX12_qAsksWord 2 none 1 := ⟨(sTm_8 (List.mem_of_getElem? (i := 17) rfl) rfl), (sTm_1 (List.mem_of_getElem? (i := 13) rfl) rfl), ⟨by decide +kernel, by decide +kernel⟩, by decide +kernel, by decide⟩
theorem mi_X12_qAsksWord : Cond.instanceMethod yX12_qAsksWord ∈ sTb ∧ Cond.selects yX12_qAsksWord.cls yX12_qAsksWord yX12_qAsksWord ∈ sTb := ⟨(sTm_8 (List.mem_of_getElem? (i := 16) rfl) rfl), (sTs_6 (i := 10) rfl rfl)⟩
theorem lm_X12_699 : sMl RX12 699 yX12_qEndsPart := Or.inl (sTm_8 (List.mem_of_getElem? (i := 18) rfl) rfl)
theorem mf_X12_qEndsPart : sMf yX12_qEndsPart cX12_qEndsPart 1 none 0 := ⟨(sTm_8 (List.mem_of_getElem? (i := 21) rfl) rfl), (sTm_1 (List.mem_of_getElem? (i := 13) rfl) rfl), ⟨by decide +kernel, by decide +kernel⟩, by decide +kernel, by decide⟩
theorem mi_X12_qEndsPart : Cond.instanceMethod yX12_qEndsPart ∈ sTb ∧ Cond.selects yX12_qEndsPart.cls yX12_qEndsPart yX12_qEndsPart ∈ sTb := ⟨(sTm_8 (List.mem_of_getElem? (i := 20) rfl) rfl), (sTs_6 (i := 11) rfl rfl)⟩
theorem lm_X12_702 : sMl RX12 702 yX12_qBracket := Or.inl (sTm_8 (List.mem_of_getElem? (i := 30) rfl) rfl)
theorem mf_X12_qBracket : sMf yX12_qBracket cX12_qBracket 2 (some .int) 0 := ⟨(sTm_8 (List.mem_of_getElem? (i := 33) rfl) rfl), (sTm_1 (List.mem_of_getElem? (i := 13) rfl) rfl), ⟨by decide +kernel, by decide +kernel⟩, by decide +kernel, by decide⟩
theorem mi_X12_qBracket : Cond.instanceMethod yX12_qBracket ∈ sTb ∧ Cond.selects yX12_qBracket.cls yX12_qBracket yX12_qBracket ∈ sTb := ⟨(sTm_8 (List.mem_of_getElem? (i := 32) rfl) rfl), (sTs_6 (i := 14) rfl rfl)⟩
theorem lm_X12_705 : sMl RX12 705 yX12_qDropsToBracket := Or.inl (sTm_8 (List.mem_of_getElem? (i := 37) rfl) rfl)
theorem mf_X12_qDropsToBracket : sMf yX12_qDropsToBracket cX12_qDropsToBracket 1 none 0 := ⟨(sTm_8 (List.mem_of_getElem? (i := 40) rfl) rfl), (sTm_1 (List.mem_of_getElem? (i := 13) rfl) rfl), ⟨by decide +kernel, by decide +kernel⟩, by decide +kernel, by decide⟩
theorem mi_X12_qDropsToBracket : Cond.instanceMethod yX12_qDropsToBracket ∈ sTb ∧ Cond.selects yX12_qDropsToBracket.cls yX12_qDropsToBracket yX12_qDropsToBracket ∈ sTb := ⟨(sTm_8 (List.mem_of_getElem? (i := 39) rfl) rfl), (sTs_6 (i := 15) rfl rfl)⟩
theorem lm_X12_708 : sMl RX12 708 yX12_qIsOn := Or.inl (sTm_8 (List.mem_of_getElem? (i := 41) rfl) rfl)
theorem mf_X12_qIsOn : sMf yX12_qIsOn cX12_qIsOn 2 (some .boolean) 1 := ⟨(sTm_8 (List.mem_of_getElem? (i := 44) rfl) rfl), (sTm_1 (List.mem_of_getElem? (i := 13) rfl) rfl), ⟨by decide +kernel, by decide +kernel⟩, by decide +kernel, by decide⟩
theorem mi_X12_qIsOn : Cond.instanceMethod yX12_qIsOn ∈ sTb ∧ Cond.selects yX12_qIsOn.cls yX12_qIsOn yX12_qIsOn ∈ sTb := ⟨(sTm_8 (List.mem_of_getElem? (i := 43) rfl) rfl), (sTs_7 (i := 0) rfl rfl)⟩
theorem lm_X12_711 : sMl RX12 711 yX12_qPartTold := Or.inl (sTm_7 (List.mem_of_getElem? (i := 234) rfl) rfl)
theorem mf_X12_qPartTold : sMf yX12_qPartTold cX12_qPartTold 6 none 0 := ⟨(sTm_7 (List.mem_of_getElem? (i := 237) rfl) rfl), (sTm_1 (List.mem_of_getElem? (i := 13) rfl) rfl), ⟨by decide +kernel, by decide +kernel⟩, by decide +kernel, by decide⟩
theorem mi_X12_qPartTold : Cond.instanceMethod yX12_qPartTold ∈ sTb ∧ Cond.selects yX12_qPartTold.cls yX12_qPartTold yX12_qPartTold ∈ sTb := ⟨(sTm_7 (List.mem_of_getElem? (i := 236) rfl) rfl), (sTs_6 (i := 6) rfl rfl)⟩
theorem lm_X12_714 : sMl RX12 714 yX12_qGoesOn := Or.inl (sTm_8 (List.mem_of_getElem? (i := 26) rfl) rfl)
theorem mf_X12_qGoesOn : sMf yX12_qGoesOn cX12_qGoesOn 2 (some .boolean) 0 := ⟨(sTm_8 (List.mem_of_getElem? (i := 29) rfl) rfl), (sTm_1 (List.mem_of_getElem? (i := 13) rfl) rfl), ⟨by decide +kernel, by decide +kernel⟩, by decide +kernel, by decide⟩
theorem mi_X12_qGoesOn : Cond.instanceMethod yX12_qGoesOn ∈ sTb ∧ Cond.selects yX12_qGoesOn.cls yX12_qGoesOn yX12_qGoesOn ∈ sTb := ⟨(sTm_8 (List.mem_of_getElem? (i := 28) rfl) rfl), (sTs_6 (i := 13) rfl rfl)⟩
theorem lm_X12_717 : sMl RX12 717 yX12_qFact := Or.inl (sTm_7 (List.mem_of_getElem? (i := 222) rfl) rfl)
theorem mf_X12_qFact : sMf yX12_qFact cX12_qFact 2 none 0 := ⟨(sTm_7 (List.mem_of_getElem? (i := 225) rfl) rfl), (sTm_1 (List.mem_of_getElem? (i := 13) rfl) rfl), ⟨by decide +kernel, by decide +kernel⟩, by decide +kernel, by decide⟩
theorem mi_X12_qFact : Cond.instanceMethod yX12_qFact ∈ sTb ∧ Cond.selects yX12_qFact.cls yX12_qFact yX12_qFact ∈ sTb := ⟨(sTm_7 (List.mem_of_getElem? (i := 224) rfl) rfl), (sTs_6 (i := 3) rfl rfl)⟩
theorem lm_X12_720 : sMl RX12 720 yX12_qDropsNots := Or.inl (sTm_8 (List.mem_of_getElem? (i := 45) rfl) rfl)
theorem mf_X12_qDropsNots : sMf yX12_qDropsNots cX12_qDropsNots 1 none 0 := ⟨(sTm_8 (List.mem_of_getElem? (i := 48) rfl) rfl), (sTm_1 (List.mem_of_getElem? (i := 13) rfl) rfl), ⟨by decide +kernel, by decide +kernel⟩, by decide +kernel, by decide⟩
theorem mi_X12_qDropsNots : Cond.instanceMethod yX12_qDropsNots ∈ sTb ∧ Cond.selects yX12_qDropsNots.cls yX12_qDropsNots yX12_qDropsNots ∈ sTb := ⟨(sTm_8 (List.mem_of_getElem? (i := 47) rfl) rfl), (sTs_7 (i := 1) rfl rfl)⟩
theorem lm_X12_723 : sMl RX12 723 yX12_qGoesOnTest := Or.inl (sTm_8 (List.mem_of_getElem? (i := 49) rfl) rfl)
theorem mf_X12_qGoesOnTest : sMf yX12_qGoesOnTest cX12_qGoesOnTest 1 (some .boolean) 0 := ⟨(sTm_8 (List.mem_of_getElem? (i := 52) rfl) rfl), (sTm_1 (List.mem_of_getElem? (i := 13) rfl) rfl), ⟨by decide +kernel, by decide +kernel⟩, by decide +kernel, by decide⟩
theorem mi_X12_qGoesOnTest : Cond.instanceMethod yX12_qGoesOnTest ∈ sTb ∧ Cond.selects yX12_qGoesOnTest.cls yX12_qGoesOnTest yX12_qGoesOnTest ∈ sTb := ⟨(sTm_8 (List.mem_of_getElem? (i := 51) rfl) rfl), (sTs_7 (i := 2) rfl rfl)⟩
theorem lm_X12_726 : sMl RX12 726 yX12_qHasSquare := Or.inl (sTm_8 (List.mem_of_getElem? (i := 53) rfl) rfl)
theorem mf_X12_qHasSquare : sMf yX12_qHasSquare cX12_qHasSquare 2 (some .boolean) 0 := ⟨(sTm_8 (List.mem_of_getElem? (i := 56) rfl) rfl), (sTm_1 (List.mem_of_getElem? (i := 13) rfl) rfl), ⟨by decide +kernel, by decide +kernel⟩, by decide +kernel, by decide⟩
theorem mi_X12_qHasSquare : Cond.instanceMethod yX12_qHasSquare ∈ sTb ∧ Cond.selects yX12_qHasSquare.cls yX12_qHasSquare yX12_qHasSquare ∈ sTb := ⟨(sTm_8 (List.mem_of_getElem? (i := 55) rfl) rfl), (sTs_7 (i := 3) rfl rfl)⟩
theorem kl_X12_729 : Cond.constantLong RX12 729 (1000000) ∈ sTb := (sTm_8 (List.mem_of_getElem? (i := 209) rfl) rfl)
theorem kl_X12_731 : Cond.constantLong RX12 731 (-1000000) ∈ sTb := (sTm_8 (List.mem_of_getElem? (i := 210) rfl) rfl)
theorem lm_X12_733 : sMl RX12 733 yX12_qClip := Or.inl (sTm_8 (List.mem_of_getElem? (i := 206) rfl) rfl)
theorem mf_X12_qClip : sMf yX12_qClip cX12_qClip 2 (some .long) 1 := ⟨(sTm_8 (List.mem_of_getElem? (i := 208) rfl) rfl), (sTm_1 (List.mem_of_getElem? (i := 13) rfl) rfl), ⟨by decide +kernel, by decide +kernel⟩, by decide +kernel, by decide⟩
theorem ms_X12_qClip : Cond.static yX12_qClip ∈ sTb := (sTm_8 (List.mem_of_getElem? (i := 207) rfl) rfl)
theorem lm_X12_737 : sMl RX12 737 yX12_qFloor := Or.inl (sTm_8 (List.mem_of_getElem? (i := 211) rfl) rfl)
theorem mf_X12_qFloor : sMf yX12_qFloor cX12_qFloor 6 (some .long) 2 := ⟨(sTm_8 (List.mem_of_getElem? (i := 213) rfl) rfl), (sTm_1 (List.mem_of_getElem? (i := 13) rfl) rfl), ⟨by decide +kernel, by decide +kernel⟩, by decide +kernel, by decide⟩
theorem ms_X12_qFloor : Cond.static yX12_qFloor ∈ sTb := (sTm_8 (List.mem_of_getElem? (i := 212) rfl) rfl)
theorem kl_X12_741 : Cond.constantLong RX12 741 (-1) ∈ sTb := (sTm_9 (List.mem_of_getElem? (i := 163) rfl) rfl)
theorem lm_X12_743 : sMl RX12 743 yX12_qOf := Or.inl (sTm_9 (List.mem_of_getElem? (i := 168) rfl) rfl)
theorem mf_X12_qOf : sMf yX12_qOf cX12_qOf 5 (some .long) 3 := ⟨(sTm_9 (List.mem_of_getElem? (i := 171) rfl) rfl), (sTm_1 (List.mem_of_getElem? (i := 13) rfl) rfl), ⟨by decide +kernel, by decide +kernel⟩, by decide +kernel, by decide⟩
theorem mi_X12_qOf : Cond.instanceMethod yX12_qOf ∈ sTb ∧ Cond.selects yX12_qOf.cls yX12_qOf yX12_qOf ∈ sTb := ⟨(sTm_9 (List.mem_of_getElem? (i := 170) rfl) rfl), (sTs_10 (i := 8) rfl rfl)⟩
theorem tk_12_123 : skd (sTy 12 123) = 1 := by decide +kernel
theorem lf_X12_747 : sFl RX12 747 12 123 127 false := ⟨RX12, TX12, rfl, by decide, by decide, sIn_RX12, tyX12_ok, nmX12, (by decide +kernel), (by decide +kernel), Or.inl (sTm_6 (List.mem_of_getElem? (i := 86) rfl) rfl)⟩
theorem tp_12_123 : sTy 12 123 = .long := by decide +kernel
theorem tk_12_124 : skd (sTy 12 124) = 0 := by decide +kernel
theorem lf_X12_750 : sFl RX12 750 12 124 127 false := ⟨RX12, TX12, rfl, by decide, by decide, sIn_RX12, tyX12_ok, nmX12, (by decide +kernel), (by decide +kernel), Or.inl (sTm_6 (List.mem_of_getElem? (i := 87) rfl) rfl)⟩
theorem tp_12_124 : sTy 12 124 = .boolean := by decide +kernel
theorem kl_X12_753 : Cond.constantLong RX12 753 (-1000000000000000) ∈ sTb := (sTm_9 (List.mem_of_getElem? (i := 158) rfl) rfl)
theorem lm_X12_755 : sMl RX12 755 yX12_qKind := Or.inl (sTm_9 (List.mem_of_getElem? (i := 159) rfl) rfl)
theorem mf_X12_qKind : sMf yX12_qKind cX12_qKind 2 (some .int) 0 := ⟨(sTm_9 (List.mem_of_getElem? (i := 162) rfl) rfl), (sTm_1 (List.mem_of_getElem? (i := 13) rfl) rfl), ⟨by decide +kernel, by decide +kernel⟩, by decide +kernel, by decide⟩
theorem mi_X12_qKind : Cond.instanceMethod yX12_qKind ∈ sTb ∧ Cond.selects yX12_qKind.cls yX12_qKind yX12_qKind ∈ sTb := ⟨(sTm_9 (List.mem_of_getElem? (i := 161) rfl) rfl), (sTs_10 (i := 6) rfl rfl)⟩
theorem lm_X12_758 : sMl RX12 758 yX12_qTold := Or.inl (sTm_9 (List.mem_of_getElem? (i := 164) rfl) rfl)
theorem mf_X12_qTold : sMf yX12_qTold cX12_qTold 4 (some .long) 1 := ⟨(sTm_9 (List.mem_of_getElem? (i := 167) rfl) rfl), (sTm_1 (List.mem_of_getElem? (i := 13) rfl) rfl), ⟨by decide +kernel, by decide +kernel⟩, by decide +kernel, by decide⟩
theorem mi_X12_qTold : Cond.instanceMethod yX12_qTold ∈ sTb ∧ Cond.selects yX12_qTold.cls yX12_qTold yX12_qTold ∈ sTb := ⟨(sTm_9 (List.mem_of_getElem? (i := 166) rfl) rfl), (sTs_10 (i := 7) rfl rfl)⟩
theorem lm_X12_762 : sMl RX12 762 yX12_qTakes := Or.inl (sTm_9 (List.mem_of_getElem? (i := 172) rfl) rfl)
theorem mf_X12_qTakes : sMf yX12_qTakes cX12_qTakes 6 none 3 := ⟨(sTm_9 (List.mem_of_getElem? (i := 175) rfl) rfl), (sTm_1 (List.mem_of_getElem? (i := 13) rfl) rfl), ⟨by decide +kernel, by decide +kernel⟩, by decide +kernel, by decide⟩
theorem mi_X12_qTakes : Cond.instanceMethod yX12_qTakes ∈ sTb ∧ Cond.selects yX12_qTakes.cls yX12_qTakes yX12_qTakes ∈ sTb := ⟨(sTm_9 (List.mem_of_getElem? (i := 174) rfl) rfl), (sTs_10 (i := 9) rfl rfl)⟩
theorem tk_12_126 : skd (sTy 12 126) = 0 := by decide +kernel
theorem lf_X12_766 : sFl RX12 766 12 126 127 false := ⟨RX12, TX12, rfl, by decide, by decide, sIn_RX12, tyX12_ok, nmX12, (by decide +kernel), (by decide +kernel), Or.inl (sTm_6 (List.mem_of_getElem? (i := 89) rfl) rfl)⟩
theorem tp_12_126 : sTy 12 126 = .int := by decide +kernel
theorem lm_X12_769 : sMl RX12 769 yX12_writes := Or.inl (sTm_9 (List.mem_of_getElem? (i := 184) rfl) rfl)
theorem mf_X12_writes : sMf yX12_writes cX12_writes 2 none 1 := ⟨(sTm_9 (List.mem_of_getElem? (i := 187) rfl) rfl), (sTm_1 (List.mem_of_getElem? (i := 13) rfl) rfl), ⟨by decide +kernel, by decide +kernel⟩, by decide +kernel, by decide⟩
theorem mi_X12_writes : Cond.instanceMethod yX12_writes ∈ sTb ∧ Cond.selects yX12_writes.cls yX12_writes yX12_writes ∈ sTb := ⟨(sTm_9 (List.mem_of_getElem? (i := 186) rfl) rfl), (sTs_10 (i := 11) rfl rfl)⟩
theorem lm_X12_772 : sMl RX12 772 yX12_writesTwo := Or.inl (sTm_9 (List.mem_of_getElem? (i := 180) rfl) rfl)
theorem mf_X12_writesTwo : sMf yX12_writesTwo cX12_writesTwo 2 none 1 := ⟨(sTm_9 (List.mem_of_getElem? (i := 183) rfl) rfl), (sTm_1 (List.mem_of_getElem? (i := 13) rfl) rfl), ⟨by decide +kernel, by decide +kernel⟩, by decide +kernel, by decide⟩
theorem mi_X12_writesTwo : Cond.instanceMethod yX12_writesTwo ∈ sTb ∧ Cond.selects yX12_writesTwo.cls yX12_writesTwo yX12_writesTwo ∈ sTb := ⟨(sTm_9 (List.mem_of_getElem? (i := 182) rfl) rfl), (sTs_10 (i := 10) rfl rfl)⟩
theorem lm_X12_775 : sMl RX12 775 yX12_checked := Or.inl (sTm_9 (List.mem_of_getElem? (i := 188) rfl) rfl)
theorem mf_X12_checked : sMf yX12_checked cX12_checked 4 (some .int) 2 := ⟨(sTm_9 (List.mem_of_getElem? (i := 190) rfl) rfl), (sTm_1 (List.mem_of_getElem? (i := 13) rfl) rfl), ⟨by decide +kernel, by decide +kernel⟩, by decide +kernel, by decide⟩
theorem ms_X12_checked : Cond.static yX12_checked ∈ sTb := (sTm_9 (List.mem_of_getElem? (i := 189) rfl) rfl)
theorem lm_X12_779 : sMl RX12 779 yX12_twoAt := Or.inl (sTm_9 (List.mem_of_getElem? (i := 203) rfl) rfl)
theorem mf_X12_twoAt : sMf yX12_twoAt cX12_twoAt 2 (some .int) 1 := ⟨(sTm_9 (List.mem_of_getElem? (i := 206) rfl) rfl), (sTm_1 (List.mem_of_getElem? (i := 13) rfl) rfl), ⟨by decide +kernel, by decide +kernel⟩, by decide +kernel, by decide⟩
theorem mi_X12_twoAt : Cond.instanceMethod yX12_twoAt ∈ sTb ∧ Cond.selects yX12_twoAt.cls yX12_twoAt yX12_twoAt ∈ sTb := ⟨(sTm_9 (List.mem_of_getElem? (i := 205) rfl) rfl), (sTs_10 (i := 13) rfl rfl)⟩
theorem lm_X12_782 : sMl RX12 782 yX12_isImage := Or.inl (sTm_9 (List.mem_of_getElem? (i := 199) rfl) rfl)
theorem mf_X12_isImage : sMf yX12_isImage cX12_isImage 5 (some .boolean) 1 := ⟨(sTm_9 (List.mem_of_getElem? (i := 202) rfl) rfl), (sTm_1 (List.mem_of_getElem? (i := 13) rfl) rfl), ⟨by decide +kernel, by decide +kernel⟩, by decide +kernel, by decide⟩
theorem mi_X12_isImage : Cond.instanceMethod yX12_isImage ∈ sTb ∧ Cond.selects yX12_isImage.cls yX12_isImage yX12_isImage ∈ sTb := ⟨(sTm_9 (List.mem_of_getElem? (i := 201) rfl) rfl), (sTs_10 (i := 12) rfl rfl)⟩
theorem kc_J6_264 : Cond.constant RJ6 264 (65536) ∈ sTb := (sTm_5 (List.mem_of_getElem? (i := 84) rfl) rfl)
theorem kc_J6_265 : Cond.constant RJ6 265 (1431655765) ∈ sTb := (sTm_4 (List.mem_of_getElem? (i := 26) rfl) rfl)
theorem kc_J6_266 : Cond.constant RJ6 266 (858993459) ∈ sTb := (sTm_4 (List.mem_of_getElem? (i := 27) rfl) rfl)
theorem kc_J6_267 : Cond.constant RJ6 267 (252645135) ∈ sTb := (sTm_4 (List.mem_of_getElem? (i := 28) rfl) rfl)
theorem lm_J13_311 : sMl RJ13 311 yJ6_numberOfTrailingZeros_0f7a4 := Or.inl (sTm_5 (List.mem_of_getElem? (i := 81) rfl) rfl)
theorem mf_J6_numberOfTrailingZeros_0f7a4 : sMf yJ6_numberOfTrailingZeros_0f7a4 cJ6_numberOfTrailingZeros_0f7a4 2 (some .int) 1 := ⟨(sTm_5 (List.mem_of_getElem? (i := 83) rfl) rfl), (sTm_1 (List.mem_of_getElem? (i := 22) rfl) rfl), ⟨by decide +kernel, by decide +kernel⟩, by decide +kernel, by decide⟩
theorem ms_J6_numberOfTrailingZeros_0f7a4 : Cond.static yJ6_numberOfTrailingZeros_0f7a4 ∈ sTb := (sTm_5 (List.mem_of_getElem? (i := 82) rfl) rfl)
theorem lm_J7_304 : sMl RJ7 304 yJ9_min_7cf53 := Or.inl (sTm_3 (List.mem_of_getElem? (i := 136) rfl) rfl)
theorem la_J7_150 : Cond.methodLink RJ7 150 arraycopyName ∈ sTb := (sTm_3 (List.mem_of_getElem? (i := 139) rfl) rfl)
theorem cw_L_7 : sCw RL 7 11 20 := ⟨RX11, TX11, rfl, by decide, sIn_RX11, tyX11_ok, (sTm_1 (List.mem_of_getElem? (i := 24) rfl) rfl), (sTm_1 (List.mem_of_getElem? (i := 25) rfl) rfl), (sTm_1 (List.mem_of_getElem? (i := 1) rfl) rfl), by decide +kernel⟩
theorem lm_L_9 : sMl RL 9 yX11_init := Or.inl (sTm_1 (List.mem_of_getElem? (i := 26) rfl) rfl)
theorem mf_X11_init : sMf yX11_init cX11_init 1 none 0 := ⟨(sTm_1 (List.mem_of_getElem? (i := 28) rfl) rfl), (sTm_1 (List.mem_of_getElem? (i := 1) rfl) rfl), ⟨by decide +kernel, by decide +kernel⟩, by decide +kernel, by decide⟩
theorem mj_X11_init : yX11_init.name = "<init>" ∧ Cond.instanceMethod yX11_init ∈ sTb := ⟨rfl, (sTm_1 (List.mem_of_getElem? (i := 27) rfl) rfl)⟩
theorem cw_L_10 : sCw RL 10 12 127 := ⟨RX12, TX12, rfl, by decide, sIn_RX12, tyX12_ok, (sTm_5 (List.mem_of_getElem? (i := 197) rfl) rfl), (sTm_5 (List.mem_of_getElem? (i := 198) rfl) rfl), (sTm_1 (List.mem_of_getElem? (i := 13) rfl) rfl), by decide +kernel⟩
theorem lm_L_12 : sMl RL 12 yX12_init := Or.inl (sTm_5 (List.mem_of_getElem? (i := 199) rfl) rfl)
theorem mf_X12_init : sMf yX12_init cX12_init 1 none 0 := ⟨(sTm_5 (List.mem_of_getElem? (i := 201) rfl) rfl), (sTm_1 (List.mem_of_getElem? (i := 13) rfl) rfl), ⟨by decide +kernel, by decide +kernel⟩, by decide +kernel, by decide⟩
theorem mj_X12_init : yX12_init.name = "<init>" ∧ Cond.instanceMethod yX12_init ∈ sTb := ⟨rfl, (sTm_5 (List.mem_of_getElem? (i := 200) rfl) rfl)⟩
theorem lm_L_13 : sMl RL 13 yX11_feed := Or.inl (sTm_2 (List.mem_of_getElem? (i := 187) rfl) rfl)
theorem mf_X11_feed : sMf yX11_feed cX11_feed 6 (some .int) 5 := ⟨(sTm_2 (List.mem_of_getElem? (i := 190) rfl) rfl), (sTm_1 (List.mem_of_getElem? (i := 1) rfl) rfl), ⟨by decide +kernel, by decide +kernel⟩, by decide +kernel, by decide⟩
theorem mi_X11_feed : Cond.instanceMethod yX11_feed ∈ sTb ∧ Cond.selects yX11_feed.cls yX11_feed yX11_feed ∈ sTb := ⟨(sTm_2 (List.mem_of_getElem? (i := 188) rfl) rfl), (sTm_2 (List.mem_of_getElem? (i := 189) rfl) rfl)⟩
theorem lm_L_17 : sMl RL 17 yX12_feed := Or.inl (sTm_7 (List.mem_of_getElem? (i := 107) rfl) rfl)
theorem mf_X12_feed : sMf yX12_feed cX12_feed 8 (some .int) 5 := ⟨(sTm_7 (List.mem_of_getElem? (i := 110) rfl) rfl), (sTm_1 (List.mem_of_getElem? (i := 13) rfl) rfl), ⟨by decide +kernel, by decide +kernel⟩, by decide +kernel, by decide⟩
theorem mi_X12_feed : Cond.instanceMethod yX12_feed ∈ sTb ∧ Cond.selects yX12_feed.cls yX12_feed yX12_feed ∈ sTb := ⟨(sTm_7 (List.mem_of_getElem? (i := 108) rfl) rfl), (sTm_7 (List.mem_of_getElem? (i := 109) rfl) rfl)⟩
theorem lm_L_18 : sMl RL 18 yX11_end := Or.inl (sTm_2 (List.mem_of_getElem? (i := 199) rfl) rfl)
theorem mf_X11_end : sMf yX11_end cX11_end 2 (some .boolean) 1 := ⟨(sTm_2 (List.mem_of_getElem? (i := 202) rfl) rfl), (sTm_1 (List.mem_of_getElem? (i := 1) rfl) rfl), ⟨by decide +kernel, by decide +kernel⟩, by decide +kernel, by decide⟩
theorem mi_X11_end : Cond.instanceMethod yX11_end ∈ sTb ∧ Cond.selects yX11_end.cls yX11_end yX11_end ∈ sTb := ⟨(sTm_2 (List.mem_of_getElem? (i := 200) rfl) rfl), (sTm_2 (List.mem_of_getElem? (i := 201) rfl) rfl)⟩
theorem lm_L_22 : sMl RL 22 yX12_end := Or.inl (sTm_7 (List.mem_of_getElem? (i := 111) rfl) rfl)
theorem mf_X12_end : sMf yX12_end cX12_end 2 (some .boolean) 1 := ⟨(sTm_7 (List.mem_of_getElem? (i := 114) rfl) rfl), (sTm_1 (List.mem_of_getElem? (i := 13) rfl) rfl), ⟨by decide +kernel, by decide +kernel⟩, by decide +kernel, by decide⟩
theorem mi_X12_end : Cond.instanceMethod yX12_end ∈ sTb ∧ Cond.selects yX12_end.cls yX12_end yX12_end ∈ sTb := ⟨(sTm_7 (List.mem_of_getElem? (i := 112) rfl) rfl), (sTm_7 (List.mem_of_getElem? (i := 113) rfl) rfl)⟩
theorem lm_L_23 : sMl RL 23 yX11_district := Or.inl (sTm_2 (List.mem_of_getElem? (i := 203) rfl) rfl)
theorem mf_X11_district : sMf yX11_district cX11_district 3 (some .int) 0 := ⟨(sTm_2 (List.mem_of_getElem? (i := 206) rfl) rfl), (sTm_1 (List.mem_of_getElem? (i := 1) rfl) rfl), ⟨by decide +kernel, by decide +kernel⟩, by decide +kernel, by decide⟩
theorem mi_X11_district : Cond.instanceMethod yX11_district ∈ sTb ∧ Cond.selects yX11_district.cls yX11_district yX11_district ∈ sTb := ⟨(sTm_2 (List.mem_of_getElem? (i := 204) rfl) rfl), (sTm_2 (List.mem_of_getElem? (i := 205) rfl) rfl)⟩
theorem lm_L_27 : sMl RL 27 yX12_district := Or.inl (sTm_7 (List.mem_of_getElem? (i := 115) rfl) rfl)
theorem mf_X12_district : sMf yX12_district cX12_district 2 (some .int) 0 := ⟨(sTm_7 (List.mem_of_getElem? (i := 118) rfl) rfl), (sTm_1 (List.mem_of_getElem? (i := 13) rfl) rfl), ⟨by decide +kernel, by decide +kernel⟩, by decide +kernel, by decide⟩
theorem mi_X12_district : Cond.instanceMethod yX12_district ∈ sTb ∧ Cond.selects yX12_district.cls yX12_district yX12_district ∈ sTb := ⟨(sTm_7 (List.mem_of_getElem? (i := 116) rfl) rfl), (sTm_7 (List.mem_of_getElem? (i := 117) rfl) rfl)⟩
theorem lm_L_28 : sMl RL 28 yX11_fault := Or.inl (sTm_4 (List.mem_of_getElem? (i := 15) rfl) rfl)
theorem mf_X11_fault : sMf yX11_fault cX11_fault 2 (some .int) 1 := ⟨(sTm_4 (List.mem_of_getElem? (i := 18) rfl) rfl), (sTm_1 (List.mem_of_getElem? (i := 1) rfl) rfl), ⟨by decide +kernel, by decide +kernel⟩, by decide +kernel, by decide⟩
theorem mi_X11_fault : Cond.instanceMethod yX11_fault ∈ sTb ∧ Cond.selects yX11_fault.cls yX11_fault yX11_fault ∈ sTb := ⟨(sTm_4 (List.mem_of_getElem? (i := 16) rfl) rfl), (sTm_4 (List.mem_of_getElem? (i := 17) rfl) rfl)⟩
theorem lm_L_32 : sMl RL 32 yX12_fault := Or.inl (sTm_8 (List.mem_of_getElem? (i := 61) rfl) rfl)
theorem mf_X12_fault : sMf yX12_fault cX12_fault 2 (some .int) 1 := ⟨(sTm_8 (List.mem_of_getElem? (i := 64) rfl) rfl), (sTm_1 (List.mem_of_getElem? (i := 13) rfl) rfl), ⟨by decide +kernel, by decide +kernel⟩, by decide +kernel, by decide⟩
theorem mi_X12_fault : Cond.instanceMethod yX12_fault ∈ sTb ∧ Cond.selects yX12_fault.cls yX12_fault yX12_fault ∈ sTb := ⟨(sTm_8 (List.mem_of_getElem? (i := 62) rfl) rfl), (sTm_8 (List.mem_of_getElem? (i := 63) rfl) rfl)⟩
theorem lm_L_33 : sMl RL 33 yX11_has := Or.inl (sTm_4 (List.mem_of_getElem? (i := 19) rfl) rfl)
theorem mf_X11_has : sMf yX11_has cX11_has 2 (some .int) 1 := ⟨(sTm_4 (List.mem_of_getElem? (i := 22) rfl) rfl), (sTm_1 (List.mem_of_getElem? (i := 1) rfl) rfl), ⟨by decide +kernel, by decide +kernel⟩, by decide +kernel, by decide⟩
theorem mi_X11_has : Cond.instanceMethod yX11_has ∈ sTb ∧ Cond.selects yX11_has.cls yX11_has yX11_has ∈ sTb := ⟨(sTm_4 (List.mem_of_getElem? (i := 20) rfl) rfl), (sTm_4 (List.mem_of_getElem? (i := 21) rfl) rfl)⟩
theorem lm_L_36 : sMl RL 36 yX12_has := Or.inl (sTm_8 (List.mem_of_getElem? (i := 65) rfl) rfl)
theorem mf_X12_has : sMf yX12_has cX12_has 2 (some .int) 1 := ⟨(sTm_8 (List.mem_of_getElem? (i := 68) rfl) rfl), (sTm_1 (List.mem_of_getElem? (i := 13) rfl) rfl), ⟨by decide +kernel, by decide +kernel⟩, by decide +kernel, by decide⟩
theorem mi_X12_has : Cond.instanceMethod yX12_has ∈ sTb ∧ Cond.selects yX12_has.cls yX12_has yX12_has ∈ sTb := ⟨(sTm_8 (List.mem_of_getElem? (i := 66) rfl) rfl), (sTm_8 (List.mem_of_getElem? (i := 67) rfl) rfl)⟩
theorem lm_L_37 : sMl RL 37 yX11_letter := Or.inl (sTm_4 (List.mem_of_getElem? (i := 29) rfl) rfl)
theorem mf_X11_letter : sMf yX11_letter cX11_letter 4 (some .int) 3 := ⟨(sTm_4 (List.mem_of_getElem? (i := 32) rfl) rfl), (sTm_1 (List.mem_of_getElem? (i := 1) rfl) rfl), ⟨by decide +kernel, by decide +kernel⟩, by decide +kernel, by decide⟩
theorem mi_X11_letter : Cond.instanceMethod yX11_letter ∈ sTb ∧ Cond.selects yX11_letter.cls yX11_letter yX11_letter ∈ sTb := ⟨(sTm_4 (List.mem_of_getElem? (i := 30) rfl) rfl), (sTm_4 (List.mem_of_getElem? (i := 31) rfl) rfl)⟩
theorem lm_L_41 : sMl RL 41 yX12_letter := Or.inl (sTm_8 (List.mem_of_getElem? (i := 100) rfl) rfl)
theorem mf_X12_letter : sMf yX12_letter cX12_letter 9 (some .int) 3 := ⟨(sTm_8 (List.mem_of_getElem? (i := 103) rfl) rfl), (sTm_1 (List.mem_of_getElem? (i := 13) rfl) rfl), ⟨by decide +kernel, by decide +kernel⟩, by decide +kernel, by decide⟩
theorem mi_X12_letter : Cond.instanceMethod yX12_letter ∈ sTb ∧ Cond.selects yX12_letter.cls yX12_letter yX12_letter ∈ sTb := ⟨(sTm_8 (List.mem_of_getElem? (i := 101) rfl) rfl), (sTm_8 (List.mem_of_getElem? (i := 102) rfl) rfl)⟩
theorem lm_L_42 : sMl RL 42 yX11_gate := Or.inl (sTm_4 (List.mem_of_getElem? (i := 41) rfl) rfl)
theorem mf_X11_gate : sMf yX11_gate cX11_gate 3 (some .int) 2 := ⟨(sTm_4 (List.mem_of_getElem? (i := 44) rfl) rfl), (sTm_1 (List.mem_of_getElem? (i := 1) rfl) rfl), ⟨by decide +kernel, by decide +kernel⟩, by decide +kernel, by decide⟩
theorem mi_X11_gate : Cond.instanceMethod yX11_gate ∈ sTb ∧ Cond.selects yX11_gate.cls yX11_gate yX11_gate ∈ sTb := ⟨(sTm_4 (List.mem_of_getElem? (i := 42) rfl) rfl), (sTm_4 (List.mem_of_getElem? (i := 43) rfl) rfl)⟩
theorem lm_L_46 : sMl RL 46 yX12_gate := Or.inl (sTm_8 (List.mem_of_getElem? (i := 105) rfl) rfl)
theorem mf_X12_gate : sMf yX12_gate cX12_gate 3 (some .int) 2 := ⟨(sTm_8 (List.mem_of_getElem? (i := 108) rfl) rfl), (sTm_1 (List.mem_of_getElem? (i := 13) rfl) rfl), ⟨by decide +kernel, by decide +kernel⟩, by decide +kernel, by decide⟩
theorem mi_X12_gate : Cond.instanceMethod yX12_gate ∈ sTb ∧ Cond.selects yX12_gate.cls yX12_gate yX12_gate ∈ sTb := ⟨(sTm_8 (List.mem_of_getElem? (i := 106) rfl) rfl), (sTm_8 (List.mem_of_getElem? (i := 107) rfl) rfl)⟩
theorem lm_L_47 : sMl RL 47 yX11_era := Or.inl (sTm_4 (List.mem_of_getElem? (i := 51) rfl) rfl)
theorem mf_X11_era : sMf yX11_era cX11_era 3 (some .int) 2 := ⟨(sTm_4 (List.mem_of_getElem? (i := 54) rfl) rfl), (sTm_1 (List.mem_of_getElem? (i := 1) rfl) rfl), ⟨by decide +kernel, by decide +kernel⟩, by decide +kernel, by decide⟩
theorem mi_X11_era : Cond.instanceMethod yX11_era ∈ sTb ∧ Cond.selects yX11_era.cls yX11_era yX11_era ∈ sTb := ⟨(sTm_4 (List.mem_of_getElem? (i := 52) rfl) rfl), (sTm_4 (List.mem_of_getElem? (i := 53) rfl) rfl)⟩
theorem lm_L_50 : sMl RL 50 yX12_era := Or.inl (sTm_8 (List.mem_of_getElem? (i := 117) rfl) rfl)
theorem mf_X12_era : sMf yX12_era cX12_era 3 (some .int) 2 := ⟨(sTm_8 (List.mem_of_getElem? (i := 120) rfl) rfl), (sTm_1 (List.mem_of_getElem? (i := 13) rfl) rfl), ⟨by decide +kernel, by decide +kernel⟩, by decide +kernel, by decide⟩
theorem mi_X12_era : Cond.instanceMethod yX12_era ∈ sTb ∧ Cond.selects yX12_era.cls yX12_era yX12_era ∈ sTb := ⟨(sTm_8 (List.mem_of_getElem? (i := 118) rfl) rfl), (sTm_8 (List.mem_of_getElem? (i := 119) rfl) rfl)⟩
theorem lm_L_51 : sMl RL 51 yX11_car := Or.inl (sTm_4 (List.mem_of_getElem? (i := 55) rfl) rfl)
theorem mf_X11_car : sMf yX11_car cX11_car 3 (some .int) 2 := ⟨(sTm_4 (List.mem_of_getElem? (i := 58) rfl) rfl), (sTm_1 (List.mem_of_getElem? (i := 1) rfl) rfl), ⟨by decide +kernel, by decide +kernel⟩, by decide +kernel, by decide⟩
theorem mi_X11_car : Cond.instanceMethod yX11_car ∈ sTb ∧ Cond.selects yX11_car.cls yX11_car yX11_car ∈ sTb := ⟨(sTm_4 (List.mem_of_getElem? (i := 56) rfl) rfl), (sTm_4 (List.mem_of_getElem? (i := 57) rfl) rfl)⟩
theorem lm_L_54 : sMl RL 54 yX12_car := Or.inl (sTm_8 (List.mem_of_getElem? (i := 129) rfl) rfl)
theorem mf_X12_car : sMf yX12_car cX12_car 3 (some .int) 2 := ⟨(sTm_8 (List.mem_of_getElem? (i := 132) rfl) rfl), (sTm_1 (List.mem_of_getElem? (i := 13) rfl) rfl), ⟨by decide +kernel, by decide +kernel⟩, by decide +kernel, by decide⟩
theorem mi_X12_car : Cond.instanceMethod yX12_car ∈ sTb ∧ Cond.selects yX12_car.cls yX12_car yX12_car ∈ sTb := ⟨(sTm_8 (List.mem_of_getElem? (i := 130) rfl) rfl), (sTm_8 (List.mem_of_getElem? (i := 131) rfl) rfl)⟩
theorem lm_L_55 : sMl RL 55 yX11_kept := Or.inl (sTm_4 (List.mem_of_getElem? (i := 59) rfl) rfl)
theorem mf_X11_kept : sMf yX11_kept cX11_kept 3 (some .int) 2 := ⟨(sTm_4 (List.mem_of_getElem? (i := 62) rfl) rfl), (sTm_1 (List.mem_of_getElem? (i := 1) rfl) rfl), ⟨by decide +kernel, by decide +kernel⟩, by decide +kernel, by decide⟩
theorem mi_X11_kept : Cond.instanceMethod yX11_kept ∈ sTb ∧ Cond.selects yX11_kept.cls yX11_kept yX11_kept ∈ sTb := ⟨(sTm_4 (List.mem_of_getElem? (i := 60) rfl) rfl), (sTm_4 (List.mem_of_getElem? (i := 61) rfl) rfl)⟩
theorem lm_L_58 : sMl RL 58 yX12_kept := Or.inl (sTm_8 (List.mem_of_getElem? (i := 153) rfl) rfl)
theorem mf_X12_kept : sMf yX12_kept cX12_kept 3 (some .int) 2 := ⟨(sTm_8 (List.mem_of_getElem? (i := 156) rfl) rfl), (sTm_1 (List.mem_of_getElem? (i := 13) rfl) rfl), ⟨by decide +kernel, by decide +kernel⟩, by decide +kernel, by decide⟩
theorem mi_X12_kept : Cond.instanceMethod yX12_kept ∈ sTb ∧ Cond.selects yX12_kept.cls yX12_kept yX12_kept ∈ sTb := ⟨(sTm_8 (List.mem_of_getElem? (i := 154) rfl) rfl), (sTm_8 (List.mem_of_getElem? (i := 155) rfl) rfl)⟩
theorem lm_L_59 : sMl RL 59 yX11_head := Or.inl (sTm_4 (List.mem_of_getElem? (i := 63) rfl) rfl)
theorem mf_X11_head : sMf yX11_head cX11_head 3 (some .int) 2 := ⟨(sTm_4 (List.mem_of_getElem? (i := 66) rfl) rfl), (sTm_1 (List.mem_of_getElem? (i := 1) rfl) rfl), ⟨by decide +kernel, by decide +kernel⟩, by decide +kernel, by decide⟩
theorem mi_X11_head : Cond.instanceMethod yX11_head ∈ sTb ∧ Cond.selects yX11_head.cls yX11_head yX11_head ∈ sTb := ⟨(sTm_4 (List.mem_of_getElem? (i := 64) rfl) rfl), (sTm_4 (List.mem_of_getElem? (i := 65) rfl) rfl)⟩
theorem lm_L_62 : sMl RL 62 yX12_head := Or.inl (sTm_8 (List.mem_of_getElem? (i := 158) rfl) rfl)
theorem mf_X12_head : sMf yX12_head cX12_head 3 (some .int) 2 := ⟨(sTm_8 (List.mem_of_getElem? (i := 161) rfl) rfl), (sTm_1 (List.mem_of_getElem? (i := 13) rfl) rfl), ⟨by decide +kernel, by decide +kernel⟩, by decide +kernel, by decide⟩
theorem mi_X12_head : Cond.instanceMethod yX12_head ∈ sTb ∧ Cond.selects yX12_head.cls yX12_head yX12_head ∈ sTb := ⟨(sTm_8 (List.mem_of_getElem? (i := 159) rfl) rfl), (sTm_8 (List.mem_of_getElem? (i := 160) rfl) rfl)⟩
theorem lm_L_63 : sMl RL 63 yX11_closed := Or.inl (sTm_4 (List.mem_of_getElem? (i := 75) rfl) rfl)
theorem mf_X11_closed : sMf yX11_closed cX11_closed 3 (some .int) 2 := ⟨(sTm_4 (List.mem_of_getElem? (i := 78) rfl) rfl), (sTm_1 (List.mem_of_getElem? (i := 1) rfl) rfl), ⟨by decide +kernel, by decide +kernel⟩, by decide +kernel, by decide⟩
theorem mi_X11_closed : Cond.instanceMethod yX11_closed ∈ sTb ∧ Cond.selects yX11_closed.cls yX11_closed yX11_closed ∈ sTb := ⟨(sTm_4 (List.mem_of_getElem? (i := 76) rfl) rfl), (sTm_4 (List.mem_of_getElem? (i := 77) rfl) rfl)⟩
theorem lm_L_66 : sMl RL 66 yX12_closed := Or.inl (sTm_8 (List.mem_of_getElem? (i := 170) rfl) rfl)
theorem mf_X12_closed : sMf yX12_closed cX12_closed 3 (some .int) 2 := ⟨(sTm_8 (List.mem_of_getElem? (i := 173) rfl) rfl), (sTm_1 (List.mem_of_getElem? (i := 13) rfl) rfl), ⟨by decide +kernel, by decide +kernel⟩, by decide +kernel, by decide⟩
theorem mi_X12_closed : Cond.instanceMethod yX12_closed ∈ sTb ∧ Cond.selects yX12_closed.cls yX12_closed yX12_closed ∈ sTb := ⟨(sTm_8 (List.mem_of_getElem? (i := 171) rfl) rfl), (sTm_8 (List.mem_of_getElem? (i := 172) rfl) rfl)⟩
theorem lm_L_67 : sMl RL 67 yX11_opens := Or.inl (sTm_4 (List.mem_of_getElem? (i := 133) rfl) rfl)
theorem mf_X11_opens : sMf yX11_opens cX11_opens 3 (some .int) 2 := ⟨(sTm_4 (List.mem_of_getElem? (i := 136) rfl) rfl), (sTm_1 (List.mem_of_getElem? (i := 1) rfl) rfl), ⟨by decide +kernel, by decide +kernel⟩, by decide +kernel, by decide⟩
theorem mi_X11_opens : Cond.instanceMethod yX11_opens ∈ sTb ∧ Cond.selects yX11_opens.cls yX11_opens yX11_opens ∈ sTb := ⟨(sTm_4 (List.mem_of_getElem? (i := 134) rfl) rfl), (sTm_4 (List.mem_of_getElem? (i := 135) rfl) rfl)⟩
theorem lm_L_70 : sMl RL 70 yX12_opens := Or.inl (sTm_8 (List.mem_of_getElem? (i := 218) rfl) rfl)
theorem mf_X12_opens : sMf yX12_opens cX12_opens 4 (some .int) 2 := ⟨(sTm_8 (List.mem_of_getElem? (i := 221) rfl) rfl), (sTm_1 (List.mem_of_getElem? (i := 13) rfl) rfl), ⟨by decide +kernel, by decide +kernel⟩, by decide +kernel, by decide⟩
theorem mi_X12_opens : Cond.instanceMethod yX12_opens ∈ sTb ∧ Cond.selects yX12_opens.cls yX12_opens yX12_opens ∈ sTb := ⟨(sTm_8 (List.mem_of_getElem? (i := 219) rfl) rfl), (sTm_8 (List.mem_of_getElem? (i := 220) rfl) rfl)⟩
theorem lm_L_71 : sMl RL 71 yX11_drive := Or.inl (sTm_4 (List.mem_of_getElem? (i := 140) rfl) rfl)
theorem mf_X11_drive : sMf yX11_drive cX11_drive 4 (some .int) 3 := ⟨(sTm_4 (List.mem_of_getElem? (i := 143) rfl) rfl), (sTm_1 (List.mem_of_getElem? (i := 1) rfl) rfl), ⟨by decide +kernel, by decide +kernel⟩, by decide +kernel, by decide⟩
theorem mi_X11_drive : Cond.instanceMethod yX11_drive ∈ sTb ∧ Cond.selects yX11_drive.cls yX11_drive yX11_drive ∈ sTb := ⟨(sTm_4 (List.mem_of_getElem? (i := 141) rfl) rfl), (sTm_4 (List.mem_of_getElem? (i := 142) rfl) rfl)⟩
theorem lm_L_74 : sMl RL 74 yX12_drive := Or.inl (sTm_8 (List.mem_of_getElem? (i := 222) rfl) rfl)
theorem mf_X12_drive : sMf yX12_drive cX12_drive 4 (some .int) 3 := ⟨(sTm_8 (List.mem_of_getElem? (i := 225) rfl) rfl), (sTm_1 (List.mem_of_getElem? (i := 13) rfl) rfl), ⟨by decide +kernel, by decide +kernel⟩, by decide +kernel, by decide⟩
theorem mi_X12_drive : Cond.instanceMethod yX12_drive ∈ sTb ∧ Cond.selects yX12_drive.cls yX12_drive yX12_drive ∈ sTb := ⟨(sTm_8 (List.mem_of_getElem? (i := 223) rfl) rfl), (sTm_8 (List.mem_of_getElem? (i := 224) rfl) rfl)⟩
theorem lm_L_75 : sMl RL 75 yX11_waits := Or.inl (sTm_4 (List.mem_of_getElem? (i := 168) rfl) rfl)
theorem mf_X11_waits : sMf yX11_waits cX11_waits 2 (some .int) 1 := ⟨(sTm_4 (List.mem_of_getElem? (i := 171) rfl) rfl), (sTm_1 (List.mem_of_getElem? (i := 1) rfl) rfl), ⟨by decide +kernel, by decide +kernel⟩, by decide +kernel, by decide⟩
theorem mi_X11_waits : Cond.instanceMethod yX11_waits ∈ sTb ∧ Cond.selects yX11_waits.cls yX11_waits yX11_waits ∈ sTb := ⟨(sTm_4 (List.mem_of_getElem? (i := 169) rfl) rfl), (sTm_4 (List.mem_of_getElem? (i := 170) rfl) rfl)⟩
theorem lm_L_78 : sMl RL 78 yX12_waits := Or.inl (sTm_9 (List.mem_of_getElem? (i := 2) rfl) rfl)
theorem mf_X12_waits : sMf yX12_waits cX12_waits 2 (some .int) 1 := ⟨(sTm_9 (List.mem_of_getElem? (i := 5) rfl) rfl), (sTm_1 (List.mem_of_getElem? (i := 13) rfl) rfl), ⟨by decide +kernel, by decide +kernel⟩, by decide +kernel, by decide⟩
theorem mi_X12_waits : Cond.instanceMethod yX12_waits ∈ sTb ∧ Cond.selects yX12_waits.cls yX12_waits yX12_waits ∈ sTb := ⟨(sTm_9 (List.mem_of_getElem? (i := 3) rfl) rfl), (sTm_9 (List.mem_of_getElem? (i := 4) rfl) rfl)⟩
theorem lm_L_79 : sMl RL 79 yX11_later := Or.inl (sTm_4 (List.mem_of_getElem? (i := 179) rfl) rfl)
theorem mf_X11_later : sMf yX11_later cX11_later 4 (some .int) 3 := ⟨(sTm_4 (List.mem_of_getElem? (i := 182) rfl) rfl), (sTm_1 (List.mem_of_getElem? (i := 1) rfl) rfl), ⟨by decide +kernel, by decide +kernel⟩, by decide +kernel, by decide⟩
theorem mi_X11_later : Cond.instanceMethod yX11_later ∈ sTb ∧ Cond.selects yX11_later.cls yX11_later yX11_later ∈ sTb := ⟨(sTm_4 (List.mem_of_getElem? (i := 180) rfl) rfl), (sTm_4 (List.mem_of_getElem? (i := 181) rfl) rfl)⟩
theorem lm_L_82 : sMl RL 82 yX12_later := Or.inl (sTm_9 (List.mem_of_getElem? (i := 10) rfl) rfl)
theorem mf_X12_later : sMf yX12_later cX12_later 5 (some .int) 3 := ⟨(sTm_9 (List.mem_of_getElem? (i := 13) rfl) rfl), (sTm_1 (List.mem_of_getElem? (i := 13) rfl) rfl), ⟨by decide +kernel, by decide +kernel⟩, by decide +kernel, by decide⟩
theorem mi_X12_later : Cond.instanceMethod yX12_later ∈ sTb ∧ Cond.selects yX12_later.cls yX12_later yX12_later ∈ sTb := ⟨(sTm_9 (List.mem_of_getElem? (i := 11) rfl) rfl), (sTm_9 (List.mem_of_getElem? (i := 12) rfl) rfl)⟩
theorem lm_L_83 : sMl RL 83 yX11_late := Or.inl (sTm_4 (List.mem_of_getElem? (i := 213) rfl) rfl)
theorem mf_X11_late : sMf yX11_late cX11_late 3 (some .int) 2 := ⟨(sTm_4 (List.mem_of_getElem? (i := 216) rfl) rfl), (sTm_1 (List.mem_of_getElem? (i := 1) rfl) rfl), ⟨by decide +kernel, by decide +kernel⟩, by decide +kernel, by decide⟩
theorem mi_X11_late : Cond.instanceMethod yX11_late ∈ sTb ∧ Cond.selects yX11_late.cls yX11_late yX11_late ∈ sTb := ⟨(sTm_4 (List.mem_of_getElem? (i := 214) rfl) rfl), (sTm_4 (List.mem_of_getElem? (i := 215) rfl) rfl)⟩
theorem lm_L_86 : sMl RL 86 yX12_late := Or.inl (sTm_9 (List.mem_of_getElem? (i := 45) rfl) rfl)
theorem mf_X12_late : sMf yX12_late cX12_late 4 (some .int) 2 := ⟨(sTm_9 (List.mem_of_getElem? (i := 48) rfl) rfl), (sTm_1 (List.mem_of_getElem? (i := 13) rfl) rfl), ⟨by decide +kernel, by decide +kernel⟩, by decide +kernel, by decide⟩
theorem mi_X12_late : Cond.instanceMethod yX12_late ∈ sTb ∧ Cond.selects yX12_late.cls yX12_late yX12_late ∈ sTb := ⟨(sTm_9 (List.mem_of_getElem? (i := 46) rfl) rfl), (sTm_9 (List.mem_of_getElem? (i := 47) rfl) rfl)⟩
theorem lm_L_87 : sMl RL 87 yX11_lift := Or.inl (sTm_4 (List.mem_of_getElem? (i := 217) rfl) rfl)
theorem mf_X11_lift : sMf yX11_lift cX11_lift 5 (some .int) 2 := ⟨(sTm_4 (List.mem_of_getElem? (i := 220) rfl) rfl), (sTm_1 (List.mem_of_getElem? (i := 1) rfl) rfl), ⟨by decide +kernel, by decide +kernel⟩, by decide +kernel, by decide⟩
theorem mi_X11_lift : Cond.instanceMethod yX11_lift ∈ sTb ∧ Cond.selects yX11_lift.cls yX11_lift yX11_lift ∈ sTb := ⟨(sTm_4 (List.mem_of_getElem? (i := 218) rfl) rfl), (sTm_4 (List.mem_of_getElem? (i := 219) rfl) rfl)⟩
theorem lm_L_90 : sMl RL 90 yX12_lift := Or.inl (sTm_9 (List.mem_of_getElem? (i := 49) rfl) rfl)
theorem mf_X12_lift : sMf yX12_lift cX12_lift 7 (some .int) 2 := ⟨(sTm_9 (List.mem_of_getElem? (i := 52) rfl) rfl), (sTm_1 (List.mem_of_getElem? (i := 13) rfl) rfl), ⟨by decide +kernel, by decide +kernel⟩, by decide +kernel, by decide⟩
theorem mi_X12_lift : Cond.instanceMethod yX12_lift ∈ sTb ∧ Cond.selects yX12_lift.cls yX12_lift yX12_lift ∈ sTb := ⟨(sTm_9 (List.mem_of_getElem? (i := 50) rfl) rfl), (sTm_9 (List.mem_of_getElem? (i := 51) rfl) rfl)⟩
theorem lm_L_91 : sMl RL 91 yX11_leave := Or.inl (sTm_4 (List.mem_of_getElem? (i := 229) rfl) rfl)
theorem mf_X11_leave : sMf yX11_leave cX11_leave 7 (some .int) 2 := ⟨(sTm_4 (List.mem_of_getElem? (i := 232) rfl) rfl), (sTm_1 (List.mem_of_getElem? (i := 1) rfl) rfl), ⟨by decide +kernel, by decide +kernel⟩, by decide +kernel, by decide⟩
theorem mi_X11_leave : Cond.instanceMethod yX11_leave ∈ sTb ∧ Cond.selects yX11_leave.cls yX11_leave yX11_leave ∈ sTb := ⟨(sTm_4 (List.mem_of_getElem? (i := 230) rfl) rfl), (sTm_4 (List.mem_of_getElem? (i := 231) rfl) rfl)⟩
theorem lm_L_94 : sMl RL 94 yX12_leave := Or.inl (sTm_9 (List.mem_of_getElem? (i := 53) rfl) rfl)
theorem mf_X12_leave : sMf yX12_leave cX12_leave 7 (some .int) 2 := ⟨(sTm_9 (List.mem_of_getElem? (i := 56) rfl) rfl), (sTm_1 (List.mem_of_getElem? (i := 13) rfl) rfl), ⟨by decide +kernel, by decide +kernel⟩, by decide +kernel, by decide⟩
theorem mi_X12_leave : Cond.instanceMethod yX12_leave ∈ sTb ∧ Cond.selects yX12_leave.cls yX12_leave yX12_leave ∈ sTb := ⟨(sTm_9 (List.mem_of_getElem? (i := 54) rfl) rfl), (sTm_9 (List.mem_of_getElem? (i := 55) rfl) rfl)⟩
theorem lm_L_95 : sMl RL 95 yX11_closings := Or.inl (sTm_4 (List.mem_of_getElem? (i := 233) rfl) rfl)
theorem mf_X11_closings : sMf yX11_closings cX11_closings 4 (some .int) 2 := ⟨(sTm_4 (List.mem_of_getElem? (i := 236) rfl) rfl), (sTm_1 (List.mem_of_getElem? (i := 1) rfl) rfl), ⟨by decide +kernel, by decide +kernel⟩, by decide +kernel, by decide⟩
theorem mi_X11_closings : Cond.instanceMethod yX11_closings ∈ sTb ∧ Cond.selects yX11_closings.cls yX11_closings yX11_closings ∈ sTb := ⟨(sTm_4 (List.mem_of_getElem? (i := 234) rfl) rfl), (sTm_4 (List.mem_of_getElem? (i := 235) rfl) rfl)⟩
theorem lm_L_98 : sMl RL 98 yX12_closings := Or.inl (sTm_9 (List.mem_of_getElem? (i := 57) rfl) rfl)
theorem mf_X12_closings : sMf yX12_closings cX12_closings 3 (some .int) 2 := ⟨(sTm_9 (List.mem_of_getElem? (i := 60) rfl) rfl), (sTm_1 (List.mem_of_getElem? (i := 13) rfl) rfl), ⟨by decide +kernel, by decide +kernel⟩, by decide +kernel, by decide⟩
theorem mi_X12_closings : Cond.instanceMethod yX12_closings ∈ sTb ∧ Cond.selects yX12_closings.cls yX12_closings yX12_closings ∈ sTb := ⟨(sTm_9 (List.mem_of_getElem? (i := 58) rfl) rfl), (sTm_9 (List.mem_of_getElem? (i := 59) rfl) rfl)⟩
theorem lm_L_99 : sMl RL 99 yX11_keepers := Or.inl (sTm_5 (List.mem_of_getElem? (i := 8) rfl) rfl)
theorem mf_X11_keepers : sMf yX11_keepers cX11_keepers 2 (some .int) 0 := ⟨(sTm_5 (List.mem_of_getElem? (i := 11) rfl) rfl), (sTm_1 (List.mem_of_getElem? (i := 1) rfl) rfl), ⟨by decide +kernel, by decide +kernel⟩, by decide +kernel, by decide⟩
theorem mi_X11_keepers : Cond.instanceMethod yX11_keepers ∈ sTb ∧ Cond.selects yX11_keepers.cls yX11_keepers yX11_keepers ∈ sTb := ⟨(sTm_5 (List.mem_of_getElem? (i := 9) rfl) rfl), (sTm_5 (List.mem_of_getElem? (i := 10) rfl) rfl)⟩
theorem lm_L_102 : sMl RL 102 yX12_keepers := Or.inl (sTm_9 (List.mem_of_getElem? (i := 65) rfl) rfl)
theorem mf_X12_keepers : sMf yX12_keepers cX12_keepers 3 (some .int) 0 := ⟨(sTm_9 (List.mem_of_getElem? (i := 68) rfl) rfl), (sTm_1 (List.mem_of_getElem? (i := 13) rfl) rfl), ⟨by decide +kernel, by decide +kernel⟩, by decide +kernel, by decide⟩
theorem mi_X12_keepers : Cond.instanceMethod yX12_keepers ∈ sTb ∧ Cond.selects yX12_keepers.cls yX12_keepers yX12_keepers ∈ sTb := ⟨(sTm_9 (List.mem_of_getElem? (i := 66) rfl) rfl), (sTm_9 (List.mem_of_getElem? (i := 67) rfl) rfl)⟩
theorem lm_L_103 : sMl RL 103 yX11_see := Or.inl (sTm_5 (List.mem_of_getElem? (i := 40) rfl) rfl)
theorem mf_X11_see : sMf yX11_see cX11_see 4 (some .int) 0 := ⟨(sTm_5 (List.mem_of_getElem? (i := 43) rfl) rfl), (sTm_1 (List.mem_of_getElem? (i := 1) rfl) rfl), ⟨by decide +kernel, by decide +kernel⟩, by decide +kernel, by decide⟩
theorem mi_X11_see : Cond.instanceMethod yX11_see ∈ sTb ∧ Cond.selects yX11_see.cls yX11_see yX11_see ∈ sTb := ⟨(sTm_5 (List.mem_of_getElem? (i := 41) rfl) rfl), (sTm_5 (List.mem_of_getElem? (i := 42) rfl) rfl)⟩
theorem lm_L_106 : sMl RL 106 yX12_see := Or.inl (sTm_9 (List.mem_of_getElem? (i := 81) rfl) rfl)
theorem mf_X12_see : sMf yX12_see cX12_see 4 (some .int) 0 := ⟨(sTm_9 (List.mem_of_getElem? (i := 84) rfl) rfl), (sTm_1 (List.mem_of_getElem? (i := 13) rfl) rfl), ⟨by decide +kernel, by decide +kernel⟩, by decide +kernel, by decide⟩
theorem mi_X12_see : Cond.instanceMethod yX12_see ∈ sTb ∧ Cond.selects yX12_see.cls yX12_see yX12_see ∈ sTb := ⟨(sTm_9 (List.mem_of_getElem? (i := 82) rfl) rfl), (sTm_9 (List.mem_of_getElem? (i := 83) rfl) rfl)⟩
theorem lm_L_107 : sMl RL 107 yX11_was := Or.inl (sTm_5 (List.mem_of_getElem? (i := 52) rfl) rfl)
theorem mf_X11_was : sMf yX11_was cX11_was 4 (some .int) 2 := ⟨(sTm_5 (List.mem_of_getElem? (i := 55) rfl) rfl), (sTm_1 (List.mem_of_getElem? (i := 1) rfl) rfl), ⟨by decide +kernel, by decide +kernel⟩, by decide +kernel, by decide⟩
theorem mi_X11_was : Cond.instanceMethod yX11_was ∈ sTb ∧ Cond.selects yX11_was.cls yX11_was yX11_was ∈ sTb := ⟨(sTm_5 (List.mem_of_getElem? (i := 53) rfl) rfl), (sTm_5 (List.mem_of_getElem? (i := 54) rfl) rfl)⟩
theorem lm_L_110 : sMl RL 110 yX12_was := Or.inl (sTm_9 (List.mem_of_getElem? (i := 89) rfl) rfl)
theorem mf_X12_was : sMf yX12_was cX12_was 6 (some .int) 2 := ⟨(sTm_9 (List.mem_of_getElem? (i := 92) rfl) rfl), (sTm_1 (List.mem_of_getElem? (i := 13) rfl) rfl), ⟨by decide +kernel, by decide +kernel⟩, by decide +kernel, by decide⟩
theorem mi_X12_was : Cond.instanceMethod yX12_was ∈ sTb ∧ Cond.selects yX12_was.cls yX12_was yX12_was ∈ sTb := ⟨(sTm_9 (List.mem_of_getElem? (i := 90) rfl) rfl), (sTm_9 (List.mem_of_getElem? (i := 91) rfl) rfl)⟩
theorem lm_L_111 : sMl RL 111 yX11_tells := Or.inl (sTm_5 (List.mem_of_getElem? (i := 65) rfl) rfl)
theorem mf_X11_tells : sMf yX11_tells cX11_tells 10 (some .int) 2 := ⟨(sTm_5 (List.mem_of_getElem? (i := 68) rfl) rfl), (sTm_1 (List.mem_of_getElem? (i := 1) rfl) rfl), ⟨by decide +kernel, by decide +kernel⟩, by decide +kernel, by decide⟩
theorem mi_X11_tells : Cond.instanceMethod yX11_tells ∈ sTb ∧ Cond.selects yX11_tells.cls yX11_tells yX11_tells ∈ sTb := ⟨(sTm_5 (List.mem_of_getElem? (i := 66) rfl) rfl), (sTm_5 (List.mem_of_getElem? (i := 67) rfl) rfl)⟩
theorem lm_L_114 : sMl RL 114 yX12_tells := Or.inl (sTm_9 (List.mem_of_getElem? (i := 101) rfl) rfl)
theorem mf_X12_tells : sMf yX12_tells cX12_tells 9 (some .int) 2 := ⟨(sTm_9 (List.mem_of_getElem? (i := 104) rfl) rfl), (sTm_1 (List.mem_of_getElem? (i := 13) rfl) rfl), ⟨by decide +kernel, by decide +kernel⟩, by decide +kernel, by decide⟩
theorem mi_X12_tells : Cond.instanceMethod yX12_tells ∈ sTb ∧ Cond.selects yX12_tells.cls yX12_tells yX12_tells ∈ sTb := ⟨(sTm_9 (List.mem_of_getElem? (i := 102) rfl) rfl), (sTm_9 (List.mem_of_getElem? (i := 103) rfl) rfl)⟩
theorem lm_L_115 : sMl RL 115 yX11_put := Or.inl (sTm_5 (List.mem_of_getElem? (i := 86) rfl) rfl)
theorem mf_X11_put : sMf yX11_put cX11_put 3 (some .boolean) 2 := ⟨(sTm_5 (List.mem_of_getElem? (i := 89) rfl) rfl), (sTm_1 (List.mem_of_getElem? (i := 1) rfl) rfl), ⟨by decide +kernel, by decide +kernel⟩, by decide +kernel, by decide⟩
theorem mi_X11_put : Cond.instanceMethod yX11_put ∈ sTb ∧ Cond.selects yX11_put.cls yX11_put yX11_put ∈ sTb := ⟨(sTm_5 (List.mem_of_getElem? (i := 87) rfl) rfl), (sTm_5 (List.mem_of_getElem? (i := 88) rfl) rfl)⟩
theorem lm_L_119 : sMl RL 119 yX12_put := Or.inl (sTm_9 (List.mem_of_getElem? (i := 113) rfl) rfl)
theorem mf_X12_put : sMf yX12_put cX12_put 3 (some .boolean) 2 := ⟨(sTm_9 (List.mem_of_getElem? (i := 116) rfl) rfl), (sTm_1 (List.mem_of_getElem? (i := 13) rfl) rfl), ⟨by decide +kernel, by decide +kernel⟩, by decide +kernel, by decide⟩
theorem mi_X12_put : Cond.instanceMethod yX12_put ∈ sTb ∧ Cond.selects yX12_put.cls yX12_put yX12_put ∈ sTb := ⟨(sTm_9 (List.mem_of_getElem? (i := 114) rfl) rfl), (sTm_9 (List.mem_of_getElem? (i := 115) rfl) rfl)⟩
theorem lm_L_120 : sMl RL 120 yX11_hold := Or.inl (sTm_5 (List.mem_of_getElem? (i := 95) rfl) rfl)
theorem mf_X11_hold : sMf yX11_hold cX11_hold 3 (some .boolean) 2 := ⟨(sTm_5 (List.mem_of_getElem? (i := 98) rfl) rfl), (sTm_1 (List.mem_of_getElem? (i := 1) rfl) rfl), ⟨by decide +kernel, by decide +kernel⟩, by decide +kernel, by decide⟩
theorem mi_X11_hold : Cond.instanceMethod yX11_hold ∈ sTb ∧ Cond.selects yX11_hold.cls yX11_hold yX11_hold ∈ sTb := ⟨(sTm_5 (List.mem_of_getElem? (i := 96) rfl) rfl), (sTm_5 (List.mem_of_getElem? (i := 97) rfl) rfl)⟩
theorem lm_L_123 : sMl RL 123 yX12_hold := Or.inl (sTm_9 (List.mem_of_getElem? (i := 125) rfl) rfl)
theorem mf_X12_hold : sMf yX12_hold cX12_hold 3 (some .boolean) 2 := ⟨(sTm_9 (List.mem_of_getElem? (i := 128) rfl) rfl), (sTm_1 (List.mem_of_getElem? (i := 13) rfl) rfl), ⟨by decide +kernel, by decide +kernel⟩, by decide +kernel, by decide⟩
theorem mi_X12_hold : Cond.instanceMethod yX12_hold ∈ sTb ∧ Cond.selects yX12_hold.cls yX12_hold yX12_hold ∈ sTb := ⟨(sTm_9 (List.mem_of_getElem? (i := 126) rfl) rfl), (sTm_9 (List.mem_of_getElem? (i := 127) rfl) rfl)⟩
theorem lm_L_124 : sMl RL 124 yX11_send := Or.inl (sTm_5 (List.mem_of_getElem? (i := 99) rfl) rfl)
theorem mf_X11_send : sMf yX11_send cX11_send 3 (some .boolean) 2 := ⟨(sTm_5 (List.mem_of_getElem? (i := 102) rfl) rfl), (sTm_1 (List.mem_of_getElem? (i := 1) rfl) rfl), ⟨by decide +kernel, by decide +kernel⟩, by decide +kernel, by decide⟩
theorem mi_X11_send : Cond.instanceMethod yX11_send ∈ sTb ∧ Cond.selects yX11_send.cls yX11_send yX11_send ∈ sTb := ⟨(sTm_5 (List.mem_of_getElem? (i := 100) rfl) rfl), (sTm_5 (List.mem_of_getElem? (i := 101) rfl) rfl)⟩
theorem lm_L_127 : sMl RL 127 yX12_send := Or.inl (sTm_9 (List.mem_of_getElem? (i := 130) rfl) rfl)
theorem mf_X12_send : sMf yX12_send cX12_send 3 (some .boolean) 2 := ⟨(sTm_9 (List.mem_of_getElem? (i := 133) rfl) rfl), (sTm_1 (List.mem_of_getElem? (i := 13) rfl) rfl), ⟨by decide +kernel, by decide +kernel⟩, by decide +kernel, by decide⟩
theorem mi_X12_send : Cond.instanceMethod yX12_send ∈ sTb ∧ Cond.selects yX12_send.cls yX12_send yX12_send ∈ sTb := ⟨(sTm_9 (List.mem_of_getElem? (i := 131) rfl) rfl), (sTm_9 (List.mem_of_getElem? (i := 132) rfl) rfl)⟩
theorem lm_L_128 : sMl RL 128 yX11_days := Or.inl (sTm_5 (List.mem_of_getElem? (i := 103) rfl) rfl)
theorem mf_X11_days : sMf yX11_days cX11_days 4 (some .int) 1 := ⟨(sTm_5 (List.mem_of_getElem? (i := 106) rfl) rfl), (sTm_1 (List.mem_of_getElem? (i := 1) rfl) rfl), ⟨by decide +kernel, by decide +kernel⟩, by decide +kernel, by decide⟩
theorem mi_X11_days : Cond.instanceMethod yX11_days ∈ sTb ∧ Cond.selects yX11_days.cls yX11_days yX11_days ∈ sTb := ⟨(sTm_5 (List.mem_of_getElem? (i := 104) rfl) rfl), (sTm_5 (List.mem_of_getElem? (i := 105) rfl) rfl)⟩
theorem lm_L_131 : sMl RL 131 yX12_days := Or.inl (sTm_9 (List.mem_of_getElem? (i := 134) rfl) rfl)
theorem mf_X12_days : sMf yX12_days cX12_days 2 (some .int) 1 := ⟨(sTm_9 (List.mem_of_getElem? (i := 137) rfl) rfl), (sTm_1 (List.mem_of_getElem? (i := 13) rfl) rfl), ⟨by decide +kernel, by decide +kernel⟩, by decide +kernel, by decide⟩
theorem mi_X12_days : Cond.instanceMethod yX12_days ∈ sTb ∧ Cond.selects yX12_days.cls yX12_days yX12_days ∈ sTb := ⟨(sTm_9 (List.mem_of_getElem? (i := 135) rfl) rfl), (sTm_9 (List.mem_of_getElem? (i := 136) rfl) rfl)⟩
theorem lm_L_132 : sMl RL 132 yX11_chance := Or.inl (sTm_5 (List.mem_of_getElem? (i := 111) rfl) rfl)
theorem mf_X11_chance : sMf yX11_chance cX11_chance 4 (some .int) 1 := ⟨(sTm_5 (List.mem_of_getElem? (i := 114) rfl) rfl), (sTm_1 (List.mem_of_getElem? (i := 1) rfl) rfl), ⟨by decide +kernel, by decide +kernel⟩, by decide +kernel, by decide⟩
theorem mi_X11_chance : Cond.instanceMethod yX11_chance ∈ sTb ∧ Cond.selects yX11_chance.cls yX11_chance yX11_chance ∈ sTb := ⟨(sTm_5 (List.mem_of_getElem? (i := 112) rfl) rfl), (sTm_5 (List.mem_of_getElem? (i := 113) rfl) rfl)⟩
theorem lm_L_135 : sMl RL 135 yX12_chance := Or.inl (sTm_9 (List.mem_of_getElem? (i := 142) rfl) rfl)
theorem mf_X12_chance : sMf yX12_chance cX12_chance 5 (some .int) 1 := ⟨(sTm_9 (List.mem_of_getElem? (i := 145) rfl) rfl), (sTm_1 (List.mem_of_getElem? (i := 13) rfl) rfl), ⟨by decide +kernel, by decide +kernel⟩, by decide +kernel, by decide⟩
theorem mi_X12_chance : Cond.instanceMethod yX12_chance ∈ sTb ∧ Cond.selects yX12_chance.cls yX12_chance yX12_chance ∈ sTb := ⟨(sTm_9 (List.mem_of_getElem? (i := 143) rfl) rfl), (sTm_9 (List.mem_of_getElem? (i := 144) rfl) rfl)⟩
theorem lm_L_136 : sMl RL 136 yX11_undo := Or.inl (sTm_5 (List.mem_of_getElem? (i := 125) rfl) rfl)
theorem mf_X11_undo : sMf yX11_undo cX11_undo 2 (some .boolean) 0 := ⟨(sTm_5 (List.mem_of_getElem? (i := 128) rfl) rfl), (sTm_1 (List.mem_of_getElem? (i := 1) rfl) rfl), ⟨by decide +kernel, by decide +kernel⟩, by decide +kernel, by decide⟩
theorem mi_X11_undo : Cond.instanceMethod yX11_undo ∈ sTb ∧ Cond.selects yX11_undo.cls yX11_undo yX11_undo ∈ sTb := ⟨(sTm_5 (List.mem_of_getElem? (i := 126) rfl) rfl), (sTm_5 (List.mem_of_getElem? (i := 127) rfl) rfl)⟩
theorem lm_L_140 : sMl RL 140 yX12_undo := Or.inl (sTm_9 (List.mem_of_getElem? (i := 109) rfl) rfl)
theorem mf_X12_undo : sMf yX12_undo cX12_undo 2 (some .boolean) 0 := ⟨(sTm_9 (List.mem_of_getElem? (i := 112) rfl) rfl), (sTm_1 (List.mem_of_getElem? (i := 13) rfl) rfl), ⟨by decide +kernel, by decide +kernel⟩, by decide +kernel, by decide⟩
theorem mi_X12_undo : Cond.instanceMethod yX12_undo ∈ sTb ∧ Cond.selects yX12_undo.cls yX12_undo yX12_undo ∈ sTb := ⟨(sTm_9 (List.mem_of_getElem? (i := 110) rfl) rfl), (sTm_9 (List.mem_of_getElem? (i := 111) rfl) rfl)⟩
theorem lm_L_141 : sMl RL 141 yX11_seed := Or.inl (sTm_5 (List.mem_of_getElem? (i := 129) rfl) rfl)
theorem mf_X11_seed : sMf yX11_seed cX11_seed 2 (some .boolean) 1 := ⟨(sTm_5 (List.mem_of_getElem? (i := 132) rfl) rfl), (sTm_1 (List.mem_of_getElem? (i := 1) rfl) rfl), ⟨by decide +kernel, by decide +kernel⟩, by decide +kernel, by decide⟩
theorem mi_X11_seed : Cond.instanceMethod yX11_seed ∈ sTb ∧ Cond.selects yX11_seed.cls yX11_seed yX11_seed ∈ sTb := ⟨(sTm_5 (List.mem_of_getElem? (i := 130) rfl) rfl), (sTm_5 (List.mem_of_getElem? (i := 131) rfl) rfl)⟩
theorem lm_L_144 : sMl RL 144 yX12_seed := Or.inl (sTm_9 (List.mem_of_getElem? (i := 138) rfl) rfl)
theorem mf_X12_seed : sMf yX12_seed cX12_seed 2 (some .boolean) 1 := ⟨(sTm_9 (List.mem_of_getElem? (i := 141) rfl) rfl), (sTm_1 (List.mem_of_getElem? (i := 13) rfl) rfl), ⟨by decide +kernel, by decide +kernel⟩, by decide +kernel, by decide⟩
theorem mi_X12_seed : Cond.instanceMethod yX12_seed ∈ sTb ∧ Cond.selects yX12_seed.cls yX12_seed yX12_seed ∈ sTb := ⟨(sTm_9 (List.mem_of_getElem? (i := 139) rfl) rfl), (sTm_9 (List.mem_of_getElem? (i := 140) rfl) rfl)⟩
theorem lm_L_145 : sMl RL 145 yX11_ask := Or.inl (sTm_5 (List.mem_of_getElem? (i := 133) rfl) rfl)
theorem mf_X11_ask : sMf yX11_ask cX11_ask 6 (some .long) 0 := ⟨(sTm_5 (List.mem_of_getElem? (i := 136) rfl) rfl), (sTm_1 (List.mem_of_getElem? (i := 1) rfl) rfl), ⟨by decide +kernel, by decide +kernel⟩, by decide +kernel, by decide⟩
theorem mi_X11_ask : Cond.instanceMethod yX11_ask ∈ sTb ∧ Cond.selects yX11_ask.cls yX11_ask yX11_ask ∈ sTb := ⟨(sTm_5 (List.mem_of_getElem? (i := 134) rfl) rfl), (sTm_5 (List.mem_of_getElem? (i := 135) rfl) rfl)⟩
theorem lm_L_149 : sMl RL 149 yX12_ask := Or.inl (sTm_9 (List.mem_of_getElem? (i := 154) rfl) rfl)
theorem mf_X12_ask : sMf yX12_ask cX12_ask 4 (some .long) 0 := ⟨(sTm_9 (List.mem_of_getElem? (i := 157) rfl) rfl), (sTm_1 (List.mem_of_getElem? (i := 13) rfl) rfl), ⟨by decide +kernel, by decide +kernel⟩, by decide +kernel, by decide⟩
theorem mi_X12_ask : Cond.instanceMethod yX12_ask ∈ sTb ∧ Cond.selects yX12_ask.cls yX12_ask yX12_ask ∈ sTb := ⟨(sTm_9 (List.mem_of_getElem? (i := 155) rfl) rfl), (sTm_9 (List.mem_of_getElem? (i := 156) rfl) rfl)⟩
theorem lm_L_150 : sMl RL 150 yX11_image := Or.inl (sTm_5 (List.mem_of_getElem? (i := 158) rfl) rfl)
theorem mf_X11_image : sMf yX11_image cX11_image 2 (some .int) 0 := ⟨(sTm_5 (List.mem_of_getElem? (i := 161) rfl) rfl), (sTm_1 (List.mem_of_getElem? (i := 1) rfl) rfl), ⟨by decide +kernel, by decide +kernel⟩, by decide +kernel, by decide⟩
theorem mi_X11_image : Cond.instanceMethod yX11_image ∈ sTb ∧ Cond.selects yX11_image.cls yX11_image yX11_image ∈ sTb := ⟨(sTm_5 (List.mem_of_getElem? (i := 159) rfl) rfl), (sTm_5 (List.mem_of_getElem? (i := 160) rfl) rfl)⟩
theorem lm_L_153 : sMl RL 153 yX12_image := Or.inl (sTm_9 (List.mem_of_getElem? (i := 176) rfl) rfl)
theorem mf_X12_image : sMf yX12_image cX12_image 2 (some .int) 0 := ⟨(sTm_9 (List.mem_of_getElem? (i := 179) rfl) rfl), (sTm_1 (List.mem_of_getElem? (i := 13) rfl) rfl), ⟨by decide +kernel, by decide +kernel⟩, by decide +kernel, by decide⟩
theorem mi_X12_image : Cond.instanceMethod yX12_image ∈ sTb ∧ Cond.selects yX12_image.cls yX12_image yX12_image ∈ sTb := ⟨(sTm_9 (List.mem_of_getElem? (i := 177) rfl) rfl), (sTm_9 (List.mem_of_getElem? (i := 178) rfl) rfl)⟩
theorem lm_L_154 : sMl RL 154 yX11_octet := Or.inl (sTm_5 (List.mem_of_getElem? (i := 173) rfl) rfl)
theorem mf_X11_octet : sMf yX11_octet cX11_octet 2 (some .int) 1 := ⟨(sTm_5 (List.mem_of_getElem? (i := 176) rfl) rfl), (sTm_1 (List.mem_of_getElem? (i := 1) rfl) rfl), ⟨by decide +kernel, by decide +kernel⟩, by decide +kernel, by decide⟩
theorem mi_X11_octet : Cond.instanceMethod yX11_octet ∈ sTb ∧ Cond.selects yX11_octet.cls yX11_octet yX11_octet ∈ sTb := ⟨(sTm_5 (List.mem_of_getElem? (i := 174) rfl) rfl), (sTm_5 (List.mem_of_getElem? (i := 175) rfl) rfl)⟩
theorem lm_L_157 : sMl RL 157 yX12_octet := Or.inl (sTm_9 (List.mem_of_getElem? (i := 191) rfl) rfl)
theorem mf_X12_octet : sMf yX12_octet cX12_octet 2 (some .int) 1 := ⟨(sTm_9 (List.mem_of_getElem? (i := 194) rfl) rfl), (sTm_1 (List.mem_of_getElem? (i := 13) rfl) rfl), ⟨by decide +kernel, by decide +kernel⟩, by decide +kernel, by decide⟩
theorem mi_X12_octet : Cond.instanceMethod yX12_octet ∈ sTb ∧ Cond.selects yX12_octet.cls yX12_octet yX12_octet ∈ sTb := ⟨(sTm_9 (List.mem_of_getElem? (i := 192) rfl) rfl), (sTm_9 (List.mem_of_getElem? (i := 193) rfl) rfl)⟩
theorem lm_L_158 : sMl RL 158 yX11_on := Or.inl (sTm_5 (List.mem_of_getElem? (i := 177) rfl) rfl)
theorem mf_X11_on : sMf yX11_on cX11_on 2 (some .boolean) 0 := ⟨(sTm_5 (List.mem_of_getElem? (i := 180) rfl) rfl), (sTm_1 (List.mem_of_getElem? (i := 1) rfl) rfl), ⟨by decide +kernel, by decide +kernel⟩, by decide +kernel, by decide⟩
theorem mi_X11_on : Cond.instanceMethod yX11_on ∈ sTb ∧ Cond.selects yX11_on.cls yX11_on yX11_on ∈ sTb := ⟨(sTm_5 (List.mem_of_getElem? (i := 178) rfl) rfl), (sTm_5 (List.mem_of_getElem? (i := 179) rfl) rfl)⟩
theorem lm_L_161 : sMl RL 161 yX12_on := Or.inl (sTm_9 (List.mem_of_getElem? (i := 195) rfl) rfl)
theorem mf_X12_on : sMf yX12_on cX12_on 5 (some .boolean) 0 := ⟨(sTm_9 (List.mem_of_getElem? (i := 198) rfl) rfl), (sTm_1 (List.mem_of_getElem? (i := 13) rfl) rfl), ⟨by decide +kernel, by decide +kernel⟩, by decide +kernel, by decide⟩
theorem mi_X12_on : Cond.instanceMethod yX12_on ∈ sTb ∧ Cond.selects yX12_on.cls yX12_on yX12_on ∈ sTb := ⟨(sTm_9 (List.mem_of_getElem? (i := 196) rfl) rfl), (sTm_9 (List.mem_of_getElem? (i := 197) rfl) rfl)⟩
theorem lm_L_162 : sMl RL 162 yX11_status := Or.inl (sTm_5 (List.mem_of_getElem? (i := 193) rfl) rfl)
theorem mf_X11_status : sMf yX11_status cX11_status 2 (some .int) 1 := ⟨(sTm_5 (List.mem_of_getElem? (i := 196) rfl) rfl), (sTm_1 (List.mem_of_getElem? (i := 1) rfl) rfl), ⟨by decide +kernel, by decide +kernel⟩, by decide +kernel, by decide⟩
theorem mi_X11_status : Cond.instanceMethod yX11_status ∈ sTb ∧ Cond.selects yX11_status.cls yX11_status yX11_status ∈ sTb := ⟨(sTm_5 (List.mem_of_getElem? (i := 194) rfl) rfl), (sTm_5 (List.mem_of_getElem? (i := 195) rfl) rfl)⟩
theorem lm_L_165 : sMl RL 165 yX12_status := Or.inl (sTm_9 (List.mem_of_getElem? (i := 207) rfl) rfl)
theorem mf_X12_status : sMf yX12_status cX12_status 2 (some .int) 1 := ⟨(sTm_9 (List.mem_of_getElem? (i := 210) rfl) rfl), (sTm_1 (List.mem_of_getElem? (i := 13) rfl) rfl), ⟨by decide +kernel, by decide +kernel⟩, by decide +kernel, by decide⟩
theorem mi_X12_status : Cond.instanceMethod yX12_status ∈ sTb ∧ Cond.selects yX12_status.cls yX12_status yX12_status ∈ sTb := ⟨(sTm_9 (List.mem_of_getElem? (i := 208) rfl) rfl), (sTm_9 (List.mem_of_getElem? (i := 209) rfl) rfl)⟩
theorem ak_char : sAk .char 13 .char := ⟨rfl, (sTm_7 (List.mem_of_getElem? (i := 105) rfl) rfl), by decide, by decide, fun _ => rfl, by decide, fun _ _ h => h, fun G M n cA => by simp [sarr, sNew, up1_same, vp_cell, defaultValue]⟩
theorem ak_int : sAk .int 14 .int := ⟨rfl, (sTm_1 (List.mem_of_getElem? (i := 73) rfl) rfl), by decide, by decide, fun _ => rfl, by decide, fun _ _ h => h, fun G M n cA => by simp [sarr, sNew, up1_same, vp_cell, defaultValue]⟩
theorem ak_long : sAk .long 15 .long := ⟨rfl, (sTm_2 (List.mem_of_getElem? (i := 61) rfl) rfl), by decide, by decide, fun _ => rfl, by decide, fun _ _ h => h, fun G M n cA => by simp [sarr, sNew, up1_same, vp_cell, defaultValue]⟩
theorem ak_boolean : sAk .boolean 16 .boolean := ⟨rfl, (sTm_7 (List.mem_of_getElem? (i := 106) rfl) rfl), by decide, by decide, fun _ => rfl, by decide, fun _ _ h => h, fun G M n cA => by simp [sarr, sNew, up1_same, vp_cell, defaultValue]⟩
