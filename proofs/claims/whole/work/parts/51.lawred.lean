/-! THE LAW out of its calls: what each pair of calls must keep -/
def OkM (Inv : sMem → Prop) (f g : sMem → Option (Int32 × sMem)) : Prop := ∀ M, Inv M → ∃ r M1 M2, f M = some (r, M1) ∧ g M1 = some (r, M2) ∧ Inv M2
def OkL (Inv : sMem → Prop) (f g : sMem → Option (Int64 × sMem)) : Prop := ∀ M, Inv M → ∃ r M1 M2, f M = some (r, M1) ∧ g M1 = some (r, M2) ∧ Inv M2
def OkP (Inv : sMem → Prop) (f g : sMem → Option Int32) : Prop := ∀ M, Inv M → ∃ r, f M = some r ∧ g M = some r
def Ok_feed (Inv : sMem → Prop) : Prop := ∀ a b c d e : Int32, OkM Inv (fun M => f_X11_feed 0 a b c d e M) (fun M => f_X12_feed 94 a b c d e M)
def Ok_end (Inv : sMem → Prop) : Prop := ∀ a : Int32, OkM Inv (fun M => f_X11_end 0 a M) (fun M => f_X12_end 94 a M)
def Ok_district (Inv : sMem → Prop) : Prop := OkM Inv (fun M => f_X11_district 0 M) (fun M => f_X12_district 94 M)
def Ok_fault (Inv : sMem → Prop) : Prop := ∀ a : Int32, OkP Inv (fun M => f_X11_fault 0 a M) (fun M => f_X12_fault 94 a M)
def Ok_has (Inv : sMem → Prop) : Prop := ∀ a : Int32, OkP Inv (fun M => f_X11_has 0 a M) (fun M => f_X12_has 94 a M)
def Ok_letter (Inv : sMem → Prop) : Prop := ∀ a b c : Int32, OkP Inv (fun M => f_X11_letter 0 a b c M) (fun M => f_X12_letter 94 a b c M)
def Ok_gate (Inv : sMem → Prop) : Prop := ∀ a b : Int32, OkP Inv (fun M => f_X11_gate 0 a b M) (fun M => f_X12_gate 94 a b M)
def Ok_era (Inv : sMem → Prop) : Prop := ∀ a b : Int32, OkP Inv (fun M => f_X11_era 0 a b M) (fun M => f_X12_era 94 a b M)
def Ok_car (Inv : sMem → Prop) : Prop := ∀ a b : Int32, OkP Inv (fun M => f_X11_car 0 a b M) (fun M => f_X12_car 94 a b M)
def Ok_kept (Inv : sMem → Prop) : Prop := ∀ a b : Int32, OkP Inv (fun M => f_X11_kept 0 a b M) (fun M => f_X12_kept 94 a b M)
def Ok_head (Inv : sMem → Prop) : Prop := ∀ a b : Int32, OkP Inv (fun M => f_X11_head 0 a b M) (fun M => f_X12_head 94 a b M)
def Ok_closed (Inv : sMem → Prop) : Prop := ∀ a b : Int32, OkM Inv (fun M => f_X11_closed 0 a b M) (fun M => f_X12_closed 94 a b M)
def Ok_opens (Inv : sMem → Prop) : Prop := ∀ a b : Int32, OkM Inv (fun M => f_X11_opens 0 a b M) (fun M => f_X12_opens 94 a b M)
def Ok_drive (Inv : sMem → Prop) : Prop := ∀ a b c : Int32, OkM Inv (fun M => f_X11_drive 0 a b c M) (fun M => f_X12_drive 94 a b c M)
def Ok_waits (Inv : sMem → Prop) : Prop := ∀ a : Int32, OkM Inv (fun M => f_X11_waits 0 a M) (fun M => f_X12_waits 94 a M)
def Ok_later (Inv : sMem → Prop) : Prop := ∀ a b c : Int32, OkM Inv (fun M => f_X11_later 0 a b c M) (fun M => f_X12_later 94 a b c M)
def Ok_late (Inv : sMem → Prop) : Prop := ∀ a b : Int32, OkM Inv (fun M => f_X11_late 0 a b M) (fun M => f_X12_late 94 a b M)
def Ok_lift (Inv : sMem → Prop) : Prop := ∀ a b : Int32, OkM Inv (fun M => f_X11_lift 0 a b M) (fun M => f_X12_lift 94 a b M)
def Ok_leave (Inv : sMem → Prop) : Prop := ∀ a b : Int32, OkM Inv (fun M => f_X11_leave 0 a b M) (fun M => f_X12_leave 94 a b M)
def Ok_closings (Inv : sMem → Prop) : Prop := ∀ a b : Int32, OkM Inv (fun M => f_X11_closings 0 a b M) (fun M => f_X12_closings 94 a b M)
def Ok_keepers (Inv : sMem → Prop) : Prop := OkM Inv (fun M => f_X11_keepers 0 M) (fun M => f_X12_keepers 94 M)
def Ok_see (Inv : sMem → Prop) : Prop := OkM Inv (fun M => f_X11_see 0 M) (fun M => f_X12_see 94 M)
def Ok_was (Inv : sMem → Prop) : Prop := ∀ a b : Int32, OkM Inv (fun M => f_X11_was 0 a b M) (fun M => f_X12_was 94 a b M)
def Ok_tells (Inv : sMem → Prop) : Prop := ∀ a b : Int32, OkM Inv (fun M => f_X11_tells 0 a b M) (fun M => f_X12_tells 94 a b M)
def Ok_put (Inv : sMem → Prop) : Prop := ∀ a b : Int32, OkM Inv (fun M => f_X11_put 0 a b M) (fun M => f_X12_put 94 a b M)
def Ok_hold (Inv : sMem → Prop) : Prop := ∀ a b : Int32, OkM Inv (fun M => f_X11_hold 0 a b M) (fun M => f_X12_hold 94 a b M)
def Ok_send (Inv : sMem → Prop) : Prop := ∀ a b : Int32, OkM Inv (fun M => f_X11_send 0 a b M) (fun M => f_X12_send 94 a b M)
def Ok_days (Inv : sMem → Prop) : Prop := ∀ a : Int32, OkM Inv (fun M => f_X11_days 0 a M) (fun M => f_X12_days 94 a M)
def Ok_chance (Inv : sMem → Prop) : Prop := ∀ a : Int32, OkM Inv (fun M => f_X11_chance 0 a M) (fun M => f_X12_chance 94 a M)
def Ok_undo (Inv : sMem → Prop) : Prop := OkM Inv (fun M => f_X11_undo 0 M) (fun M => f_X12_undo 94 M)
def Ok_seed (Inv : sMem → Prop) : Prop := ∀ a : Int32, OkM Inv (fun M => f_X11_seed 0 a M) (fun M => f_X12_seed 94 a M)
def Ok_ask (Inv : sMem → Prop) : Prop := OkL Inv (fun M => f_X11_ask 0 M) (fun M => f_X12_ask 94 M)
def Ok_image (Inv : sMem → Prop) : Prop := OkM Inv (fun M => f_X11_image 0 M) (fun M => f_X12_image 94 M)
def Ok_octet (Inv : sMem → Prop) : Prop := ∀ a : Int32, OkP Inv (fun M => f_X11_octet 0 a M) (fun M => f_X12_octet 94 a M)
def Ok_on (Inv : sMem → Prop) : Prop := OkM Inv (fun M => f_X11_on 0 M) (fun M => f_X12_on 94 M)
def Ok_status (Inv : sMem → Prop) : Prop := ∀ a : Int32, OkP Inv (fun M => f_X11_status 0 a M) (fun M => f_X12_status 94 a M)
def CallsOK (Inv : sMem → Prop) : Prop := Ok_feed Inv ∧ Ok_end Inv ∧ Ok_district Inv ∧ Ok_fault Inv ∧ Ok_has Inv ∧ Ok_letter Inv ∧ Ok_gate Inv ∧ Ok_era Inv ∧ Ok_car Inv ∧ Ok_kept Inv ∧ Ok_head Inv ∧ Ok_closed Inv ∧ Ok_opens Inv ∧ Ok_drive Inv ∧ Ok_waits Inv ∧ Ok_later Inv ∧ Ok_late Inv ∧ Ok_lift Inv ∧ Ok_leave Inv ∧ Ok_closings Inv ∧ Ok_keepers Inv ∧ Ok_see Inv ∧ Ok_was Inv ∧ Ok_tells Inv ∧ Ok_put Inv ∧ Ok_hold Inv ∧ Ok_send Inv ∧ Ok_days Inv ∧ Ok_chance Inv ∧ Ok_undo Inv ∧ Ok_seed Inv ∧ Ok_ask Inv ∧ Ok_image Inv ∧ Ok_octet Inv ∧ Ok_on Inv ∧ Ok_status Inv
theorem ldS_nI {G : sG} {i : Nat} (hi : i < G.2.2.2.2.1) (hL : G.2.2.2.2.1 ≤ 3072) : ldS G (nI i) = some (G.2.2.2.2.2.1 i) := by
  unfold ldS
  have e : (nI i).toNatClampNeg = i := nI_clamp (by omega)
  rw [e]
  exact if_pos ⟨nI_pos (by omega), hi⟩
theorem ldS_k {G : sG} {i k : Nat} {z : Int32} (hz : z = nI k) (hi : i + k < G.2.2.2.2.1) (hL : G.2.2.2.2.1 ≤ 3072) : ldS G (nI i + z) = some (G.2.2.2.2.2.1 (i + k)) := by
  rw [hz, nI_add]
  exact ldS_nI hi hL
set_option maxHeartbeats 4000000 in
theorem law_step {Inv : sMem → Prop} (h : CallsOK Inv) {G : sG} (hL : G.2.2.2.2.1 ≤ 3072) {i : Nat} (hi : i + 6 ≤ G.2.2.2.2.1) {M : sMem} (hI : Inv M) : ∃ M2, f_L_law_K18 G 0 94 (nI i) M = some (.inl (nI i + (6 : Int32), M2)) ∧ Inv M2 := by
  obtain ⟨h0, h1, h2, h3, h4, h5, h6, h7, h8, h9, h10, h11, h12, h13, h14, h15, h16, h17, h18, h19, h20, h21, h22, h23, h24, h25, h26, h27, h28, h29, h30, h31, h32, h33, h34, h35⟩ := h
  have e0 : ldS G (nI i) = some (G.2.2.2.2.2.1 i) := ldS_nI (by omega) hL
  have e1 : ldS G (nI i + (1 : Int32)) = some (G.2.2.2.2.2.1 (i + 1)) := ldS_k rfl (by omega) hL
  have e2 : ldS G (nI i + (2 : Int32)) = some (G.2.2.2.2.2.1 (i + 2)) := ldS_k rfl (by omega) hL
  have e3 : ldS G (nI i + (3 : Int32)) = some (G.2.2.2.2.2.1 (i + 3)) := ldS_k rfl (by omega) hL
  have e4 : ldS G (nI i + (4 : Int32)) = some (G.2.2.2.2.2.1 (i + 4)) := ldS_k rfl (by omega) hL
  have e5 : ldS G (nI i + (5 : Int32)) = some (G.2.2.2.2.2.1 (i + 5)) := ldS_k rfl (by omega) hL
  have hlt : ¬ ((Int32.ofNat G.2.2.2.2.1) - (6 : Int32)) < nI i := by
    have e : (Int32.ofNat G.2.2.2.2.1) - (6 : Int32) = nI (G.2.2.2.2.1 - 6) := pk_sub (a := G.2.2.2.2.1) (b := 6) (by omega)
    rw [e]
    exact nI_nlt (by omega) (by omega)
  unfold f_L_law_K18
  rw [if_neg hlt, e0, Option.bind_some]
  generalize G.2.2.2.2.2.1 i = x
  by_cases c0 : (x &&& (63 : Int32)) = (0 : Int32)
  · obtain ⟨r, M1, M2, hf, hg, hI2⟩ := h0 (G.2.2.2.2.2.1 (i + 1)) (G.2.2.2.2.2.1 (i + 2)) (G.2.2.2.2.2.1 (i + 3)) (G.2.2.2.2.2.1 (i + 4)) (G.2.2.2.2.2.1 (i + 5)) M hI
    dsimp only at hf hg
    rw [if_pos c0]
    refine ⟨M2, ?_, hI2⟩
    simp only [f_L_law_B255, f_L_law_B337, f_L_law_B413, f_L_law_B479, f_L_law_B545, f_L_law_B611, f_L_law_B677, f_L_law_B753, f_L_law_B819, f_L_law_B911, f_L_law_B977, f_L_law_B1043, f_L_law_B1125, e1, e2, e3, e4, e5, Option.bind_some, hf, hg, if_true]
    rfl
  rw [if_neg c0]
  by_cases c1 : (x &&& (63 : Int32)) = (1 : Int32)
  · obtain ⟨r, M1, M2, hf, hg, hI2⟩ := h1 (G.2.2.2.2.2.1 (i + 1)) M hI
    dsimp only at hf hg
    rw [if_pos c1]
    refine ⟨M2, ?_, hI2⟩
    simp only [f_L_law_B255, f_L_law_B337, f_L_law_B413, f_L_law_B479, f_L_law_B545, f_L_law_B611, f_L_law_B677, f_L_law_B753, f_L_law_B819, f_L_law_B911, f_L_law_B977, f_L_law_B1043, f_L_law_B1125, e1, e2, e3, e4, e5, Option.bind_some, hf, hg, if_true]
    rfl
  rw [if_neg c1]
  by_cases c2 : (x &&& (63 : Int32)) = (2 : Int32)
  · obtain ⟨r, M1, M2, hf, hg, hI2⟩ := h2  M hI
    dsimp only at hf hg
    rw [if_pos c2]
    refine ⟨M2, ?_, hI2⟩
    simp only [f_L_law_B255, f_L_law_B337, f_L_law_B413, f_L_law_B479, f_L_law_B545, f_L_law_B611, f_L_law_B677, f_L_law_B753, f_L_law_B819, f_L_law_B911, f_L_law_B977, f_L_law_B1043, f_L_law_B1125, e1, e2, e3, e4, e5, Option.bind_some, hf, hg, if_true]
    rfl
  rw [if_neg c2]
  by_cases c3 : (x &&& (63 : Int32)) = (3 : Int32)
  · obtain ⟨r, hf, hg⟩ := h3 (G.2.2.2.2.2.1 (i + 1)) M hI
    dsimp only at hf hg
    rw [if_pos c3]
    refine ⟨M, ?_, hI⟩
    simp only [f_L_law_B255, f_L_law_B337, f_L_law_B413, f_L_law_B479, f_L_law_B545, f_L_law_B611, f_L_law_B677, f_L_law_B753, f_L_law_B819, f_L_law_B911, f_L_law_B977, f_L_law_B1043, f_L_law_B1125, e1, e2, e3, e4, e5, Option.bind_some, hf, hg, if_true]
    rfl
  rw [if_neg c3]
  by_cases c4 : (x &&& (63 : Int32)) = (4 : Int32)
  · obtain ⟨r, hf, hg⟩ := h4 (G.2.2.2.2.2.1 (i + 1)) M hI
    dsimp only at hf hg
    rw [if_pos c4]
    refine ⟨M, ?_, hI⟩
    simp only [f_L_law_B255, f_L_law_B337, f_L_law_B413, f_L_law_B479, f_L_law_B545, f_L_law_B611, f_L_law_B677, f_L_law_B753, f_L_law_B819, f_L_law_B911, f_L_law_B977, f_L_law_B1043, f_L_law_B1125, e1, e2, e3, e4, e5, Option.bind_some, hf, hg, if_true]
    rfl
  rw [if_neg c4]
  by_cases c5 : (x &&& (63 : Int32)) = (5 : Int32)
  · obtain ⟨r, hf, hg⟩ := h5 (G.2.2.2.2.2.1 (i + 1)) (G.2.2.2.2.2.1 (i + 2)) (G.2.2.2.2.2.1 (i + 3)) M hI
    dsimp only at hf hg
    rw [if_pos c5]
    refine ⟨M, ?_, hI⟩
    simp only [f_L_law_B255, f_L_law_B337, f_L_law_B413, f_L_law_B479, f_L_law_B545, f_L_law_B611, f_L_law_B677, f_L_law_B753, f_L_law_B819, f_L_law_B911, f_L_law_B977, f_L_law_B1043, f_L_law_B1125, e1, e2, e3, e4, e5, Option.bind_some, hf, hg, if_true]
    rfl
  rw [if_neg c5]
  by_cases c6 : (x &&& (63 : Int32)) = (6 : Int32)
  · obtain ⟨r, hf, hg⟩ := h6 (G.2.2.2.2.2.1 (i + 1)) (G.2.2.2.2.2.1 (i + 2)) M hI
    dsimp only at hf hg
    rw [if_pos c6]
    refine ⟨M, ?_, hI⟩
    simp only [f_L_law_B255, f_L_law_B337, f_L_law_B413, f_L_law_B479, f_L_law_B545, f_L_law_B611, f_L_law_B677, f_L_law_B753, f_L_law_B819, f_L_law_B911, f_L_law_B977, f_L_law_B1043, f_L_law_B1125, e1, e2, e3, e4, e5, Option.bind_some, hf, hg, if_true]
    rfl
  rw [if_neg c6]
  by_cases c7 : (x &&& (63 : Int32)) = (7 : Int32)
  · obtain ⟨r, hf, hg⟩ := h7 (G.2.2.2.2.2.1 (i + 1)) (G.2.2.2.2.2.1 (i + 2)) M hI
    dsimp only at hf hg
    rw [if_pos c7]
    refine ⟨M, ?_, hI⟩
    simp only [f_L_law_B255, f_L_law_B337, f_L_law_B413, f_L_law_B479, f_L_law_B545, f_L_law_B611, f_L_law_B677, f_L_law_B753, f_L_law_B819, f_L_law_B911, f_L_law_B977, f_L_law_B1043, f_L_law_B1125, e1, e2, e3, e4, e5, Option.bind_some, hf, hg, if_true]
    rfl
  rw [if_neg c7]
  by_cases c8 : (x &&& (63 : Int32)) = (8 : Int32)
  · obtain ⟨r, hf, hg⟩ := h8 (G.2.2.2.2.2.1 (i + 1)) (G.2.2.2.2.2.1 (i + 2)) M hI
    dsimp only at hf hg
    rw [if_pos c8]
    refine ⟨M, ?_, hI⟩
    simp only [f_L_law_B255, f_L_law_B337, f_L_law_B413, f_L_law_B479, f_L_law_B545, f_L_law_B611, f_L_law_B677, f_L_law_B753, f_L_law_B819, f_L_law_B911, f_L_law_B977, f_L_law_B1043, f_L_law_B1125, e1, e2, e3, e4, e5, Option.bind_some, hf, hg, if_true]
    rfl
  rw [if_neg c8]
  by_cases c9 : (x &&& (63 : Int32)) = (9 : Int32)
  · obtain ⟨r, hf, hg⟩ := h9 (G.2.2.2.2.2.1 (i + 1)) (G.2.2.2.2.2.1 (i + 2)) M hI
    dsimp only at hf hg
    rw [if_pos c9]
    refine ⟨M, ?_, hI⟩
    simp only [f_L_law_B255, f_L_law_B337, f_L_law_B413, f_L_law_B479, f_L_law_B545, f_L_law_B611, f_L_law_B677, f_L_law_B753, f_L_law_B819, f_L_law_B911, f_L_law_B977, f_L_law_B1043, f_L_law_B1125, e1, e2, e3, e4, e5, Option.bind_some, hf, hg, if_true]
    rfl
  rw [if_neg c9]
  by_cases c10 : (x &&& (63 : Int32)) = (10 : Int32)
  · obtain ⟨r, hf, hg⟩ := h10 (G.2.2.2.2.2.1 (i + 1)) (G.2.2.2.2.2.1 (i + 2)) M hI
    dsimp only at hf hg
    rw [if_pos c10]
    refine ⟨M, ?_, hI⟩
    simp only [f_L_law_B255, f_L_law_B337, f_L_law_B413, f_L_law_B479, f_L_law_B545, f_L_law_B611, f_L_law_B677, f_L_law_B753, f_L_law_B819, f_L_law_B911, f_L_law_B977, f_L_law_B1043, f_L_law_B1125, e1, e2, e3, e4, e5, Option.bind_some, hf, hg, if_true]
    rfl
  rw [if_neg c10]
  by_cases c11 : (x &&& (63 : Int32)) = (11 : Int32)
  · obtain ⟨r, M1, M2, hf, hg, hI2⟩ := h11 (G.2.2.2.2.2.1 (i + 1)) (G.2.2.2.2.2.1 (i + 2)) M hI
    dsimp only at hf hg
    rw [if_pos c11]
    refine ⟨M2, ?_, hI2⟩
    simp only [f_L_law_B255, f_L_law_B337, f_L_law_B413, f_L_law_B479, f_L_law_B545, f_L_law_B611, f_L_law_B677, f_L_law_B753, f_L_law_B819, f_L_law_B911, f_L_law_B977, f_L_law_B1043, f_L_law_B1125, e1, e2, e3, e4, e5, Option.bind_some, hf, hg, if_true]
    rfl
  rw [if_neg c11]
  by_cases c12 : (x &&& (63 : Int32)) = (12 : Int32)
  · obtain ⟨r, M1, M2, hf, hg, hI2⟩ := h12 (G.2.2.2.2.2.1 (i + 1)) (G.2.2.2.2.2.1 (i + 2)) M hI
    dsimp only at hf hg
    rw [if_pos c12]
    refine ⟨M2, ?_, hI2⟩
    simp only [f_L_law_B255, f_L_law_B337, f_L_law_B413, f_L_law_B479, f_L_law_B545, f_L_law_B611, f_L_law_B677, f_L_law_B753, f_L_law_B819, f_L_law_B911, f_L_law_B977, f_L_law_B1043, f_L_law_B1125, e1, e2, e3, e4, e5, Option.bind_some, hf, hg, if_true]
    rfl
  rw [if_neg c12]
  by_cases c13 : (x &&& (63 : Int32)) = (13 : Int32)
  · obtain ⟨r, M1, M2, hf, hg, hI2⟩ := h13 (G.2.2.2.2.2.1 (i + 1)) (G.2.2.2.2.2.1 (i + 2)) (G.2.2.2.2.2.1 (i + 3)) M hI
    dsimp only at hf hg
    rw [if_pos c13]
    refine ⟨M2, ?_, hI2⟩
    simp only [f_L_law_B255, f_L_law_B337, f_L_law_B413, f_L_law_B479, f_L_law_B545, f_L_law_B611, f_L_law_B677, f_L_law_B753, f_L_law_B819, f_L_law_B911, f_L_law_B977, f_L_law_B1043, f_L_law_B1125, e1, e2, e3, e4, e5, Option.bind_some, hf, hg, if_true]
    rfl
  rw [if_neg c13]
  by_cases c14 : (x &&& (63 : Int32)) = (14 : Int32)
  · obtain ⟨r, M1, M2, hf, hg, hI2⟩ := h14 (G.2.2.2.2.2.1 (i + 1)) M hI
    dsimp only at hf hg
    rw [if_pos c14]
    refine ⟨M2, ?_, hI2⟩
    simp only [f_L_law_B255, f_L_law_B337, f_L_law_B413, f_L_law_B479, f_L_law_B545, f_L_law_B611, f_L_law_B677, f_L_law_B753, f_L_law_B819, f_L_law_B911, f_L_law_B977, f_L_law_B1043, f_L_law_B1125, e1, e2, e3, e4, e5, Option.bind_some, hf, hg, if_true]
    rfl
  rw [if_neg c14]
  by_cases c15 : (x &&& (63 : Int32)) = (15 : Int32)
  · obtain ⟨r, M1, M2, hf, hg, hI2⟩ := h15 (G.2.2.2.2.2.1 (i + 1)) (G.2.2.2.2.2.1 (i + 2)) (G.2.2.2.2.2.1 (i + 3)) M hI
    dsimp only at hf hg
    rw [if_pos c15]
    refine ⟨M2, ?_, hI2⟩
    simp only [f_L_law_B255, f_L_law_B337, f_L_law_B413, f_L_law_B479, f_L_law_B545, f_L_law_B611, f_L_law_B677, f_L_law_B753, f_L_law_B819, f_L_law_B911, f_L_law_B977, f_L_law_B1043, f_L_law_B1125, e1, e2, e3, e4, e5, Option.bind_some, hf, hg, if_true]
    rfl
  rw [if_neg c15]
  by_cases c16 : (x &&& (63 : Int32)) = (16 : Int32)
  · obtain ⟨r, M1, M2, hf, hg, hI2⟩ := h16 (G.2.2.2.2.2.1 (i + 1)) (G.2.2.2.2.2.1 (i + 2)) M hI
    dsimp only at hf hg
    rw [if_pos c16]
    refine ⟨M2, ?_, hI2⟩
    simp only [f_L_law_B255, f_L_law_B337, f_L_law_B413, f_L_law_B479, f_L_law_B545, f_L_law_B611, f_L_law_B677, f_L_law_B753, f_L_law_B819, f_L_law_B911, f_L_law_B977, f_L_law_B1043, f_L_law_B1125, e1, e2, e3, e4, e5, Option.bind_some, hf, hg, if_true]
    rfl
  rw [if_neg c16]
  by_cases c17 : (x &&& (63 : Int32)) = (17 : Int32)
  · obtain ⟨r, M1, M2, hf, hg, hI2⟩ := h17 (G.2.2.2.2.2.1 (i + 1)) (G.2.2.2.2.2.1 (i + 2)) M hI
    dsimp only at hf hg
    rw [if_pos c17]
    refine ⟨M2, ?_, hI2⟩
    simp only [f_L_law_B255, f_L_law_B337, f_L_law_B413, f_L_law_B479, f_L_law_B545, f_L_law_B611, f_L_law_B677, f_L_law_B753, f_L_law_B819, f_L_law_B911, f_L_law_B977, f_L_law_B1043, f_L_law_B1125, e1, e2, e3, e4, e5, Option.bind_some, hf, hg, if_true]
    rfl
  rw [if_neg c17]
  by_cases c18 : (x &&& (63 : Int32)) = (18 : Int32)
  · obtain ⟨r, M1, M2, hf, hg, hI2⟩ := h18 (G.2.2.2.2.2.1 (i + 1)) (G.2.2.2.2.2.1 (i + 2)) M hI
    dsimp only at hf hg
    rw [if_pos c18]
    refine ⟨M2, ?_, hI2⟩
    simp only [f_L_law_B255, f_L_law_B337, f_L_law_B413, f_L_law_B479, f_L_law_B545, f_L_law_B611, f_L_law_B677, f_L_law_B753, f_L_law_B819, f_L_law_B911, f_L_law_B977, f_L_law_B1043, f_L_law_B1125, e1, e2, e3, e4, e5, Option.bind_some, hf, hg, if_true]
    rfl
  rw [if_neg c18]
  by_cases c19 : (x &&& (63 : Int32)) = (19 : Int32)
  · obtain ⟨r, M1, M2, hf, hg, hI2⟩ := h19 (G.2.2.2.2.2.1 (i + 1)) (G.2.2.2.2.2.1 (i + 2)) M hI
    dsimp only at hf hg
    rw [if_pos c19]
    refine ⟨M2, ?_, hI2⟩
    simp only [f_L_law_B255, f_L_law_B337, f_L_law_B413, f_L_law_B479, f_L_law_B545, f_L_law_B611, f_L_law_B677, f_L_law_B753, f_L_law_B819, f_L_law_B911, f_L_law_B977, f_L_law_B1043, f_L_law_B1125, e1, e2, e3, e4, e5, Option.bind_some, hf, hg, if_true]
    rfl
  rw [if_neg c19]
  by_cases c20 : (x &&& (63 : Int32)) = (20 : Int32)
  · obtain ⟨r, M1, M2, hf, hg, hI2⟩ := h20  M hI
    dsimp only at hf hg
    rw [if_pos c20]
    refine ⟨M2, ?_, hI2⟩
    simp only [f_L_law_B255, f_L_law_B337, f_L_law_B413, f_L_law_B479, f_L_law_B545, f_L_law_B611, f_L_law_B677, f_L_law_B753, f_L_law_B819, f_L_law_B911, f_L_law_B977, f_L_law_B1043, f_L_law_B1125, e1, e2, e3, e4, e5, Option.bind_some, hf, hg, if_true]
    rfl
  rw [if_neg c20]
  by_cases c21 : (x &&& (63 : Int32)) = (21 : Int32)
  · obtain ⟨r, M1, M2, hf, hg, hI2⟩ := h21  M hI
    dsimp only at hf hg
    rw [if_pos c21]
    refine ⟨M2, ?_, hI2⟩
    simp only [f_L_law_B255, f_L_law_B337, f_L_law_B413, f_L_law_B479, f_L_law_B545, f_L_law_B611, f_L_law_B677, f_L_law_B753, f_L_law_B819, f_L_law_B911, f_L_law_B977, f_L_law_B1043, f_L_law_B1125, e1, e2, e3, e4, e5, Option.bind_some, hf, hg, if_true]
    rfl
  rw [if_neg c21]
  by_cases c22 : (x &&& (63 : Int32)) = (22 : Int32)
  · obtain ⟨r, M1, M2, hf, hg, hI2⟩ := h22 (G.2.2.2.2.2.1 (i + 1)) (G.2.2.2.2.2.1 (i + 2)) M hI
    dsimp only at hf hg
    rw [if_pos c22]
    refine ⟨M2, ?_, hI2⟩
    simp only [f_L_law_B255, f_L_law_B337, f_L_law_B413, f_L_law_B479, f_L_law_B545, f_L_law_B611, f_L_law_B677, f_L_law_B753, f_L_law_B819, f_L_law_B911, f_L_law_B977, f_L_law_B1043, f_L_law_B1125, e1, e2, e3, e4, e5, Option.bind_some, hf, hg, if_true]
    rfl
  rw [if_neg c22]
  by_cases c23 : (x &&& (63 : Int32)) = (23 : Int32)
  · obtain ⟨r, M1, M2, hf, hg, hI2⟩ := h23 (G.2.2.2.2.2.1 (i + 1)) (G.2.2.2.2.2.1 (i + 2)) M hI
    dsimp only at hf hg
    rw [if_pos c23]
    refine ⟨M2, ?_, hI2⟩
    simp only [f_L_law_B255, f_L_law_B337, f_L_law_B413, f_L_law_B479, f_L_law_B545, f_L_law_B611, f_L_law_B677, f_L_law_B753, f_L_law_B819, f_L_law_B911, f_L_law_B977, f_L_law_B1043, f_L_law_B1125, e1, e2, e3, e4, e5, Option.bind_some, hf, hg, if_true]
    rfl
  rw [if_neg c23]
  by_cases c24 : (x &&& (63 : Int32)) = (24 : Int32)
  · obtain ⟨r, M1, M2, hf, hg, hI2⟩ := h24 (G.2.2.2.2.2.1 (i + 1)) (G.2.2.2.2.2.1 (i + 2)) M hI
    dsimp only at hf hg
    rw [if_pos c24]
    refine ⟨M2, ?_, hI2⟩
    simp only [f_L_law_B255, f_L_law_B337, f_L_law_B413, f_L_law_B479, f_L_law_B545, f_L_law_B611, f_L_law_B677, f_L_law_B753, f_L_law_B819, f_L_law_B911, f_L_law_B977, f_L_law_B1043, f_L_law_B1125, e1, e2, e3, e4, e5, Option.bind_some, hf, hg, if_true]
    rfl
  rw [if_neg c24]
  by_cases c25 : (x &&& (63 : Int32)) = (25 : Int32)
  · obtain ⟨r, M1, M2, hf, hg, hI2⟩ := h25 (G.2.2.2.2.2.1 (i + 1)) (G.2.2.2.2.2.1 (i + 2)) M hI
    dsimp only at hf hg
    rw [if_pos c25]
    refine ⟨M2, ?_, hI2⟩
    simp only [f_L_law_B255, f_L_law_B337, f_L_law_B413, f_L_law_B479, f_L_law_B545, f_L_law_B611, f_L_law_B677, f_L_law_B753, f_L_law_B819, f_L_law_B911, f_L_law_B977, f_L_law_B1043, f_L_law_B1125, e1, e2, e3, e4, e5, Option.bind_some, hf, hg, if_true]
    rfl
  rw [if_neg c25]
  by_cases c26 : (x &&& (63 : Int32)) = (26 : Int32)
  · obtain ⟨r, M1, M2, hf, hg, hI2⟩ := h26 (G.2.2.2.2.2.1 (i + 1)) (G.2.2.2.2.2.1 (i + 2)) M hI
    dsimp only at hf hg
    rw [if_pos c26]
    refine ⟨M2, ?_, hI2⟩
    simp only [f_L_law_B255, f_L_law_B337, f_L_law_B413, f_L_law_B479, f_L_law_B545, f_L_law_B611, f_L_law_B677, f_L_law_B753, f_L_law_B819, f_L_law_B911, f_L_law_B977, f_L_law_B1043, f_L_law_B1125, e1, e2, e3, e4, e5, Option.bind_some, hf, hg, if_true]
    rfl
  rw [if_neg c26]
  by_cases c27 : (x &&& (63 : Int32)) = (27 : Int32)
  · obtain ⟨r, M1, M2, hf, hg, hI2⟩ := h27 (G.2.2.2.2.2.1 (i + 1)) M hI
    dsimp only at hf hg
    rw [if_pos c27]
    refine ⟨M2, ?_, hI2⟩
    simp only [f_L_law_B255, f_L_law_B337, f_L_law_B413, f_L_law_B479, f_L_law_B545, f_L_law_B611, f_L_law_B677, f_L_law_B753, f_L_law_B819, f_L_law_B911, f_L_law_B977, f_L_law_B1043, f_L_law_B1125, e1, e2, e3, e4, e5, Option.bind_some, hf, hg, if_true]
    rfl
  rw [if_neg c27]
  by_cases c28 : (x &&& (63 : Int32)) = (28 : Int32)
  · obtain ⟨r, M1, M2, hf, hg, hI2⟩ := h28 (G.2.2.2.2.2.1 (i + 1)) M hI
    dsimp only at hf hg
    rw [if_pos c28]
    refine ⟨M2, ?_, hI2⟩
    simp only [f_L_law_B255, f_L_law_B337, f_L_law_B413, f_L_law_B479, f_L_law_B545, f_L_law_B611, f_L_law_B677, f_L_law_B753, f_L_law_B819, f_L_law_B911, f_L_law_B977, f_L_law_B1043, f_L_law_B1125, e1, e2, e3, e4, e5, Option.bind_some, hf, hg, if_true]
    rfl
  rw [if_neg c28]
  by_cases c29 : (x &&& (63 : Int32)) = (29 : Int32)
  · obtain ⟨r, M1, M2, hf, hg, hI2⟩ := h29  M hI
    dsimp only at hf hg
    rw [if_pos c29]
    refine ⟨M2, ?_, hI2⟩
    simp only [f_L_law_B255, f_L_law_B337, f_L_law_B413, f_L_law_B479, f_L_law_B545, f_L_law_B611, f_L_law_B677, f_L_law_B753, f_L_law_B819, f_L_law_B911, f_L_law_B977, f_L_law_B1043, f_L_law_B1125, e1, e2, e3, e4, e5, Option.bind_some, hf, hg, if_true]
    rfl
  rw [if_neg c29]
  by_cases c30 : (x &&& (63 : Int32)) = (30 : Int32)
  · obtain ⟨r, M1, M2, hf, hg, hI2⟩ := h30 (G.2.2.2.2.2.1 (i + 1)) M hI
    dsimp only at hf hg
    rw [if_pos c30]
    refine ⟨M2, ?_, hI2⟩
    simp only [f_L_law_B255, f_L_law_B337, f_L_law_B413, f_L_law_B479, f_L_law_B545, f_L_law_B611, f_L_law_B677, f_L_law_B753, f_L_law_B819, f_L_law_B911, f_L_law_B977, f_L_law_B1043, f_L_law_B1125, e1, e2, e3, e4, e5, Option.bind_some, hf, hg, if_true]
    rfl
  rw [if_neg c30]
  by_cases c31 : (x &&& (63 : Int32)) = (31 : Int32)
  · obtain ⟨r, M1, M2, hf, hg, hI2⟩ := h31  M hI
    dsimp only at hf hg
    rw [if_pos c31]
    refine ⟨M2, ?_, hI2⟩
    simp only [f_L_law_B255, f_L_law_B337, f_L_law_B413, f_L_law_B479, f_L_law_B545, f_L_law_B611, f_L_law_B677, f_L_law_B753, f_L_law_B819, f_L_law_B911, f_L_law_B977, f_L_law_B1043, f_L_law_B1125, e1, e2, e3, e4, e5, Option.bind_some, hf, hg, if_true]
    rfl
  rw [if_neg c31]
  by_cases c32 : (x &&& (63 : Int32)) = (32 : Int32)
  · obtain ⟨r, M1, M2, hf, hg, hI2⟩ := h32  M hI
    dsimp only at hf hg
    rw [if_pos c32]
    refine ⟨M2, ?_, hI2⟩
    simp only [f_L_law_B255, f_L_law_B337, f_L_law_B413, f_L_law_B479, f_L_law_B545, f_L_law_B611, f_L_law_B677, f_L_law_B753, f_L_law_B819, f_L_law_B911, f_L_law_B977, f_L_law_B1043, f_L_law_B1125, e1, e2, e3, e4, e5, Option.bind_some, hf, hg, if_true]
    rfl
  rw [if_neg c32]
  by_cases c33 : (x &&& (63 : Int32)) = (33 : Int32)
  · obtain ⟨r, hf, hg⟩ := h33 (G.2.2.2.2.2.1 (i + 1)) M hI
    dsimp only at hf hg
    rw [if_pos c33]
    refine ⟨M, ?_, hI⟩
    simp only [f_L_law_B255, f_L_law_B337, f_L_law_B413, f_L_law_B479, f_L_law_B545, f_L_law_B611, f_L_law_B677, f_L_law_B753, f_L_law_B819, f_L_law_B911, f_L_law_B977, f_L_law_B1043, f_L_law_B1125, e1, e2, e3, e4, e5, Option.bind_some, hf, hg, if_true]
    rfl
  rw [if_neg c33]
  by_cases c34 : (x &&& (63 : Int32)) = (34 : Int32)
  · obtain ⟨r, M1, M2, hf, hg, hI2⟩ := h34  M hI
    dsimp only at hf hg
    rw [if_pos c34]
    refine ⟨M2, ?_, hI2⟩
    simp only [f_L_law_B255, f_L_law_B337, f_L_law_B413, f_L_law_B479, f_L_law_B545, f_L_law_B611, f_L_law_B677, f_L_law_B753, f_L_law_B819, f_L_law_B911, f_L_law_B977, f_L_law_B1043, f_L_law_B1125, e1, e2, e3, e4, e5, Option.bind_some, hf, hg, if_true]
    rfl
  rw [if_neg c34]
  by_cases c35 : (x &&& (63 : Int32)) = (35 : Int32)
  · obtain ⟨r, hf, hg⟩ := h35 (G.2.2.2.2.2.1 (i + 1)) M hI
    dsimp only at hf hg
    rw [if_pos c35]
    refine ⟨M, ?_, hI⟩
    simp only [f_L_law_B255, f_L_law_B337, f_L_law_B413, f_L_law_B479, f_L_law_B545, f_L_law_B611, f_L_law_B677, f_L_law_B753, f_L_law_B819, f_L_law_B911, f_L_law_B977, f_L_law_B1043, f_L_law_B1125, e1, e2, e3, e4, e5, Option.bind_some, hf, hg, if_true]
    rfl
  rw [if_neg c35]
  exact ⟨M, rfl, hI⟩
theorem law_true {Inv : sMem → Prop} (h : CallsOK Inv) (h0 : ∃ M1 M2, f_X11_init 0 (sNew 11 20 sM0) = some M1 ∧ sLen M1 = 94 ∧ f_X12_init 94 (sNew 12 127 M1) = some M2 ∧ Inv M2) (hroom : ∀ M, Inv M → sLen M ≤ 600000 ∧ sSlots M ≤ 7302250) : LawTrue := by
  intro G hL
  obtain ⟨M1, M2, g1, g2, g3, g4⟩ := h0
  have key : ∃ b : Int32 × sMem, sItr (fun a : (Int32 × sMem) => f_L_law_K18 G 0 94 a.1 a.2) sFuel (0, M2) = some b ∧ (b.1 = 1 ∧ Inv b.2) := by
    refine sItr_inv (fun a : Int32 × sMem => Inv a.2 ∧ ∃ i : Nat, a.1 = nI i ∧ i ≤ 3072 + 6) (fun a => 4000 - a.1.toNatClampNeg) _ (fun a ha => ?_) sFuel (0, M2) ⟨g4, 0, rfl, by decide⟩ (by show 4000 - 0 < 1000000; decide)
    obtain ⟨v, M⟩ := a
    obtain ⟨hI, i, hv, hi⟩ := ha
    dsimp only at hI hv ⊢
    subst hv
    by_cases hle : i + 6 ≤ G.2.2.2.2.1
    · obtain ⟨M3, e1, e2⟩ := law_step h hL hle hI
      refine Or.inl ⟨(nI i + (6 : Int32), M3), e1, ⟨e2, i + 6, nI_add i 6, by omega⟩, ?_⟩
      dsimp only
      rw [show (nI i + (6 : Int32)) = nI (i + 6) from nI_add i 6, nI_clamp (by omega), nI_clamp (by omega)]
      omega
    · refine Or.inr ⟨(1, M), ?_, rfl, hI⟩
      unfold f_L_law_K18
      refine if_pos ?_
      by_cases h6 : 6 ≤ G.2.2.2.2.1
      · have e : (Int32.ofNat G.2.2.2.2.1) - (6 : Int32) = nI (G.2.2.2.2.1 - 6) := pk_sub (a := G.2.2.2.2.1) (b := 6) h6
        rw [e]
        exact nI_lt (by omega) (by omega)
      · have e : (Int32.ofNat G.2.2.2.2.1) - (6 : Int32) < 0 := pk_sneg (a := G.2.2.2.2.1) (b := 6) (by decide) (by omega)
        refine lt_i.mpr ?_
        have e2 := lt_i.mp e
        rw [nI_i (by omega)]
        have e3 : (0 : Int32).toInt = 0 := rfl
        omega
  obtain ⟨⟨r, M3⟩, k1, k2, k3⟩ := key
  dsimp only at k2 k3
  subst k2
  obtain ⟨r1, r2⟩ := hroom M3 k3
  refine ⟨M3, ?_, r1, r2⟩
  unfold f_L_law
  have z : sLen sM0 = 0 := rfl
  simp only [z, g1, Option.bind_some, g2, g3]
  unfold f_L_law_L18
  rw [k1]
  rfl
