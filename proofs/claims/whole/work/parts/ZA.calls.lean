/-! ALL CALLS, and room: all but ask and keepers, which are premises here -/
section ALL
theorem sz_le : ∀ l : List (Nat × Nat), l.length ≤ szS l ∧ (l.map Prod.snd).sum ≤ szS l
  | [] => ⟨Nat.le_refl _, Nat.le_refl _⟩
  | q :: l => by
    obtain ⟨h1, h2⟩ := sz_le l
    have e : szS (q :: l) = (q.2 + 1) + szS l := by unfold szS; rw [List.map_cons, List.sum_cons]
    rw [e, List.length_cons, List.map_cons, List.sum_cons]
    omega
theorem inv_room (M : sMem) (h : Inv M) : sLen M ≤ 600000 ∧ sSlots M ≤ 7302250 := by
  obtain ⟨D, Do, G, P, E, C, W, c0, c1, c2, n, pc, pn, h⟩ := h
  have hp := h.2.2.2.2.2.1.2.2
  obtain ⟨h1, h2⟩ := sz_le M.1
  have h3 : szS M.1 ≤ Pot M := by unfold Pot Phi; omega
  unfold sLen sSlots
  omega
theorem okM {f g : sMem → Option (Int32 × sMem)} (h : ∀ {M : sMem} {D Do G P E C W n pc pn : Nat} {c0 c1 c2 : List Nat}, IX M D Do G P E C W c0 c1 c2 n pc pn → ∃ r M1 M2, f M = some (r, M1) ∧ g M1 = some (r, M2) ∧ Inv M2) : OkM Inv f g := fun M hI => by
  obtain ⟨D, Do, G, P, E, C, W, c0, c1, c2, n, pc, pn, hI⟩ := hI
  exact h hI
theorem okP {f g : sMem → Option Int32} (h : ∀ {M : sMem} {D Do G P E C W n pc pn : Nat} {c0 c1 c2 : List Nat}, IX M D Do G P E C W c0 c1 c2 n pc pn → ∃ r, f M = some r ∧ g M = some r) : OkP Inv f g := fun M hI => by
  obtain ⟨D, Do, G, P, E, C, W, c0, c1, c2, n, pc, pn, hI⟩ := hI
  exact h hI
theorem calls_ok (ha : Ok_ask Inv) (hk : Ok_keepers Inv) : CallsOK Inv := by
  refine ⟨fun a b c d e => okM fun h => ok_feed h a b c d e, fun a => okM fun h => ok_end h a, okM fun h => ok_district h, fun a => okP fun h => ?_, fun a => okP fun h => ?_, fun a b c => okP fun h => ok_letter h.1 h.2.1.2.1 a b c, fun a b => okP fun h => ok_gate h.1 a b, fun a b => okP fun h => ok_era h.1 a b, fun a b => okP fun h => ok_car h.1 a b, fun a b => okP fun h => ?_, fun a b => okP fun h => ok_head h.1 a b, fun a b => okM fun h => ok_closed h a b, fun a b => okM fun h => ok_opens h a b, fun a b c => okM fun h => ok_drive h a b c, fun a => okM fun h => ok_waits h a, fun a b c => okM fun h => ok_later h a b c, fun a b => okM fun h => ok_late h a b, fun a b => okM fun h => ok_lift h a b, fun a b => okM fun h => ok_leave h a b, fun a b => okM fun h => ok_closings h a b, hk, okM fun h => ok_see h, fun a b => okM fun h => ok_was h a b, fun a b => okM fun h => ok_tells h a b, fun a b => okM fun h => ok_put h a b, fun a b => okM fun h => ok_hold h a b, fun a b => okM fun h => ok_send h a b, fun a => okM fun h => ok_days h a, fun a => okM fun h => ok_chance h a, okM fun h => ok_undo h, fun a => okM fun h => ok_seed h a, ha, okM fun h => ok_image h, fun a => okP fun h => ?_, okM fun h => ok_on h, fun a => okP fun h => ?_⟩
  · exact ok_fault h.1.hc h.1.1 h.2.2.2.2.1.2.2.1.1 h.2.2.2.2.1.2.2.1.2 a
  · obtain ⟨sc, _, s1, s2, _⟩ := h.2.2.2.1
    obtain ⟨_, _, u1, _, u2, _⟩ := h.2.2.1.2.1
    exact ok_has h.1 (by rw [s1, s2]) (by rw [u1, u2]) a
  · obtain ⟨kc, k1, k2, k3⟩ := h.1.2.2.2.2.2.2.1
    have e : (nI kc).toInt = kc := nI_i (by omega)
    refine ok_kept h.1.hc h.1.1 (by rw [k2, k3]) (by rw [k2, e]; omega) (fun k hk => h.2.1.2.2 kc k k1 k2 ?_) a b
    rw [k2, e] at hk
    omega
  · obtain ⟨z, z1, z2, z3, z4⟩ := h.2.2.2.2.1.2.2.2
    have e : (nI z).toInt = z := nI_i (by omega)
    refine ok_octet h.1.hc h.1.1 (by rw [z2, z3]) (by rw [z3, e]; omega) (fun k hk => z4 k ?_) a
    rw [z3, e] at hk
    omega
  · exact ok_status h.1.hc h.1.1 h.2.2.2.2.1.2.1 a
theorem some_of {α : Type} {o : Option α} {d : α} (h : o.isSome = true) : o = some (o.getD d) := by
  cases o with
  | none => cases h
  | some x => rfl
theorem law_of (ha : Ok_ask Inv) (hk : Ok_keepers Inv) : LawTrue := by
  refine law_true (calls_ok ha hk) ⟨mI1, mI2, some_of mI1_ok, ?_, some_of mI2_ok, inv_0⟩ inv_room
  unfold sLen
  rw [mI1_sh]
  decide +kernel
end ALL
