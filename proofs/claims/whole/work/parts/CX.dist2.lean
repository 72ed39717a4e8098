/-! A DISTRICT IS TOLD, and stands -/
def tkX2 : Nat → Nat → Bool := fun a k => a == 78 || (decide (54 ≤ a) && decide (a ≤ 58)) || (a == 1 && k == 1) || (a == 0 && (k == 7 || k == 13))
def tkR : Nat → Nat → Bool := fun a k => (a == 0 && (k == 2 || k == 3)) || (a == 67 && k == 3) || (a == 80 && k == 1) || (a == 76 && k == 1)
def rfC : Nat → Nat → Bool := fun a _ => decide (94 ≤ a) && decide (a < 187)
def rfJ : Nat → Nat → Bool := fun a _ => a == 132
section DI2
variable {M N N1 : sMem} {D Do G P E C W n pc pn : Nat} {c0 c1 c2 : List Nat}
theorem TK.fb {c : Nat} (h : TK N1 N D Do c) : FrB tkX2 q0 tkR N1 N := by
  obtain ⟨k1, k2, k3, k4, _⟩ := h
  have rr : ∀ a k, tkR a k = false → N.2.2.2 a k = N1.2.2.2 a k := fun a k z => by
    have z' : ¬ (tkR a k = true) := by rw [z]; decide
    unfold tkR at z'
    simp only [Bool.or_eq_true, Bool.and_eq_true, beq_iff_eq] at z'
    rw [k3, if_neg (by omega), if_neg (by omega)]
  refine ⟨⟨fun a q z => by rw [k1]; exact z, fun a k _ z => ?_, fun a k _ _ => by rw [k2], fun a k _ z => rr a k z⟩, ?_⟩
  · have z' : ¬ (tkX2 a k = true) := by rw [z]; decide
    unfold tkX2 at z'
    simp only [Bool.or_eq_true, Bool.and_eq_true, beq_iff_eq, decide_eq_true_eq] at z'
    exact k4 a k (by omega) (by omega) (by omega) (by omega)
  · have e77 : N.2.2.2 77 = N1.2.2.2 77 := funext fun k => rr 77 k rfl
    have e66 : N.2.2.2 66 = N1.2.2.2 66 := funext fun k => rr 66 k rfl
    unfold Phi
    rw [k1, e77, e66]
    exact Nat.le_refl _
theorem RfX.fb (h : RfX M N) : FrB rfC rfJ rNo M N := by
  obtain ⟨h1, h2, h3, h4⟩ := h
  refine ⟨⟨fun a q z => by rw [h1]; exact z, fun a k _ z => h3 a k ?_, fun a k _ z => h4 a k ?_, fun a k _ _ => by rw [h2]⟩, ?_⟩
  · have z' : ¬ (rfC a k = true) := by rw [z]; decide
    unfold rfC at z'
    simp only [Bool.and_eq_true, decide_eq_true_eq] at z'
    omega
  · exact fun y => by subst y; exact absurd z (show ¬ (true = false) by decide)
  · unfold Phi
    rw [h1, h2]
    exact Nat.le_refl _
theorem dist_good {b : Nat → Int32} {T : Tk} {e kk : Nat} {sa sz : Nat → Nat} {d : Ds} (h : IX M D Do G P E C W c0 c1 c2 n pc pn) (hbe : ∀ i, i < n → M.2.1 95 i = b i) (hb : ∀ i, i < n → b i ≠ mI) (cor : Cor N1 D Do G P E C W c0 c1 c2 pc pn) (hL : Lex b n T e sa sz) (he : e ≤ 1600) (hq : diR b T sa sz = .inr (d, kk)) (hv : ∀ a k, a < 187 → ¬ (3 ≤ a ∧ a ≤ 6) → (a ≠ 1 ∨ k < 6) → ¬ (Do ≤ a ∧ a ≤ Do + 21) → N1.2.1 a k = M.2.1 a k) (hj : N1.2.2.1 94 87 = M.2.2.1 94 87) (hS : CS e N1 (.inr e)) (hA : GA b n T e Do N1) (hE : CE N1 Do d (fcd d)) (hG : GF d e) (hm : ∃ m, 5 ≤ m ∧ m ≤ 60 ∧ d.1.1 = nI m) (hK : TK N1 N Do D (d.2.1 3).length) : ∃ M2, f_X12_district 94 N = some (nI kk, M2) ∧ Inv M2 := by
  obtain ⟨k, ⟨⟨hn, t1, t2, t3⟩, _, _⟩, ⟨_, ⟨⟨_, hpn, _, u8, _, u86⟩, _⟩⟩, hsn, ⟨hsd, hrf, hfl, him⟩, _, _, _, hDD⟩ := h
  have FK := hK.fb
  have hl1 : 187 ≤ N1.1.length := cor.1.cv.ln
  have hD' : (Do = 10 ∧ D = 32) ∨ (Do = 32 ∧ D = 10) := by omega
  have hDo : Do ≤ 32 := by omega
  have hcN : ClsS N.1 N.2.2.2 := FK.hc (by decide +kernel) cor.1.hc
  have hsN : RefS N.1 N.2.2.2 := FK.hs (fun _ _ => rfl) cor.1.1
  have hK2 := hK
  obtain ⟨k1, k2, k3, k4, ⟨k5, k6, k7⟩, k8, ⟨k9, k10, k11⟩, k12, k13⟩ := hK2
  have vN : ∀ a k, a < 187 → ¬ (3 ≤ a ∧ a ≤ 6) → a ≠ 1 → a ≠ 78 → ¬ (54 ≤ a ∧ a ≤ 58) → ¬ (a = 0 ∧ (k = 7 ∨ k = 13)) → ¬ (Do ≤ a ∧ a ≤ Do + 21) → N.2.1 a k = M.2.1 a k := fun a k q1 q2 q3 q4 q5 q6 q7 => by
    rw [k4 a k q4 q5 (by omega) q6]
    exact hv a k q1 q2 (Or.inl q3) q7
  have rwN : RWd N := cor.2.2.2.1.1.fr (fun c k hc => k4 c k (by unfold isWc at hc; omega) (by unfold isWc at hc; omega) (by unfold isWc at hc; omega) (by unfold isWc at hc; omega))
  have hT : RT b n N := ⟨hsN, rwN, by rw [vN 94 1 (by omega) (by omega) (by omega) (by omega) (by omega) (by omega) (by omega)]; exact t2, fun i hi => by rw [vN 95 i (by omega) (by omega) (by omega) (by omega) (by omega) (by omega) (by omega)]; exact hbe i hi⟩
  obtain ⟨v', N', R1, b1, b2, b3, b4, b5⟩ := r_dist hL hb hT
  rw [hq] at b5
  obtain ⟨e1, _, hR, _, _, hStd⟩ := b5
  subst e1
  obtain ⟨R0, hR0e⟩ : ∃ R0, R0 = fl78 R1 (0, mI) := ⟨_, rfl⟩
  have hX : RfX N N' := rfx_y b2 hStd
  rw [← hR0e] at hStd
  have v0 : ∀ a k, ¬ (a = 94 ∧ (k = 7 ∨ k = 8)) → R0.2.1 a k = R1.2.1 a k := fun a k z => by rw [hR0e]; unfold fl78; rw [wrI_ne (by omega), wrI_ne (by omega)]
  have hR0 : RD R0 d := hR.of (fun a k _ _ => v0 a k (by omega)) (fun k => by rw [hR0e]; rfl) (v0 94 55 (by omega))
  have FX := hX.fb
  have hcN' : ClsS N'.1 N'.2.2.2 := by rw [hX.1, hX.2.1]; exact hcN
  have cv := cv_of (M1 := N1) hD' hA hE hG hK hX hR0 hStd hcN'
  have du := du_of hR0 hG he hm hStd
  have now := now_of (C := 0) hD' hE hG hK hX hR0 hStd
  obtain ⟨⟨s1, s2⟩, s3, s4, s5, ⟨s6, s7, s8⟩, s9, s10⟩ := hStd
  have hs' : RefS N'.1 N'.2.2.2 := by rw [s1, s2, hR0e]; exact b4
  have hl' : 187 ≤ N'.1.length := by rw [hX.1, k1]; exact hl1
  have hlN : 187 ≤ N.1.length := by rw [k1]; exact hl1
  have w1 : ∀ a k, a < 94 → N'.2.1 a k = N.2.1 a k := fun a k z => hX.2.2.1 a k (Or.inl z)
  have w2 : ∀ a k, a < 130 ∨ 140 < a → a ≠ 94 → a < 187 → a ≠ 183 ∧ a ≠ 184 → 94 < a → N'.2.1 a k = M.2.1 a k := fun a k q1 q2 q3 q4 q5 => by
    rw [s4 a k q1 q2, v0 a k (by omega), b2.i (r57_n (by omega) q4 (by omega))]
    exact vN a k q3 (by omega) (by omega) (by omega) (by omega) (by omega) (by omega)
  have w3 : ∀ k, k ≠ 57 → k ≠ 80 → k ≠ 85 → ¬ (k = 1 ∨ k = 2 ∨ k = 3 ∨ k = 4 ∨ k = 5 ∨ k = 6 ∨ k = 7 ∨ k = 8 ∨ k = 10 ∨ k = 44 ∨ k = 55 ∨ k = 56 ∨ k = 58 ∨ k = 116 ∨ k = 118 ∨ k = 119 ∨ k = 120) → N'.2.1 94 k = M.2.1 94 k := fun k q1 q2 q3 q4 => by
    rw [s5 k q1 q2 q3, v0 94 k (by omega), b2.i (r57_n (by omega) (by omega) (by omega))]
    exact vN 94 k (by omega) (by omega) (by omega) (by omega) (by omega) (by omega) (by omega)
  have hlen : ∀ kd, kd < 5 → (d.2.1 kd).length ≤ mxK kd := hG.1.2.2
  have hC5 : (d.2.1 3).length ≤ 5 := hlen 3 (by omega)
  obtain ⟨m, m1, m2, m3⟩ := hm
  have e130 : uR N' 130 2 = nI m := by
    rw [← uR_eq (by decide) (by decide), s3.1 0 (by decide), hR0.2.2.2.2.2.1.1, m3]
  have PAN : PA N := hA.2.2.1.fb FK.1 (by decide +kernel) (by decide +kernel)
  have PAN' : PA N' := PAN.fb FX.1 (by decide +kernel) (fun _ _ => rfl)
  have pot : Pot N' ≤ 100000 := Nat.le_trans (Pot.fb PAN FX (fun _ _ => rfl)) (Nat.le_trans (Pot.fb hA.2.2.1 FK (by decide +kernel)) cor.2.2.2.1.2.2)
  have tw : ∀ x, 10 ≤ x → x ≤ 32 → TWa N1 x → TWa N' x := fun x q1 q2 z => z.fr (fun a k z1 z2 => by rw [w1 a k (by omega), k4 a k (by omega) (by omega) (by omega) (by omega)])
  have rows := cor.1.2.2.2.1.1
  have e77 : ∀ w, N'.2.2.2 77 w = N1.2.2.2 77 w := fun w => by rw [hX.2.1, k3, if_neg (by omega), if_neg (by omega)]
  refine ⟨N', b1, Do, D, (d.2.1 0).length, (d.2.1 1).length, (d.2.1 2).length, (d.2.1 3).length, (d.2.1 4).length, fcd d 0, fcd d 1, fcd d 2, 0, 0, pn, ⟨hs', du_cong (fun a k h1 h2 => (uR_eq h1 h2).symm) du, cv, ⟨⟨fun w q hw hq => ?_, fun w w' q hw hw' a b => rows.2.1 w w' q hw hw' (by rw [← e77]; exact a) (by rw [← e77]; exact b), fun w hw h1 => ?_⟩, fun k hk => ?_⟩, now, ?_, ⟨0, by omega, ?_, ?_⟩, ?_⟩, ⟨⟨by omega, ?_, ?_, fun i hi => by omega⟩, fun kd i hk hi => ?_, fun kc k q1 q2 q3 => ?_⟩, ⟨?_, ⟨by omega, hpn, ?_, ?_, s8, ?_⟩, fun i hi => by omega⟩, ⟨0, by omega, ?_, s7, fun i hi => by omega⟩, ⟨?_, ?_, ⟨?_, ?_⟩, ?_⟩, ⟨?_, PAN', pot⟩, ?_, ?_, hD'⟩
  · rw [e77] at hq
    have := rows.1 w q hw hq
    exact ⟨this.1, by rw [hX.1, k1]; exact this.2⟩
  · rw [w1 78 w (by omega), k8 w hw] at h1; exact absurd h1 (by decide)
  · rw [hX.2.2.2 74 k (by decide), k2]; exact cor.1.2.2.2.1.2 k hk
  · rw [w3 70 (by omega) (by omega) (by omega) (by omega)]; exact k.2.2.2.2.2.1
  · rw [s9 27 (by decide)]; unfold now0; rw [if_neg (by omega)]; rfl
  · rw [w1 54 7 (by omega), k11]; rfl
  · rw [s6, e130, bI_t]
    rw [nI_int (by omega)]; omega
  · rw [w1 1 1 (by omega), k5]; rfl
  · rw [s5 1 (by decide) (by decide) (by decide), v0 94 1 (by omega), b3]; rfl
  · have hi' : i < (d.2.1 kd).length := by
      match kd, hk, hi with
      | 0, _, hi => exact hi
      | 1, _, hi => exact hi
      | 2, _, hi => exact hi
      | 3, _, hi => exact hi
    have hk2 : 1 ≤ ofK kd ∧ ofK kd ≤ 13 ∧ mxK kd ≤ 8 := (by match kd, hk with | 0, _ => decide | 1, _ => decide | 2, _ => decide | 3, _ => decide)
    have hle := hlen kd (by omega)
    refine ⟨(d.2.1 kd)[i].1, hG.1.1 kd hk _ (List.getElem_mem hi'), ?_, ?_⟩
    · rw [w1 _ _ (by omega), k4 _ _ (by omega) (by omega) (by omega) (by omega)]
      exact ((hE.1 kd (by omega)).2.2 i hi').1
    · rw [Nat.add_assoc, s3.2.2.2.2.2.2.2.2.2 (8 * kd + i) (by omega)]
      exact hR0.1.2 kd hk i hi'
  · have : N'.2.1 140 27 = nI 0 := by rw [s9 27 (by decide)]; unfold now0; rw [if_neg (by omega)]; rfl
    rw [this] at q2
    have := (nI_eq (by decide) (by omega)).mp q2
    omega
  · exact cor.2.2.1.1.fr (fun a q z => by rw [hX.1, k1]; exact z) (fun j => by rw [hX.2.1, k3, if_neg (by omega), if_neg (by omega)]) (fun a k z _ => by rw [hX.2.1, k3, if_neg (by omega), if_neg (by omega)])
  · rw [w1 0 7 (by omega), k6]; rfl
  · rw [w1 0 8 (by omega), vN 0 8 (by omega) (by omega) (by omega) (by omega) (by omega) (by omega) (by omega)]; exact u8
  · rw [w3 86 (by omega) (by omega) (by omega) (by omega)]; exact u86
  · rw [w1 0 13 (by omega), k7]; rfl
  · exact hsd.fr (by rw [w1 0 19 (by omega)]; exact vN 0 19 (by omega) (by omega) (by omega) (by omega) (by omega) (by omega) (by omega)) (by rw [hX.2.2.2 94 87 (by decide), k2]; exact hj)
  · exact hrf.fr (fun k => by rw [w1 93 k (by omega)]; exact vN 93 k (by omega) (by omega) (by omega) (by omega) (by omega) (by omega) (by omega)) (fun k => w2 96 k (by omega) (by omega) (by omega) (by omega) (by omega))
  · rw [w1 1 8 (by omega), k4 1 8 (by omega) (by omega) (by omega) (by omega), hS.2.2.1, s5 7 (by decide) (by decide) (by decide), hR0e]
    unfold fl78; rw [wrI_ne (by omega), wrI_eq]
  · rw [w1 1 9 (by omega), k4 1 9 (by omega) (by omega) (by omega) (by omega), hS.2.2.2, s5 8 (by decide) (by decide) (by decide), hR0e]
    unfold fl78; rw [wrI_eq]
  · exact him.fr (by rw [w1 0 17 (by omega)]; exact vN 0 17 (by omega) (by omega) (by omega) (by omega) (by omega) (by omega) (by omega)) (w3 126 (by omega) (by omega) (by omega) (by omega)) (fun k => by rw [w1 92 k (by omega)]; exact vN 92 k (by omega) (by omega) (by omega) (by omega) (by omega) (by omega) (by omega)) (fun k => w2 186 k (by omega) (by omega) (by omega) (by omega) (by omega))
  · exact rwN.fr (fun c k hc => by
      rw [s4 c k (by unfold isWc at hc; omega) (by unfold isWc at hc; omega), v0 c k (by unfold isWc at hc; omega), b2.i (r57_n (by unfold isWc at hc; omega) (by unfold isWc at hc; omega) (by unfold isWc at hc; omega))])
  · exact ⟨tw 10 (by omega) (by omega) cor.2.2.2.2.1.1, tw 32 (by omega) (by omega) cor.2.2.2.2.1.2⟩
  · rw [hX.2.1, k3, if_neg (by omega), if_pos ⟨rfl, rfl⟩]
theorem ok_district (h : IX M D Do G P E C W c0 c1 c2 n pc pn) : ∃ r M1 M2, f_X11_district 0 M = some (r, M1) ∧ f_X12_district 94 M1 = some (r, M2) ∧ Inv M2 := by
  have cor := h.cor
  obtain ⟨hn, t1, t2, t3⟩ := h.2.1.1
  obtain ⟨⟨rw', hA, hPot⟩, ⟨w1, w2⟩, r03, hDD⟩ := h.2.2.2.2.2
  have hc := h.1.hc
  have hl : 187 ≤ M.1.length := h.1.cv.ln
  have hD' : (Do = 10 ∧ D = 32) ∨ (Do = 32 ∧ D = 10) := by omega
  have hD1 : Do = 10 ∨ Do = 32 := by omega
  have hW : TWa M Do := by rcases hD1 with z | z <;> (rw [z]; assumption)
  obtain ⟨b, hb⟩ : ∃ b : Nat → Int32, b = fun i => M.2.1 2 i := ⟨_, rfl⟩
  have hC : CT b n M := ⟨hc, t1, hn, fun i _ => by rw [hb]⟩
  have hbe : ∀ i, i < n → M.2.1 95 i = b i := fun i hi => by rw [hb]; exact (t3 i hi).1.symm
  have hbn : ∀ i, i < n → b i ≠ mI := fun i hi z => by
    obtain ⟨v, v1, v2⟩ := (t3 i hi).2
    rw [← hbe i hi, v2, cneg (by omega)] at z
    exact z
  obtain ⟨v, N, M1, N1, e, sa, sz, a1, a2, a3, ⟨d1, d2, d3⟩, a5⟩ := c_dist hC hA hD' hW h.1.cv.2.1.1 r03
  have cor1 := cor.st a2 (fun a k z => sr_ix z) (fun _ _ _ => rfl)
  have cor2 := cor1.sf d1 d2.1.1 d2.2.2.1 d2.2.2.2
  have hA1 : PA M1 := cor1.2.2.2.1.2.1
  have hv : ∀ a k, a < 187 → ¬ (3 ≤ a ∧ a ≤ 6) → (a ≠ 1 ∨ k < 6) → ¬ (Do ≤ a ∧ a ≤ Do + 21) → N1.2.1 a k = M.2.1 a k := fun a k q1 q2 q3 q4 => by
    rw [sf_v hA1 hD1 d1 q1 (tp_no2 q3) q4]
    exact a2.i (sr_no q2 q3)
  have hl1 : 187 ≤ M1.1.length := cor1.1.cv.ln
  have hj : N1.2.2.1 94 87 = M.2.2.1 94 87 := by rw [d1.2.2.1 94 87 (by omega)]; exact a2.j rfl
  cases hR : diR b M1.2.1 sa sz with
  | inl q =>
    rw [hR] at d3 a5
    obtain ⟨d3, d4⟩ := d3
    subst d3
    obtain ⟨M2, m1, m2⟩ := dist_bad (M1 := M1) h hbe hbn cor2 a3 hR hv hj d4
    exact ⟨-1, N, M2, a1, by rw [a5]; exact m1, m2⟩
  | inr q =>
    obtain ⟨d, kk⟩ := q
    rw [hR] at d3 a5
    obtain ⟨d3, _, d4, d5, d6, d7⟩ := d3
    subst d3
    obtain ⟨M2, m1, m2⟩ := dist_good h hbe hbn cor2 a3 a3.1.2 hR hv hj d4 d2 d5 d6 d7 a5
    exact ⟨nI kk, N, M2, a1, m1, m2⟩
end DI2
