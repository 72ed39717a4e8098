/-! THE TAPE: feed, end -/
theorem bv_toInt (x : Int32) : x.toInt = if x.toBitVec.toNat < 2147483648 then (x.toBitVec.toNat : Int) else (x.toBitVec.toNat : Int) - 4294967296 := by
  show x.toBitVec.toInt = _
  rw [BitVec.toInt_eq_toNat_cond]
  by_cases h : 2 * x.toBitVec.toNat < 2 ^ 32
  · rw [if_pos h, if_pos (by omega)]
  · rw [if_neg h, if_neg (by omega)]; rfl
theorem bv_lt (x : Int32) : x.toBitVec.toNat < 4294967296 := x.toBitVec.isLt
/-- byte s of a number: 0 the highest -/
def byt (w : Int32) (s : Nat) : Int32 := nI (w.toBitVec.toNat / 2 ^ (24 - 8 * s) % 256)
theorem byt_u (w : Int32) {s : Nat} {z : Int32} (hz : z = nI (24 - 8 * s)) (hs : s < 4) : (w.toUInt32 >>> (z.toUInt32 &&& Int32.toUInt32 31)).toInt32 &&& (255 : Int32) = byt w s := by
  subst hz
  unfold byt
  rw [pk_and _ 8 (by decide)]
  have h : (w.toUInt32 >>> ((nI (24 - 8 * s)).toUInt32 &&& Int32.toUInt32 31)).toInt32.toBitVec.toNat = w.toBitVec.toNat / 2 ^ (24 - 8 * s) := by
    refine pk_ushr w (nI (24 - 8 * s)) (24 - 8 * s) ?_
    match s, hs with
    | 0, _ => decide
    | 1, _ => decide
    | 2, _ => decide
    | 3, _ => decide
  rw [h]
theorem byt_s (w : Int32) {s : Nat} {z : Int32} (hz : z &&& 31 = nI (24 - 8 * s)) (hs : s < 4) : (w >>> (z &&& 31)) &&& (255 : Int32) = byt w s := by
  rw [hz]
  unfold byt
  rw [pk_and _ 8 (by decide)]
  congr 1
  have hsh : (w >>> nI (24 - 8 * s)).toInt = w.toInt >>> (24 - 8 * s) := by
    refine pk_shr w (nI (24 - 8 * s)) (24 - 8 * s) ?_
    match s, hs with
    | 0, _ => decide
    | 1, _ => decide
    | 2, _ => decide
    | 3, _ => decide
  rw [Int.shiftRight_eq_div_pow] at hsh
  have h1 := bv_toInt (w >>> nI (24 - 8 * s))
  have h2 := bv_toInt w
  have h3 := bv_lt w
  have h4 := bv_lt (w >>> nI (24 - 8 * s))
  generalize (w >>> nI (24 - 8 * s)).toBitVec.toNat = y at h1 h4 ⊢
  generalize w.toBitVec.toNat = n at h2 h3 ⊢
  rw [h1, h2] at hsh
  match s, hs with
  | 0, _ =>
    simp only [Nat.mul_zero, Nat.sub_zero, Nat.reducePow, Nat.reduceMul, Nat.reduceSub] at hsh ⊢
    split at hsh <;> split at hsh <;> omega
  | 1, _ =>
    simp only [Nat.reducePow, Nat.reduceMul, Nat.reduceSub] at hsh ⊢
    split at hsh <;> split at hsh <;> omega
  | 2, _ =>
    simp only [Nat.reducePow, Nat.reduceMul, Nat.reduceSub] at hsh ⊢
    split at hsh <;> split at hsh <;> omega
  | 3, _ =>
    simp only [Nat.reducePow, Nat.reduceMul, Nat.reduceSub] at hsh ⊢
    split at hsh <;> split at hsh <;> omega
theorem byt_rg (w : Int32) (s : Nat) : 0 ≤ (byt w s).toInt ∧ (byt w s).toInt ≤ 255 := by
  unfold byt
  rw [nI_i (by omega)]
  omega
/-- what twenty bytes are -/
def fed (a b c d e : Int32) (k : Nat) : Int32 := byt (if k < 4 then a else if k < 8 then b else if k < 12 then c else if k < 16 then d else e) (k % 4)
/-- memories that agree but for what P names -/
def Off (P : Nat → Nat → Prop) (M M' : sMem) : Prop := M'.1 = M.1 ∧ M'.2.2.2 = M.2.2.2 ∧ M'.2.2.1 = M.2.2.1 ∧ ∀ a k, ¬ P a k → M'.2.1 a k = M.2.1 a k
theorem Off.rf {P : Nat → Nat → Prop} {M : sMem} : Off P M M := ⟨rfl, rfl, rfl, fun _ _ _ => rfl⟩
theorem Off.wr {P : Nat → Nat → Prop} {M M' : sMem} {a k : Nat} {x : Int32} (h : Off P M M') (hp : P a k) : Off P M (wrI M' a k x) :=
  ⟨h.1, h.2.1, h.2.2.1, fun b j hb => by rw [wrI_get, if_neg (fun q => hb (by rw [q.1, q.2]; exact hp))]; exact h.2.2.2 b j hb⟩
theorem Off.tr {P : Nat → Nat → Prop} {M M1 M2 : sMem} (h : Off P M M1) (h2 : Off P M1 M2) : Off P M M2 := ⟨h2.1.trans h.1, h2.2.1.trans h.2.1, h2.2.2.1.trans h.2.2.1, fun a k hk => (h2.2.2.2 a k hk).trans (h.2.2.2 a k hk)⟩
theorem Off.mono {P Q : Nat → Nat → Prop} {M M1 : sMem} (h : Off P M M1) (hq : ∀ a k, P a k → Q a k) : Off Q M M1 := ⟨h.1, h.2.1, h.2.2.1, fun a k hk => h.2.2.2 a k (fun z => hk (hq a k z))⟩
section TP
variable {M : sMem}
theorem ref_feed_B (v0 : Nat) (x : sMem) : True := trivial
/-- the reference's feed -/
theorem ref_feed {t : Nat} (hs : RefS M.1 M.2.2.2) (ht : M.2.1 94 1 = nI t) (h20 : t + 20 ≤ 1600) (a b c d e : Int32) :
    ∃ M', f_X12_feed 94 a b c d e M = some (nI (t + 20), M') ∧ Off (fun q k => q = 95 ∨ (q = 94 ∧ k = 1)) M M' ∧ M'.2.1 94 1 = nI (t + 20) ∧ (∀ j, j < 20 → M'.2.1 95 (t + j) = fed a b c d e j) ∧ ∀ j, j < t → M'.2.1 95 j = M.2.1 95 j := by
  unfold f_X12_feed
  rw [sRc_of (rs94 hs), gI_of (rs94 hs), Option.bind_some, ht]
  have hle : nI t + (20 : Int32) ≤ (1600 : Int32) := by
    rw [show nI t + (20 : Int32) = nI (t + 20) from nI_add t 20]
    exact nI_le h20 (by decide)
  rw [if_pos hle]
  unfold f_X12_feed_L28
  have key : ∃ M1 : sMem, sItr (fun z : Int32 × sMem => f_X12_feed_K28 94 a b c d e z.1 z.2) sFuel (0, M) = some M1 ∧ (Off (fun q k => q = 95 ∨ (q = 94 ∧ k = 1)) M M1 ∧ M1.2.1 94 1 = nI (t + 20) ∧ (∀ j, j < 20 → M1.2.1 95 (t + j) = fed a b c d e j) ∧ ∀ j, j < t → M1.2.1 95 j = M.2.1 95 j) := by
    refine sItr_inv (fun z : Int32 × sMem => ∃ k : Nat, k ≤ 20 ∧ z.1 = nI k ∧ Off (fun q k => q = 95 ∨ (q = 94 ∧ k = 1)) M z.2 ∧ z.2.2.1 94 1 = nI (t + k) ∧ (∀ j, j < k → z.2.2.1 95 (t + j) = fed a b c d e j) ∧ ∀ j, j < t → z.2.2.1 95 j = M.2.1 95 j) (fun z => 20 - z.1.toNatClampNeg) _ (fun z hz => ?_) sFuel (0, M) ⟨0, by decide, rfl, Off.rf, by rw [ht]; rfl, fun j h => by omega, fun _ _ => rfl⟩ (by rw [sFuel_v]; show 20 - _ < _; omega)
    obtain ⟨v, N⟩ := z
    obtain ⟨k, hk, hv, hO, h1, h2, h3⟩ := hz
    dsimp only at hv hO h1 h2 h3 ⊢
    subst hv
    unfold f_X12_feed_K28
    by_cases hk20 : k = 20
    · subst hk20
      rw [if_pos (by decide)]
      exact Or.inr ⟨N, rfl, hO, h1, h2, h3⟩
    · have hk' : k < 20 := by omega
      have hl : ∀ m : Nat, m < 2147483648 → ((nI m ≤ nI k) ↔ m ≤ k) := fun m hm => nI_leI (by omega) (by omega)
      have c20 : ¬ (20 : Int32) ≤ nI k := fun h => by have := (hl 20 (by decide)).mp h; omega
      rw [if_neg c20]
      have hsN : RefS N.1 N.2.2.2 := by rw [hO.1, hO.2.1]; exact hs
      -- the body for the number that is chosen
      have body : ∀ w : Int32, w = (if k < 4 then a else if k < 8 then b else if k < 12 then c else if k < 16 then d else e) → ∃ N', f_X12_feed_B81 94 a b c d e (nI k) w N = some (.inl (nI k + (1 : Int32), N')) ∧ Off (fun q k => q = 95 ∨ (q = 94 ∧ k = 1)) M N' ∧ N'.2.1 94 1 = nI (t + (k + 1)) ∧ (∀ j, j < k + 1 → N'.2.1 95 (t + j) = fed a b c d e j) ∧ ∀ j, j < t → N'.2.1 95 j = M.2.1 95 j := by
        intro w hw
        unfold f_X12_feed_B81
        have hi : (nI (t + k)).toInt = ((t + k : Nat) : Int) := nI_i (by omega)
        have hz : ((8 : Int32) * ((3 : Int32) - (nI k - nI k / (4 : Int32) * (4 : Int32)))) &&& 31 = nI (24 - 8 * (k % 4)) := by
          have : ∀ m : Nat, m < 20 → ((8 : Int32) * ((3 : Int32) - (nI m - nI m / (4 : Int32) * (4 : Int32)))) &&& 31 = nI (24 - 8 * (m % 4)) := by decide
          exact this k hk'
        rw [gR_of (rs94 hsN) (rr0 hsN), Option.bind_some, gI_of (rs94 hsN), Option.bind_some, h1, byt_s w hz (by omega), stI_of (rs95 hsN) (by rw [hi]; omega), Option.bind_some, hi]
        rw [gI_of (M := wrI N 95 _ _) (rs94 hsN), Option.bind_some, pI_of (M := wrI N 95 _ _) (rs94 hsN), Option.bind_some]
        have e1 : (wrI N 95 ((t + k : Nat) : Int).toNat (byt w (k % 4))).2.1 94 1 = nI (t + k) := by rw [wrI_get, if_neg (by omega)]; exact h1
        rw [e1]
        refine ⟨_, rfl, (hO.wr (Or.inl rfl)).wr (Or.inr ⟨rfl, rfl⟩), ?_, fun j hj => ?_, fun j hj => ?_⟩
        · rw [wrI_get, if_pos ⟨rfl, rfl⟩]; exact nI_1 (t + k)
        · rw [wrI_get, if_neg (by omega), wrI_get]
          by_cases hjk : j = k
          · subst hjk
            rw [if_pos ⟨rfl, by omega⟩]
            unfold fed
            rw [← hw]
          · rw [if_neg (by omega)]
            exact h2 j (by omega)
        · rw [wrI_get, if_neg (by omega), wrI_get, if_neg (by omega)]
          exact h3 j hj
      have fin : ∀ w : Int32, w = (if k < 4 then a else if k < 8 then b else if k < 12 then c else if k < 16 then d else e) → (∃ a', f_X12_feed_B81 94 a b c d e (nI k) w N = some (.inl a') ∧ (∃ k2 : Nat, k2 ≤ 20 ∧ a'.1 = nI k2 ∧ Off (fun q k => q = 95 ∨ (q = 94 ∧ k = 1)) M a'.2 ∧ a'.2.2.1 94 1 = nI (t + k2) ∧ (∀ j, j < k2 → a'.2.2.1 95 (t + j) = fed a b c d e j) ∧ ∀ j, j < t → a'.2.2.1 95 j = M.2.1 95 j) ∧ 20 - a'.1.toNatClampNeg < 20 - (nI k).toNatClampNeg) := by
        intro w hw
        obtain ⟨N', g1, g2, g3, g4, g5⟩ := body w hw
        refine ⟨(nI k + (1 : Int32), N'), g1, ⟨k + 1, hk', nI_1 k, g2, g3, g4, g5⟩, ?_⟩
        dsimp only
        rw [show (nI k + (1 : Int32)) = nI (k + 1) from nI_1 k, nI_clamp (by omega), nI_clamp (by omega)]
        omega
      refine Or.inl ?_
      by_cases c4 : (4 : Int32) ≤ nI k
      · have d4 := (hl 4 (by decide)).mp c4
        rw [if_pos c4]
        by_cases c8 : (8 : Int32) ≤ nI k
        · have d8 := (hl 8 (by decide)).mp c8
          rw [if_pos c8]
          by_cases c12 : (12 : Int32) ≤ nI k
          · have d12 := (hl 12 (by decide)).mp c12
            rw [if_pos c12]
            by_cases c16 : (16 : Int32) ≤ nI k
            · have d16 := (hl 16 (by decide)).mp c16
              rw [if_pos c16]
              exact fin e (by rw [if_neg (by omega), if_neg (by omega), if_neg (by omega), if_neg (by omega)])
            · have d16 : ¬ 16 ≤ k := fun h => c16 ((hl 16 (by decide)).mpr h)
              rw [if_neg c16]
              exact fin d (by rw [if_neg (by omega), if_neg (by omega), if_neg (by omega), if_pos (by omega)])
          · have d12 : ¬ 12 ≤ k := fun h => c12 ((hl 12 (by decide)).mpr h)
            rw [if_neg c12]
            exact fin c (by rw [if_neg (by omega), if_neg (by omega), if_pos (by omega)])
        · have d8 : ¬ 8 ≤ k := fun h => c8 ((hl 8 (by decide)).mpr h)
          rw [if_neg c8]
          exact fin b (by rw [if_neg (by omega), if_pos (by omega)])
      · have d4 : ¬ 4 ≤ k := fun h => c4 ((hl 4 (by decide)).mpr h)
        rw [if_neg c4]
        exact fin a (by rw [if_pos (by omega)])
  obtain ⟨M1, k1, k2, k3, k4, k5⟩ := key
  rw [k1, Option.bind_some]
  unfold f_X12_feed_B124
  have hs1 : RefS M1.1 M1.2.2.2 := by rw [k2.1, k2.2.1]; exact hs
  rw [gI_of (rs94 hs1), Option.bind_some, k3]
  exact ⟨M1, rfl, k2, k3, k4, k5⟩
end TP
