/-! HOW MANY ZEROES END A WORD -/
theorem bv_mod {x t : Nat} (h : ∀ j, j < t → x.testBit j = false) : x % 2 ^ t = 0 := by
  apply Nat.eq_of_testBit_eq
  intro i
  rw [Nat.testBit_mod_two_pow, Nat.zero_testBit]
  by_cases q : i < t
  · rw [h i q, Bool.and_false]
  · rw [decide_eq_false q, Bool.false_and]
theorem bv_low {w : Nat} (x : BitVec w) {t : Nat} (ht : t < w) (hx : x.getLsbD t = true) (hlo : ∀ j, j < t → x.getLsbD j = false) (j : Nat) (hj : j < w) : (x - 1#w).getLsbD j = if j < t then true else if j = t then false else x.getLsbD j := by
  have h0 : x.toNat % 2 ^ t = 0 := bv_mod (fun j hj => hlo j hj)
  obtain ⟨q, hq⟩ : ∃ q, q = x.toNat / 2 ^ t := ⟨_, rfl⟩
  have hp : 0 < 2 ^ t := Nat.two_pow_pos t
  have ex : x.toNat = 2 ^ t * q := by rw [hq]; have := Nat.div_add_mod x.toNat (2 ^ t); omega
  have hb : ∀ i, q.testBit i = x.toNat.testBit (t + i) := fun i => by rw [hq, Nat.testBit_div_two_pow, Nat.add_comm]
  have hodd : q.testBit 0 = true := by rw [hb 0]; exact hx
  have ho : q % 2 = 1 := by rw [Nat.testBit_zero] at hodd; exact of_decide_eq_true hodd
  obtain ⟨k, hk⟩ : ∃ k, q = 2 * k + 1 := ⟨q / 2, by omega⟩
  have hw1 : (1#w).toNat = 1 := by rw [BitVec.toNat_ofNat]; exact Nat.mod_eq_of_lt (Nat.one_lt_two_pow (by omega))
  have e1 : (x - 1#w).toNat = 2 ^ t * (2 * k) + (2 ^ t - 1) := by
    rw [BitVec.toNat_sub_of_le (by rw [BitVec.le_def, hw1, ex, hk]; have := Nat.mul_le_mul_left (2 ^ t) (show 1 ≤ 2 * k + 1 by omega); omega), hw1, ex, hk, Nat.mul_add]
    omega
  show (x - 1#w).toNat.testBit j = _
  rw [e1, Nat.testBit_two_pow_mul_add _ (by omega)]
  by_cases q1 : j < t
  · rw [if_pos q1, if_pos q1, Nat.testBit_two_pow_sub_one, decide_eq_true q1]
  · rw [if_neg q1, if_neg q1]
    by_cases q2 : j = t
    · rw [if_pos q2, q2, Nat.sub_self, Nat.testBit_zero]
      exact decide_eq_false (by omega)
    · rw [if_neg q2]
      obtain ⟨i, hi⟩ : ∃ i, j = t + (i + 1) := ⟨j - t - 1, by omega⟩
      have : x.getLsbD j = q.testBit (i + 1) := by rw [hb, ← hi]; rfl
      rw [this, hi, Nat.add_sub_cancel_left, hk, Nat.testBit_succ, Nat.testBit_succ]
      congr 1
      omega
/-- the lowest bit that is set -/
theorem low_ex {f : Nat → Bool} : ∀ {n : Nat}, (∃ j, j < n ∧ f j = true) → ∃ t, t < n ∧ f t = true ∧ ∀ j, j < t → f j = false
  | 0, ⟨j, hj, _⟩ => absurd hj (Nat.not_lt_zero j)
  | n + 1, ⟨j, hj, hf⟩ => by
    by_cases q : ∃ i, i < n ∧ f i = true
    · obtain ⟨t, a, b, c⟩ := low_ex q
      exact ⟨t, by omega, b, c⟩
    · have hn : ∀ i, i < n → f i = false := fun i hi => by
        cases z : f i with
        | false => rfl
        | true => exact absurd ⟨i, hi, z⟩ q
      refine ⟨n, by omega, ?_, hn⟩
      by_cases y : j = n
      · rw [← y]; exact hf
      · rw [hn j (by omega)] at hf; exact absurd hf (by decide)
def mk32 (t : Nat) : Int32 := Int32.ofBitVec (BitVec.ofNat 32 (2 ^ t - 1))
theorem mask32 (v : Int32) {t : Nat} (ht : t < 32) (hx : v.toBitVec.getLsbD t = true) (hlo : ∀ j, j < t → v.toBitVec.getLsbD j = false) : ((v ^^^ (-1 : Int32)) &&& (v - (1 : Int32))) = mk32 t := by
  apply Int32.toBitVec_inj.mp
  rw [Int32.toBitVec_and, Int32.toBitVec_xor, Int32.toBitVec_sub]
  apply BitVec.eq_of_getLsbD_eq
  intro j hj
  rw [BitVec.getLsbD_and, BitVec.getLsbD_xor]
  have h1 : (1 : Int32).toBitVec = 1#32 := rfl
  have h2 : (-1 : Int32).toBitVec = BitVec.allOnes 32 := by decide
  rw [h1, h2, bv_low v.toBitVec ht hx hlo j hj, BitVec.getLsbD_allOnes, decide_eq_true hj]
  show _ = (BitVec.ofNat 32 (2 ^ t - 1)).getLsbD j
  rw [BitVec.getLsbD_ofNat, decide_eq_true hj, Nat.testBit_two_pow_sub_one, Bool.true_and]
  by_cases q1 : j < t
  · rw [if_pos q1, hlo j q1, decide_eq_true q1]; rfl
  · rw [if_neg q1, decide_eq_false q1]
    by_cases q2 : j = t
    · rw [if_pos q2, Bool.and_false]
    · rw [if_neg q2]
      cases v.toBitVec.getLsbD j <;> rfl
def ntzF (m : Int32) (M0 : sMem) : Option Int32 :=
  if 0 < m then
    if m ≤ (65536 : Int32) then f_J6_numberOfTrailingZeros_0f7a4_B34 m 1 M0
    else f_J6_numberOfTrailingZeros_0f7a4_B34 ((m.toUInt32 >>> (((16 : Int32)).toUInt32 &&& Int32.toUInt32 31)).toInt32) ((((1 : Int32)) + (16 : Int32))) M0
  else some (m &&& (32 : Int32))
def m00 : sMem := ([], fun _ _ => 0, fun _ _ => 0, fun _ _ => none)
theorem ntzF_0 : ∀ t, t < 32 → ntzF (mk32 t) m00 = some (nI t) := by decide +kernel
theorem ntzF_v (M : sMem) (t : Nat) (ht : t < 32) : ntzF (mk32 t) M = some (nI t) := ntzF_0 t ht
theorem ntz32 (v : Int32) (M : sMem) {t : Nat} (ht : t < 32) (hx : v.toBitVec.getLsbD t = true) (hlo : ∀ j, j < t → v.toBitVec.getLsbD j = false) : f_J6_numberOfTrailingZeros_0f7a4 v M = some (nI t) := by
  have : f_J6_numberOfTrailingZeros_0f7a4 v M = ntzF ((v ^^^ (-1 : Int32)) &&& (v - (1 : Int32))) M := rfl
  rw [this, mask32 v ht hx hlo, ntzF_v M t ht]
theorem lo32 (x : Int64) {j : Nat} (hj : j < 32) : x.toInt32.toBitVec.getLsbD j = bit x j := by
  unfold bit
  rw [Int64.toBitVec_toInt32, BitVec.getLsbD_signExtend, decide_eq_true hj, Bool.true_and, if_pos (by omega)]
theorem ntz64 (x : Int64) (M : sMem) {t : Nat} (ht : t < 64) (hx : bit x t = true) (hlo : ∀ j, j < t → bit x j = false) : f_J13_numberOfTrailingZeros_95d88 x M = some (nI t) := by
  unfold f_J13_numberOfTrailingZeros_95d88
  by_cases q : t < 32
  · have h1 : ¬ x.toInt32 = 0 := fun z => by
      have := lo32 x q
      rw [z, hx] at this
      have h0 : (0 : Int32).toBitVec.getLsbD t = false := BitVec.getLsbD_zero
      rw [h0] at this
      exact absurd this (by decide)
    rw [if_neg h1, ntz32 x.toInt32 M q (by rw [lo32 x q]; exact hx) (fun j hj => by rw [lo32 x (by omega)]; exact hlo j hj)]
    rfl
  · have h1 : x.toInt32 = 0 := by
      apply Int32.toBitVec_inj.mp
      apply BitVec.eq_of_getLsbD_eq
      intro j hj
      rw [lo32 x hj, hlo j (by omega)]
      exact BitVec.getLsbD_zero.symm
    rw [if_pos h1]
    have hh : ∀ j, j < 32 → ((x.toUInt64 >>> (((32 : Int32)).toInt64.toUInt64 &&& Int64.toUInt64 63)).toInt64).toInt32.toBitVec.getLsbD j = bit x (32 + j) := fun j hj => by
      rw [lo32 _ hj]
      unfold bit
      have e1 : ((x.toUInt64 >>> (((32 : Int32)).toInt64.toUInt64 &&& Int64.toUInt64 63)).toInt64).toBitVec = x.toBitVec >>> (32 : Nat) := by
        show (x.toUInt64 >>> (((32 : Int32)).toInt64.toUInt64 &&& Int64.toUInt64 63)).toBitVec = _
        rw [show (((32 : Int32)).toInt64.toUInt64 &&& Int64.toUInt64 63) = (32 : UInt64) by decide, UInt64.toBitVec_shiftRight]
        rfl
      rw [e1, BitVec.getLsbD_ushiftRight]
    rw [ntz32 _ M (show t - 32 < 32 by omega) (by rw [hh _ (by omega), show 32 + (t - 32) = t by omega]; exact hx) (fun j hj => by rw [hh _ (by omega)]; exact hlo _ (by omega)), Option.bind_some, show (32 : Int32) + nI (t - 32) = nI (32 + (t - 32)) from nI_add 32 _, show 32 + (t - 32) = t by omega]
theorem clr_bit (x : Int64) {t : Nat} (ht : t < 64) (hx : bit x t = true) (hlo : ∀ j, j < t → bit x j = false) (j : Nat) (hj : j < 64) : bit (x &&& (x - (1 : Int64))) j = (bit x j && decide (j ≠ t)) := by
  unfold bit at *
  rw [Int64.toBitVec_and, Int64.toBitVec_sub, BitVec.getLsbD_and, show (1 : Int64).toBitVec = 1#64 from rfl, bv_low x.toBitVec ht hx hlo j hj]
  by_cases q1 : j < t
  · rw [hlo j q1]; rfl
  · rw [if_neg q1]
    by_cases q2 : j = t
    · rw [if_pos q2, decide_eq_false (fun z => z q2)]
    · rw [if_neg q2, decide_eq_true q2]
      cases x.toBitVec.getLsbD j <;> rfl
