/-! ROWS OF BITS -/
def bit (x : Int64) (n : Nat) : Bool := x.toBitVec.getLsbD n
theorem lN63 : ∀ j, j < 64 → (lN j &&& 63) = lN j := by decide
theorem lNbv : ∀ j, j < 64 → ((lN j).toBitVec.smod 64#64).toNat = j := by decide
theorem shr_bit (x : Int64) {n : Nat} (hn : n < 64) : (((x >>> lN n) &&& 1 = 1) ↔ bit x n = true) := by
  have h1 : ((x >>> lN n) &&& 1).toBitVec = (x.toBitVec.sshiftRight n) &&& 1#64 := by
    rw [Int64.toBitVec_and, Int64.toBitVec_shiftRight]
    have : (lN n).toBitVec.smod 64#64 = BitVec.ofNat 64 n := by
      apply BitVec.eq_of_toNat_eq
      rw [lNbv n hn, BitVec.toNat_ofNat, Nat.mod_eq_of_lt (by omega)]
    show x.toBitVec.sshiftRight' ((lN n).toBitVec.smod 64#64) &&& _ = _
    rw [this, BitVec.sshiftRight', BitVec.toNat_ofNat, Nat.mod_eq_of_lt (by omega)]
    rfl
  have h0 : ((x.toBitVec.sshiftRight n) &&& 1#64) = 1#64 ↔ bit x n = true := by
    unfold bit
    constructor
    · intro h
      have := congrArg (fun v => BitVec.getLsbD v 0) h
      simp only [BitVec.getLsbD_and] at this
      rw [BitVec.getLsbD_sshiftRight] at this
      simpa [hn] using this
    · intro h
      apply BitVec.eq_of_getLsbD_eq
      intro i hi
      rw [BitVec.getLsbD_and, BitVec.getLsbD_one]
      by_cases hi0 : i = 0
      · subst hi0
        rw [BitVec.getLsbD_sshiftRight]
        simp [hn, h]
      · simp [hi0]
  rw [← h0, ← h1]
  constructor
  · intro h; rw [h]; rfl
  · intro h; exact Int64.toBitVec_inj.mp (by rw [h]; rfl)
theorem or_bit (x y : Int64) (n : Nat) : bit (x ||| y) n = (bit x n || bit y n) := by
  unfold bit
  rw [Int64.toBitVec_or, BitVec.getLsbD_or]
theorem zero_bit (n : Nat) : bit 0 n = false := by
  unfold bit
  show (0#64).getLsbD n = false
  exact BitVec.getLsbD_zero
theorem one_bit {n : Nat} (hn : n < 64) (j : Nat) : bit ((1 : Int64) <<< lN n) j = decide (j = n) := by
  unfold bit
  have h1 : ((1 : Int64) <<< lN n).toBitVec = 1#64 <<< n := by
    rw [Int64.toBitVec_shiftLeft]
    have : (lN n).toBitVec.smod 64#64 = BitVec.ofNat 64 n := by
      apply BitVec.eq_of_toNat_eq
      rw [lNbv n hn, BitVec.toNat_ofNat, Nat.mod_eq_of_lt (by omega)]
    show (1#64) <<< ((lN n).toBitVec.smod 64#64) = _
    rw [this]
    show 1#64 <<< (BitVec.ofNat 64 n).toNat = _
    rw [BitVec.toNat_ofNat, Nat.mod_eq_of_lt (by omega)]
  rw [h1, BitVec.getLsbD_shiftLeft, BitVec.getLsbD_one]
  by_cases hj : j = n
  · subst hj; simp [hn]
  · by_cases hlt : j < n
    · simp [hlt, hj]
    · have : j - n ≠ 0 := by omega
      simp [this, hj]
theorem bit_ext {x y : Int64} (h : ∀ n, n < 64 → bit x n = bit y n) : x = y := by
  apply Int64.toBitVec_inj.mp
  apply BitVec.eq_of_getLsbD_eq
  intro i hi
  exact h i hi
section MK
variable {M : sMem} {r g m n : Nat}
theorem shr6 {m : Nat} (h : m < 1000) : nI m >>> ((6 : Int32) &&& 31) = nI (m / 64) := by
  have := pk_shrN (n := m) (by omega) ((6 : Int32) &&& 31) 6 (by decide)
  rw [this]
theorem and63 {m : Nat} (h : m < 1000) : (nI m &&& (63 : Int32)) = nI (m % 64) := by
  have := pk_andN (n := m) (by omega) (m := (63 : Int32)) 6 (by decide)
  rw [this]
theorem b_isMarked (hr : M.1[r]? = some (15, 24)) (hg : g < 6) (hm : m < 256) : f_X11_isMarked r (nI g) (nI m) M = some (bI (bit (M.2.2.1 r (4 * g + m / 64)) (m % 64) = true)) := by
  unfold f_X11_isMarked
  have h64 : m % 64 < 64 := by omega
  rw [shr6 (by omega), and63 (by omega), nI_l (by omega), lN63 _ h64, nl 4, pk_mul, nI_add, show g * 4 + m / 64 = 4 * g + m / 64 by omega, if_neg (by rw [nl 0, clt (by omega) (by omega)]; omega), aL_of hr, Option.bind_some, if_neg (by rw [cle (by omega) (by omega)]; omega), ldJ_n hr (by omega) (by omega), Option.bind_some]
  by_cases h : bit (M.2.2.1 r (4 * g + m / 64)) (m % 64) = true
  · rw [if_pos ((shr_bit _ h64).mpr h), bI_t h]
  · rw [if_neg (fun q => h ((shr_bit _ h64).mp q)), bI_f h]
theorem b_mark (hr : M.1[r]? = some (15, 24)) (hg : g < 6) (hm : m < 256) : f_X11_mark r (nI g) (nI m) M = some (wrJ M r (4 * g + m / 64) (M.2.2.1 r (4 * g + m / 64) ||| ((1 : Int64) <<< lN (m % 64)))) := by
  unfold f_X11_mark
  have h64 : m % 64 < 64 := by omega
  rw [shr6 (by omega), and63 (by omega), nI_l (by omega), lN63 _ h64, nl 4, pk_mul, nI_add, show g * 4 + m / 64 = 4 * g + m / 64 by omega, if_neg (by rw [nl 0, clt (by omega) (by omega)]; omega), aL_of hr, Option.bind_some, if_neg (by rw [cle (by omega) (by omega)]; omega), ldJ_n hr (by omega) (by omega), Option.bind_some, stJ_n hr (by omega) (by omega), Option.bind_some]
/-- the bit of a gate and a minute in a row -/
def rb (w : Nat → Int64) (g m : Nat) : Bool := bit (w (4 * g + m / 64)) (m % 64)
theorem rb_mark {g2 m2 : Nat} (hm : m < 256) (hm2 : m2 < 256) : rb ((wrJ M r (4 * g + m / 64) (M.2.2.1 r (4 * g + m / 64) ||| ((1 : Int64) <<< lN (m % 64)))).2.2.1 r) g2 m2 = (rb (M.2.2.1 r) g2 m2 || decide (g2 = g ∧ m2 = m)) := by
  unfold rb
  rw [wrJ_get]
  by_cases h : 4 * g2 + m2 / 64 = 4 * g + m / 64
  · rw [if_pos ⟨rfl, h⟩, or_bit, one_bit (by omega), h]
    congr 1
    apply decide_eq_decide.mpr
    omega
  · rw [if_neg (fun q => h q.2), decide_eq_false (by rintro ⟨rfl, rfl⟩; exact h rfl), Bool.or_false]
/-- a row is what its bits are -/
theorem rb_ext {w w' : Nat → Int64} (h : ∀ g m, g < 6 → m < 256 → rb w g m = rb w' g m) : ∀ k, k < 24 → w k = w' k := by
  intro k hk
  apply bit_ext
  intro n hn
  have := h (k / 4) (64 * (k % 4) + n) (by omega) (by omega)
  unfold rb at this
  rw [show 4 * (k / 4) + (64 * (k % 4) + n) / 64 = k by omega, show (64 * (k % 4) + n) % 64 = n by omega] at this
  exact this
end MK
