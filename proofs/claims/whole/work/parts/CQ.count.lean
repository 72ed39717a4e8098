/-! HOW MANY LATENESSES CLOSE A GATE: the class counts -/
section CNT
variable {M N : sMem} {D Do G P E C W k e c g m s n pc pn l r sc : Nat} {c0 c1 c2 : List Nat} {w : Nat → Int32} {u : Nat → Nat → Int32} {sm sg sf : Nat → Nat}
def p91 : Nat → Nat → Bool := fun a _ => a == 91
def rNo : Nat → Nat → Bool := fun _ _ => false
def on1 (b : Prop) [Decidable b] : Nat := if b then 1 else 0
theorem nI_nn' {x : Nat} (h : x < 2147483648) : ¬ nI x < (0 : Int32) := fun z => by
  have := lt_i.mp z
  rw [nI_i h] at this
  have e0 : (0 : Int32).toInt = 0 := rfl
  omega
theorem div4 : ∀ k, k < 24 → nI k / (4 : Int32) = nI (k / 4) := by decide +kernel
theorem off4 : ∀ k, k < 24 → ((nI k / (4 : Int32)) * (200 : Int32)) + ((nI k - nI k / (4 : Int32) * (4 : Int32)) * (64 : Int32)) = nI (200 * (k / 4) + 64 * (k % 4)) := by decide +kernel
theorem bit_ne {x : Int64} (h : ¬ x = 0) : ∃ j, j < 64 ∧ bit x j = true := Classical.byContradiction fun hn => h (bit_ext fun n hn2 => by
  rw [zero_bit]
  cases z : bit x n with
  | false => rfl
  | true => exact absurd ⟨n, hn2, z⟩ hn)
theorem c_bits (hc : ClsS N.1 N.2.2.2) (x : Int64) (hk : k < 24) (hx : ∀ j, j < 64 → bit x j = true → 64 * (k % 4) + j < 200) : ∃ N', f_X11_countBits 0 x (nI k) N = some N' ∧ FrB p91 q0 rNo N N' ∧ ∀ g m, g < 6 → m < 200 → N'.2.1 91 (200 * g + m) = N.2.1 91 (200 * g + m) + nI (on1 (4 * g + m / 64 = k ∧ bit x (m % 64) = true)) := by
  unfold f_X11_countBits f_X11_countBits_L22
  rw [sr0 hc, off4 k hk]
  obtain ⟨N', b1, b2⟩ := itr_g (f := fun a : (Int64 × Int32 × sMem) => f_X11_countBits_K22 0 (nI (200 * (k / 4) + 64 * (k % 4))) a.1 a.2.1 a.2.2) (fun i (s : Int64 × sMem) => (s.1, nI i, s.2)) (fun i s => (∀ j, j < 64 → bit s.1 j = true → bit x j = true) ∧ (∀ j, j < i → bit s.1 j = false) ∧ FrB p91 q0 rNo N s.2 ∧ ∀ g m, g < 6 → m < 200 → s.2.2.1 91 (200 * g + m) = N.2.1 91 (200 * g + m) + nI (on1 (4 * g + m / 64 = k ∧ bit x (m % 64) = true ∧ bit s.1 (m % 64) = false))) (fun b => FrB p91 q0 rNo N b ∧ ∀ g m, g < 6 → m < 200 → b.2.1 91 (200 * g + m) = N.2.1 91 (200 * g + m) + nI (on1 (4 * g + m / 64 = k ∧ bit x (m % 64) = true))) 64 (by decide) (by
    rintro i ⟨y, N1⟩ hi ⟨i1, i2, i3, i4⟩
    dsimp only at i1 i2 i3 i4 ⊢
    have fin : (∀ j, j < 64 → bit y j = false) → FrB p91 q0 rNo N N1 ∧ ∀ g m, g < 6 → m < 200 → N1.2.1 91 (200 * g + m) = N.2.1 91 (200 * g + m) + nI (on1 (4 * g + m / 64 = k ∧ bit x (m % 64) = true)) := fun hz => ⟨i3, fun g m hg hm => by
      rw [i4 g m hg hm]
      congr 2
      unfold on1
      by_cases q : 4 * g + m / 64 = k ∧ bit x (m % 64) = true
      · rw [if_pos q, if_pos ⟨q.1, q.2, hz _ (by omega)⟩]
      · rw [if_neg q, if_neg (fun z => q ⟨z.1, z.2.1⟩)]⟩
    unfold f_X11_countBits_K22
    by_cases q : i = 64
    · right
      subst q
      rw [if_pos (by decide)]
      exact ⟨_, rfl, fin i2⟩
    · rw [if_neg (show ¬ (64 : Int32) ≤ nI i from by rw [show (64 : Int32) = nI 64 from rfl, cle (by decide) (by omega)]; omega)]
      by_cases qz : y = 0
      · right
        rw [if_pos qz]
        exact ⟨_, rfl, fin (fun j _ => by rw [qz]; exact zero_bit j)⟩
      · left
        refine ⟨by omega, ?_⟩
        obtain ⟨t, t1, t2, t3⟩ := low_ex (bit_ne qz)
        have hlt := hx t t1 (i1 t t1 t2)
        have hcN : ClsS N1.1 N1.2.2.2 := i3.hc (fun _ _ => rfl) hc
        have hit : i ≤ t := Nat.le_of_not_lt (fun z => by rw [i2 t z] at t2; exact absurd t2 (by decide))
        have ei : nI (200 * (k / 4) + 64 * (k % 4)) + nI t = nI (200 * (k / 4) + 64 * (k % 4) + t) := nI_add _ _
        obtain ⟨ix, hix⟩ : ∃ ix, ix = 200 * (k / 4) + 64 * (k % 4) + t := ⟨_, rfl⟩
        have hix2 : ix < 1200 := by omega
        rw [if_neg qz, ntz64 y N1 t1 t2 t3, Option.bind_some, ei, ← hix, if_neg (nI_nn' (by omega)), gr0_15 hcN, Option.bind_some, al91 hcN, Option.bind_some, if_neg (nI_ge (by omega) (by omega)), Option.bind_some, ld91 hcN hix2, Option.bind_some, st91 hcN hix2, Option.bind_some]
        unfold f_X11_countBits_B72
        rw [nI_1]
        have cb := clr_bit y t1 t2 t3
        refine ⟨(y &&& (y - (1 : Int64)), wrI N1 91 ix (N1.2.1 91 ix + 1)), rfl, fun j hj hb => ?_, fun j hj => ?_, i3.wi rfl, fun g m hg hm => ?_⟩
        · rw [cb j hj] at hb
          exact i1 j hj (Bool.and_eq_true_iff.mp hb).1
        · dsimp only
          rw [cb j (by omega)]
          by_cases z : j = t
          · rw [decide_eq_false (fun w => w z), Bool.and_false]
          · rw [t3 j (by omega), Bool.false_and]
        · dsimp only
          rw [cb _ (by omega)]
          by_cases z : 200 * g + m = ix
          · have hgk : g = k / 4 := by omega
            have hm2 : m = 64 * (k % 4) + t := by omega
            have e1 : 4 * g + m / 64 = k := by omega
            have e2 : m % 64 = t := by omega
            have h0 := i4 g m hg hm
            have o1 : on1 (4 * g + m / 64 = k ∧ bit x (m % 64) = true ∧ bit y (m % 64) = false) = 0 := if_neg (fun w => by rw [e2, t2] at w; exact absurd w.2.2 (by decide))
            have o2 : on1 (4 * g + m / 64 = k ∧ bit x (m % 64) = true ∧ (bit y (m % 64) && decide (m % 64 ≠ t)) = false) = 1 := if_pos ⟨e1, by rw [e2]; exact i1 t t1 t2, by rw [decide_eq_false (fun w => w e2), Bool.and_false]⟩
            rw [o1, show nI 0 = (0 : Int32) from rfl, Int32.add_zero] at h0
            rw [o2, z, wrI_eq, ← z, h0, show nI 1 = (1 : Int32) from rfl]
          · rw [wrI_ne (by omega), i4 g m hg hm]
            congr 2
            have hh : (4 * g + m / 64 = k ∧ bit x (m % 64) = true ∧ bit y (m % 64) = false) ↔ (4 * g + m / 64 = k ∧ bit x (m % 64) = true ∧ (bit y (m % 64) && decide (m % 64 ≠ t)) = false) := by
              constructor
              · rintro ⟨w1, w2, w3⟩; exact ⟨w1, w2, by rw [w3]; rfl⟩
              · rintro ⟨w1, w2, w3⟩
                have : m % 64 ≠ t := fun v => z (by rw [hix]; omega)
                rw [decide_eq_true this, Bool.and_true] at w3
                exact ⟨w1, w2, w3⟩
            unfold on1
            by_cases v : 4 * g + m / 64 = k ∧ bit x (m % 64) = true ∧ bit y (m % 64) = false
            · rw [if_pos v, if_pos (hh.mp v)]
            · rw [if_neg v, if_neg (fun z => v (hh.mpr z))]) (i := 0) (s := (x, N)) (by decide) ⟨fun j _ h => h, fun j hj => absurd hj (Nat.not_lt_zero j), FrB.rf, fun g m hg hm => by
      unfold on1
      rw [if_neg (fun w => by have h1 := w.2.1; have h2 : bit x (m % 64) = false := w.2.2; rw [h1] at h2; exact absurd h2 (by decide))]
      exact (Int32.add_zero _).symm⟩
  replace b1 : sItr (fun a : (Int64 × Int32 × sMem) => f_X11_countBits_K22 0 (nI (200 * (k / 4) + 64 * (k % 4))) a.1 a.2.1 a.2.2) sFuel (x, 0, N) = some N' := b1
  rw [b1]
  exact ⟨N', rfl, b2⟩
/-- a row's bits are counted -/
theorem c_rowN (hc : ClsS N.1 N.2.2.2) (hl : 187 ≤ N.1.length) (hV : SV w N 54 G E C) (hw : WG w G P E C) (hG : G ≤ 6) (h88 : ∀ g j, g < 6 → j < 256 → rb (N.2.2.1 88) g j = clS u c0 G E (LF w) e (upF w G) g j) (hr : N.1[r]? = some (15, 24)) (hrow : ∀ g j, g < 6 → j < 256 → rb (N.2.2.1 r) g j = rowS u c0 G e l g j) (v1 v2 v3 : Int32) :
    ∃ N', sItr (fun a : (Int32 × sMem) => f_X11_countShut_K37 0 v1 v2 v3 r a.1 a.2) sFuel (0, N) = some N' ∧ FrB p91 q0 rNo N N' ∧ ∀ g m, g < 6 → m < 200 → N'.2.1 91 (200 * g + m) = N.2.1 91 (200 * g + m) + nI (on1 (g < G ∧ cbS u c0 E (LF w) (upF w G) e l g m = true)) := by
  have hrl : r < N.1.length := (List.getElem?_eq_some_iff.mp hr).1
  obtain ⟨N', b1, b2⟩ := itr_g (f := fun a : (Int32 × sMem) => f_X11_countShut_K37 0 v1 v2 v3 r a.1 a.2) (fun i (s : sMem) => (nI i, s)) (fun i s => FrB p91 q0 rNo N s ∧ ∀ g m, g < 6 → m < 200 → s.2.1 91 (200 * g + m) = N.2.1 91 (200 * g + m) + nI (on1 (4 * g + m / 64 < i ∧ g < G ∧ cbS u c0 E (LF w) (upF w G) e l g m = true))) (fun b => FrB p91 q0 rNo N b ∧ ∀ g m, g < 6 → m < 200 → b.2.1 91 (200 * g + m) = N.2.1 91 (200 * g + m) + nI (on1 (g < G ∧ cbS u c0 E (LF w) (upF w G) e l g m = true))) 24 (by decide) (by
    rintro i N1 hi ⟨i1, i2⟩
    dsimp only
    have hc1 : ClsS N1.1 N1.2.2.2 := i1.hc (fun _ _ => rfl) hc
    have hr1 : N1.1[r]? = some (15, 24) := i1.sh hr
    unfold f_X11_countShut_K37 f_X11_countShut_B88
    rw [aL_of hr1, Option.bind_some]
    by_cases q : i = 24
    · right
      subst q
      rw [if_pos (by decide)]
      refine ⟨_, rfl, i1, fun g m hg hm => ?_⟩
      rw [i2 g m hg hm]
      congr 2
      unfold on1
      by_cases z : g < G ∧ cbS u c0 E (LF w) (upF w G) e l g m = true
      · rw [if_pos z, if_pos ⟨by omega, z⟩]
      · rw [if_neg z, if_neg (fun y => z y.2)]
    · left
      refine ⟨by omega, ?_⟩
      have hi4 : i / 4 < 6 := by omega
      have V1 : SV w N1 54 G E C := hV.fr (StS54 hc) i1.1 (fun j i hj => beq_eq_false_iff_ne.mpr (by omega))
      rw [if_neg (nI_ge (by omega) (by omega)), gr0_11 hc1, Option.bind_some, al88 hc1, Option.bind_some, if_neg (nI_ge (by omega) (by omega)), gr0_4 hc1, Option.bind_some, div4 i (by omega), c_isUp (StS54 hc1) V1 hw hG hi4, Option.bind_some]
      -- one quarter of a gate
      have one : ∀ N2 : sMem, FrB p91 q0 rNo N1 N2 → (∀ g m, g < 6 → m < 200 → N2.2.1 91 (200 * g + m) = N1.2.1 91 (200 * g + m) + nI (on1 (4 * g + m / 64 = i ∧ g < G ∧ cbS u c0 E (LF w) (upF w G) e l g m = true))) → FrB p91 q0 rNo N N2 ∧ ∀ g m, g < 6 → m < 200 → N2.2.1 91 (200 * g + m) = N.2.1 91 (200 * g + m) + nI (on1 (4 * g + m / 64 < i + 1 ∧ g < G ∧ cbS u c0 E (LF w) (upF w G) e l g m = true)) := fun N2 h1 h2 => ⟨i1.tr h1, fun g m hg hm => by
        rw [h2 g m hg hm, i2 g m hg hm, Int32.add_assoc, nI_add]
        congr 2
        unfold on1
        by_cases z : g < G ∧ cbS u c0 E (LF w) (upF w G) e l g m = true
        · by_cases y : 4 * g + m / 64 < i
          · rw [if_pos ⟨y, z⟩, if_neg (fun v => by omega), if_pos ⟨by omega, z⟩]
          · rw [if_neg (fun v => y v.1)]
            by_cases x : 4 * g + m / 64 = i
            · rw [if_pos ⟨x, z⟩, if_pos ⟨by omega, z⟩]
            · rw [if_neg (fun v => x v.1), if_neg (fun v => by omega)]
        · rw [if_neg (fun y => z y.2), if_neg (fun y => z y.2), if_neg (fun y => z y.2)]⟩
      have u1 := upb_w hw hG hi4
      by_cases z : w (1 + i / 4) = 0
      · rw [if_pos z, ldJ_n hr1 (by omega) (by decide), Option.bind_some, Option.bind_some, ldJ_n (cs88 hc1) (by omega) (by decide), Option.bind_some]
        have hup : upb (upF w G) (i / 4) = false := Bool.eq_false_iff.mpr (fun y => by have := u1.mp y; rw [z] at this; exact absurd this (by decide))
        have er : N1.2.2.1 r = N.2.2.1 r := funext fun k => i1.j hrl rfl
        have e8 : N1.2.2.1 88 = N.2.2.1 88 := funext fun k => i1.j (by omega) rfl
        have hbit : ∀ j, j < 64 → bit (N1.2.2.1 r i ||| N1.2.2.1 88 i) j = (decide (i / 4 < G ∧ 64 * (i % 4) + j < 200) && cbS u c0 E (LF w) (upF w G) e l (i / 4) (64 * (i % 4) + j)) := fun j hj => by
          have h1 := hrow (i / 4) (64 * (i % 4) + j) hi4 (by omega)
          have h2 := h88 (i / 4) (64 * (i % 4) + j) hi4 (by omega)
          unfold rb at h1 h2
          rw [show 4 * (i / 4) + (64 * (i % 4) + j) / 64 = i by omega, show (64 * (i % 4) + j) % 64 = j by omega] at h1 h2
          rw [or_bit, er, e8, h1, h2]
          unfold rowS clS cbS
          rw [hup, Bool.not_false, Bool.and_true, Bool.true_and]
          generalize decide (i / 4 < G ∧ 64 * (i % 4) + j < 200) = z1
          generalize anS u c0 E (LF w) e (i / 4) (64 * (i % 4) + j) = z2
          generalize shutS u c0 e (i / 4) (nI l) (nI (64 * (i % 4) + j)) = z3
          cases z1 <;> cases z2 <;> cases z3 <;> rfl
        obtain ⟨N2, c1, c2, c3⟩ := c_bits hc1 (N1.2.2.1 r i ||| N1.2.2.1 88 i) (show i < 24 by omega) (fun j hj hb => by
          rw [hbit j hj] at hb
          exact (of_decide_eq_true (Bool.and_eq_true_iff.mp hb).1).2)
        rw [c1, Option.bind_some, nI_1]
        refine ⟨N2, rfl, one N2 c2 (fun g m hg hm => ?_)⟩
        rw [c3 g m hg hm]
        congr 2
        have hh : (4 * g + m / 64 = i ∧ bit (N1.2.2.1 r i ||| N1.2.2.1 88 i) (m % 64) = true) ↔ (4 * g + m / 64 = i ∧ g < G ∧ cbS u c0 E (LF w) (upF w G) e l g m = true) := by
          refine and_congr_right fun y => ?_
          rw [hbit _ (by omega), show i / 4 = g by omega, show 64 * (i % 4) + m % 64 = m by omega, Bool.and_eq_true, decide_eq_true_iff]
          exact ⟨fun ⟨a, b⟩ => ⟨a.1, b⟩, fun ⟨a, b⟩ => ⟨⟨a, hm⟩, b⟩⟩
        unfold on1
        by_cases y : 4 * g + m / 64 = i ∧ g < G ∧ cbS u c0 E (LF w) (upF w G) e l g m = true
        · rw [if_pos y, if_pos (hh.mpr y)]
        · rw [if_neg y, if_neg (fun x => y (hh.mp x))]
      · rw [if_neg z, nI_1]
        refine ⟨N1, rfl, one N1 FrB.rf (fun g m hg hm => ?_)⟩
        unfold on1
        rw [if_neg (fun y => by
          obtain ⟨y1, y2, y3⟩ := y
          have hgi : i / 4 = g := by omega
          rw [hgi] at z u1
          have hw1 : w (1 + g) = 1 := (w01 hw hg).resolve_left z
          unfold cbS at y3
          rw [u1.mpr hw1] at y3
          exact absurd y3 (by simp))]
        exact (Int32.add_zero _).symm) (i := 0) (s := N) (by decide) ⟨FrB.rf, fun g m hg hm => by
      unfold on1
      rw [if_neg (fun w => by omega)]
      exact (Int32.add_zero _).symm⟩
  exact ⟨N', b1, b2⟩
end CNT
