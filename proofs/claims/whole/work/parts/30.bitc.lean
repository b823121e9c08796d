-- bitCount counts the bits
def bct (f : Nat → Bool) : Nat → Nat
  | 0 => 0
  | k + 1 => bct f k + (if f k = true then 1 else 0)
theorem bct_c {f f' : Nat → Bool} : ∀ k, (∀ i, i < k → f i = f' i) → bct f k = bct f' k
  | 0, _ => rfl
  | k + 1, h => by unfold bct; rw [bct_c k (fun i hi => h i (by omega)), h k (by omega)]
theorem bct_le (f : Nat → Bool) : ∀ k, bct f k ≤ k
  | 0 => Nat.le_refl _
  | k + 1 => by
    have := bct_le f k
    unfold bct
    split <;> omega
theorem bct_l (f : Nat → Bool) : ∀ k, bct f (k + 1) = (if f 0 = true then 1 else 0) + bct (fun i => f (i + 1)) k
  | 0 => by unfold bct bct; omega
  | k + 1 => by
    have := bct_l f k
    rw [bct, this]
    show _ = _ + (bct (fun i => f (i + 1)) k + (if f (k + 1) = true then 1 else 0))
    omega
def bk_d (B c : Nat) : Nat → Nat → Nat → Prop
  | 0, V, s => V = 0 ∧ s = 0
  | k + 1, V, s => ∃ d V' s', V = d + B * V' ∧ d ≤ c ∧ s = d + s' ∧ bk_d B c k V' s'
def bk_m (B c : Nat) : Nat → Nat
  | 0 => 0
  | k + 1 => c + B * bk_m B c k
theorem bk_and {m a c M : Nat} (hc : c < 2 ^ m) : a &&& (c + 2 ^ m * M) = ((a % 2 ^ m) &&& c) + 2 ^ m * ((a / 2 ^ m) &&& M) := by
  have h1 : (a &&& (c + 2 ^ m * M)) % 2 ^ m = (a % 2 ^ m) &&& c := by
    rw [Nat.and_mod_two_pow, Nat.add_mul_mod_self_left, Nat.mod_eq_of_lt hc]
  have h2 : (a &&& (c + 2 ^ m * M)) / 2 ^ m = (a / 2 ^ m) &&& M := by
    rw [Nat.and_div_two_pow, Nat.add_mul_div_left _ _ (Nat.two_pow_pos m), Nat.div_eq_of_lt hc, Nat.zero_add]
  rw [← h1, ← h2, Nat.mod_add_div]
theorem bk_1 (x : Nat) : x &&& 1 = x % 2 := Nat.and_two_pow_sub_one_eq_mod x 1
theorem bk_3 (x : Nat) : x &&& 3 = x % 4 := Nat.and_two_pow_sub_one_eq_mod x 2
theorem bk_15 (x : Nat) : x &&& 15 = x % 16 := Nat.and_two_pow_sub_one_eq_mod x 4
theorem bk_127 (x : Nat) : x &&& 127 = x % 128 := Nat.and_two_pow_sub_one_eq_mod x 7
theorem bk_t (X i : Nat) : X.testBit (i + 1) = (X / 2).testBit i := by rw [Nat.testBit_succ]
theorem bk_s1 : ∀ (k X : Nat), X < 4 ^ k → ((X / 2) &&& bk_m 4 1 k) ≤ X ∧ bk_d 4 2 k (X - ((X / 2) &&& bk_m 4 1 k)) (bct X.testBit (2 * k))
  | 0, X, h => by
    have : X = 0 := by simp at h; omega
    subst this
    exact ⟨by simp [bk_m], by simp [bk_m, bk_d, bct]⟩
  | k + 1, X, h => by
    have h4 : X / 4 < 4 ^ k := by rw [Nat.pow_succ] at h; omega
    obtain ⟨i1, i2⟩ := bk_s1 k (X / 4) h4
    have e : (X / 2) &&& bk_m 4 1 (k + 1) = ((X / 2) % 4) % 2 + 4 * ((X / 4 / 2) &&& bk_m 4 1 k) := by
      have := @bk_and 2 (X / 2) 1 (bk_m 4 1 k) (by decide)
      rw [bk_1] at this
      rw [show X / 4 / 2 = X / 2 / 2 ^ 2 by omega]
      exact this
    rw [e]
    generalize (X / 4 / 2) &&& bk_m 4 1 k = Y at *
    refine ⟨by omega, X % 4 - (X / 2) % 4 % 2, X / 4 - Y, bct (X / 4).testBit (2 * k), by omega, by omega, ?_, i2⟩
    have t0 : X.testBit 0 = decide (X % 2 = 1) := Nat.testBit_zero X
    have t1 : X.testBit 1 = decide (X / 2 % 2 = 1) := by rw [bk_t, Nat.testBit_zero]
    rw [show 2 * (k + 1) = 2 * k + 1 + 1 by omega, bct_l, bct_l, t0]
    rw [t1, bct_c (f := fun i => X.testBit (i + 1 + 1)) (f' := (X / 4).testBit) (2 * k) (fun i hi => by rw [bk_t, bk_t, Nat.div_div_eq_div_mul])]
    simp only [decide_eq_true_eq]
    split <;> split <;> omega
theorem bk_low {B c : Nat} (hc : c < B) : ∀ {k V s : Nat}, bk_d B c k V s → V % B ≤ c
  | 0, V, s, h => by rw [h.1]; simp
  | k + 1, V, s, h => by
    obtain ⟨d, V', s', h1, h2, -, -⟩ := h
    rw [h1, Nat.add_mul_mod_self_left, Nat.mod_eq_of_lt (by omega)]
    exact h2
theorem bk_s2 : ∀ (k Y s : Nat), bk_d 4 2 (2 * k) Y s → bk_d 16 4 k ((Y &&& bk_m 16 3 k) + ((Y / 4) &&& bk_m 16 3 k)) s
  | 0, Y, s, h => by
    obtain ⟨rfl, rfl⟩ := h
    exact ⟨by simp [bk_m], rfl⟩
  | k + 1, Y, s, h => by
    rw [show 2 * (k + 1) = 2 * k + 1 + 1 by omega] at h
    obtain ⟨d, Y1, s1, e1, l1, f1, d1, Y2, s2, e2, l2, f2, h⟩ := h
    have ih := bk_s2 k Y2 s2 h
    have a1 := @bk_and 4 Y 3 (bk_m 16 3 k) (by decide)
    have a2 := @bk_and 4 (Y / 4) 3 (bk_m 16 3 k) (by decide)
    rw [bk_3] at a1 a2
    rw [show Y / 2 ^ 4 = Y2 by omega] at a1
    rw [show Y / 4 / 2 ^ 4 = Y2 / 4 by omega] at a2
    refine ⟨d + d1, (Y2 &&& bk_m 16 3 k) + ((Y2 / 4) &&& bk_m 16 3 k), s2, ?_, by omega, by omega, ih⟩
    show (Y &&& (3 + 2 ^ 4 * bk_m 16 3 k)) + ((Y / 4) &&& (3 + 2 ^ 4 * bk_m 16 3 k)) = _
    rw [a1, a2]
    omega
theorem bk_s3 : ∀ (k Z s : Nat), bk_d 16 4 (2 * k) Z s → bk_d 256 8 k ((Z + Z / 16) &&& bk_m 256 15 k) s
  | 0, Z, s, h => by
    obtain ⟨rfl, rfl⟩ := h
    exact ⟨by simp [bk_m], rfl⟩
  | k + 1, Z, s, h => by
    rw [show 2 * (k + 1) = 2 * k + 1 + 1 by omega] at h
    obtain ⟨d, Z1, s1, e1, l1, f1, d1, Z2, s2, e2, l2, f2, h⟩ := h
    have ih := bk_s3 k Z2 s2 h
    have lo := bk_low (by decide) h
    have a1 := @bk_and 8 (Z + Z / 16) 15 (bk_m 256 15 k) (by decide)
    rw [bk_15] at a1
    rw [show (Z + Z / 16) / 2 ^ 8 = Z2 + Z2 / 16 by omega] at a1
    refine ⟨d + d1, (Z2 + Z2 / 16) &&& bk_m 256 15 k, s2, ?_, by omega, by omega, ih⟩
    show (Z + Z / 16) &&& (15 + 2 ^ 8 * bk_m 256 15 k) = _
    rw [a1]
    omega
def bn (x : Int64) : Nat := x.toUInt64.toNat
theorem bn_lt (x : Int64) : bn x < 2 ^ 64 := x.toUInt64.toNat_lt
theorem bn_sub {a b : Int64} (h : bn b ≤ bn a) : bn (a - b) = bn a - bn b := UInt64.toNat_sub_of_le a.toUInt64 b.toUInt64 (UInt64.le_iff_toNat_le.mpr h)
theorem bn_add {a b : Int64} (h : bn a + bn b < 2 ^ 64) : bn (a + b) = bn a + bn b := (UInt64.toNat_add a.toUInt64 b.toUInt64).trans (Nat.mod_eq_of_lt h)
theorem bn_and {a b : Int64} : bn (a &&& b) = bn a &&& bn b := UInt64.toNat_and a.toUInt64 b.toUInt64
theorem bn_shr {a : Int64} {c : UInt64} {k : Nat} (hc : c.toNat % 64 = k) : bn (a.toUInt64 >>> c).toInt64 = bn a / 2 ^ k := by
  show (a.toUInt64 >>> c).toNat = _
  rw [UInt64.toNat_shiftRight, hc, Nat.shiftRight_eq_div_pow]; rfl
theorem bn_t (x : Int64) (i : Nat) : bs_t x i = (bn x).testBit i := rfl
theorem bk_up {B c : Nat} (hB : 0 < B) (hc : c < B) : ∀ {k V s : Nat}, bk_d B c k V s → V < B ^ k
  | 0, V, s, h => by rw [h.1]; simp
  | k + 1, V, s, h => by
    obtain ⟨d, V', s', h1, h2, -, h3⟩ := h
    have := bk_up hB hc h3
    rw [Nat.pow_succ, Nat.mul_comm, h1]
    have h4 : B * (V' + 1) ≤ B * B ^ k := Nat.mul_le_mul_left B this
    rw [Nat.mul_add, Nat.mul_one] at h4
    omega
theorem bk_bd {V d V' c : Nat} (e : V = d + 256 * V') (l : d ≤ 8) (h : V' ≤ c) : V ≤ 8 + 256 * c := by omega
theorem bk_r4 {V d0 d1 d2 d3 a b c e : Nat} (e0 : V = d0 + 256 * a) (e1 : a = d1 + 256 * b) (e2 : b = d2 + 256 * c) (e3 : c = d3 + 256 * e) (l0 : d0 ≤ 8) (l1 : d1 ≤ 8) (l2 : d2 ≤ 8) (l3 : d3 ≤ 8) : ∃ r, V = r + 4294967296 * e ∧ r ≤ 134744072 := ⟨d0 + 256 * d1 + 65536 * d2 + 16777216 * d3, by omega, by omega⟩
theorem bk_r2 {V d0 d1 a b : Nat} (e0 : V = d0 + 256 * a) (e1 : a = d1 + 256 * b) (l0 : d0 ≤ 8) (l1 : d1 ≤ 8) : ∃ r, V = r + 65536 * b ∧ r ≤ 2056 := ⟨d0 + 256 * d1, by omega, by omega⟩
theorem bk_q2 {W V0 V1 V2 : Nat} (h0 : ∃ r, W = r + 65536 * V1 ∧ r ≤ 2056) (h1 : ∃ r, V0 = r + 65536 * V2 ∧ r ≤ 2056) : (W + V0) / 65536 = V1 + V2 := by
  obtain ⟨r0, h0, k0⟩ := h0
  obtain ⟨r1, h1, k1⟩ := h1
  omega
theorem bk_q4 {W V0 V1 V2 V3 V4 V5 V6 : Nat} (h0 : ∃ r, W = r + 4294967296 * V3 ∧ r ≤ 134744072) (h1 : ∃ r, V0 = r + 4294967296 * V4 ∧ r ≤ 134744072) (h2 : ∃ r, V1 = r + 4294967296 * V5 ∧ r ≤ 134744072) (h3 : ∃ r, V2 = r + 4294967296 * V6 ∧ r ≤ 134744072) : (W + V0 + (V1 + V2)) / 4294967296 = V3 + V4 + (V5 + V6) := by
  obtain ⟨r0, h0, k0⟩ := h0
  obtain ⟨r1, h1, k1⟩ := h1
  obtain ⟨r2, h2, k2⟩ := h2
  obtain ⟨r3, h3, k3⟩ := h3
  have e : W + V0 + (V1 + V2) = (r0 + r1 + r2 + r3) + 4294967296 * (V3 + V4 + (V5 + V6)) := by omega
  have l : r0 + r1 + r2 + r3 < 4294967296 := by omega
  rw [e, Nat.add_mul_div_left _ _ (by decide), Nat.div_eq_of_lt l, Nat.zero_add]
theorem bk_sm {W V0 V1 V2 V3 V4 V5 V6 d0 d1 d2 d3 d4 d5 d6 d7 : Nat} (e0 : W = d0 + 256 * V0) (e1 : V0 = d1 + 256 * V1) (e2 : V1 = d2 + 256 * V2) (e3 : V2 = d3 + 256 * V3) (e4 : V3 = d4 + 256 * V4) (e5 : V4 = d5 + 256 * V5) (e6 : V5 = d6 + 256 * V6) (e7 : V6 = d7) :
    W + V0 + (V1 + V2) + (V3 + V4 + (V5 + V6)) = (d0 + (d1 + (d2 + (d3 + (d4 + (d5 + (d6 + (d7 + 0)))))))) + 256 * (V0 + V1 + V2 + V3 + V4 + V5 + V6) := by
  calc W + V0 + (V1 + V2) + (V3 + V4 + (V5 + V6)) = (d0 + 256 * V0) + (d1 + 256 * V1) + ((d2 + 256 * V2) + (d3 + 256 * V3)) + ((d4 + 256 * V4) + (d5 + 256 * V5) + ((d6 + 256 * V6) + d7)) := by rw [← e0, ← e1, ← e2, ← e3, ← e4, ← e5, ← e6, ← e7]
    _ = _ := by clear e0 e1 e2 e3 e4 e5 e6 e7; omega
theorem bk_bs {W V0 V1 V2 V3 V4 V5 V6 : Nat} (g6 : V6 ≤ 8) (g5 : V5 ≤ 2056) (g4 : V4 ≤ 526344) (g3 : V3 ≤ 134744072) (g2 : V2 ≤ 34494482440) (g1 : V1 ≤ 8830587504648) (g0 : V0 ≤ 2260630401189896) (g : W ≤ 578721382704613384) : W + V0 < 2 ^ 64 ∧ W + V0 + (V1 + V2) < 2 ^ 64 ∧ W + V0 + (V1 + V2) + (V3 + V4 + (V5 + V6)) < 2 ^ 64 := by omega
theorem bk_md {s T : Nat} (h : s ≤ 64) : (s + 256 * T) % 128 = s := by omega
theorem bk_s4 {W s : Nat} (h : bk_d 256 8 8 W s) : s ≤ 64 ∧ ∃ W0 W1 W2 : Nat, W + W / 256 = W0 ∧ W0 < 2 ^ 64 ∧ W0 + W0 / 65536 = W1 ∧ W1 < 2 ^ 64 ∧ W1 + W1 / 4294967296 = W2 ∧ W2 < 2 ^ 64 ∧ W2 % 128 = s := by
  obtain ⟨d0, V0, s0, e0, l0, f0, d1, V1, s1, e1, l1, f1, d2, V2, s2, e2, l2, f2, d3, V3, s3, e3, l3, f3, d4, V4, s4, e4, l4, f4, d5, V5, s5, e5, l5, f5, d6, V6, s6, e6, l6, f6, d7, V7, s7, e7, l7, f7, e8, f8⟩ := h
  have e7' : V6 = d7 := by rw [e7, e8]; rfl
  have hs : s = d0 + (d1 + (d2 + (d3 + (d4 + (d5 + (d6 + (d7 + 0))))))) := by rw [f0, f1, f2, f3, f4, f5, f6, f7, f8]
  have hs2 : s ≤ 64 := by rw [hs]; clear e0 e1 e2 e3 e4 e5 e6 e7 e8 f0 f1 f2 f3 f4 f5 f6 f7 f8 hs e7'; omega
  have a0 : W / 256 = V0 := by rw [e0, Nat.add_mul_div_left _ _ (by decide), Nat.div_eq_of_lt (Nat.lt_of_le_of_lt l0 (by decide)), Nat.zero_add]
  have g6 : V6 ≤ 8 := by rw [e7']; exact l7
  have g5 := bk_bd e6 l6 g6
  have g4 := bk_bd e5 l5 g5
  have g3 := bk_bd e4 l4 g4
  have g2 := bk_bd e3 l3 g3
  have g1 := bk_bd e2 l2 g2
  have g0 := bk_bd e1 l1 g1
  have g := bk_bd e0 l0 g0
  obtain ⟨b1, b2, b3⟩ := bk_bs g6 g5 g4 g3 g2 g1 g0 g
  have q2 := bk_q2 (bk_r2 e0 e1 l0 l1) (bk_r2 e1 e2 l1 l2)
  have q4 := bk_q4 (bk_r4 e0 e1 e2 e3 l0 l1 l2 l3) (bk_r4 e1 e2 e3 e4 l1 l2 l3 l4) (bk_r4 e2 e3 e4 e5 l2 l3 l4 l5) (bk_r4 e3 e4 e5 e6 l3 l4 l5 l6)
  have sm := bk_sm e0 e1 e2 e3 e4 e5 e6 e7'
  refine ⟨hs2, W + V0, W + V0 + (V1 + V2), W + V0 + (V1 + V2) + (V3 + V4 + (V5 + V6)), by rw [a0], b1, by rw [q2], b2, by rw [q4], b3, ?_⟩
  rw [sm, ← hs]
  exact bk_md hs2
theorem bk_up2 : ∀ {k V s : Nat}, bk_d 16 4 k V s → 15 * V + 4 ≤ 4 * 16 ^ k
  | 0, V, s, h => by rw [h.1]; decide
  | k + 1, V, s, h => by
    obtain ⟨d, V', s', h1, h2, -, h3⟩ := h
    have := bk_up2 h3
    rw [Nat.pow_succ]
    omega
theorem bc_ok (x : Int64) : pf_bc x = Int32.ofInt ((bct (bs_t x) 64 : Nat) : Int) := by
  have hx := bn_lt x
  obtain ⟨p1, p2⟩ := bk_s1 32 (bn x) (by have : (4 : Nat) ^ 32 = 2 ^ 64 := by decide
                                         omega)
  have m1 : bn (Int64.ofNat 6148914691236517205) = bk_m 4 1 32 := by decide +kernel
  have m2 : bn (Int64.ofNat 3689348814741910323) = bk_m 16 3 16 := by decide +kernel
  have m3 : bn (Int64.ofNat 1085102592571150095) = bk_m 256 15 8 := by decide +kernel
  have s1 : ∀ a : Int64, bn (a.toUInt64 >>> ((Int32.ofInt 1).toInt64.toUInt64 &&& Int64.toUInt64 63)).toInt64 = bn a / 2 := fun a => bn_shr (k := 1) (by decide +kernel)
  have s2 : ∀ a : Int64, bn (a.toUInt64 >>> ((Int32.ofInt 2).toInt64.toUInt64 &&& Int64.toUInt64 63)).toInt64 = bn a / 4 := fun a => bn_shr (k := 2) (by decide +kernel)
  have s4 : ∀ a : Int64, bn (a.toUInt64 >>> ((Int32.ofInt 4).toInt64.toUInt64 &&& Int64.toUInt64 63)).toInt64 = bn a / 16 := fun a => bn_shr (k := 4) (by decide +kernel)
  have s8 : ∀ a : Int64, bn (a.toUInt64 >>> ((Int32.ofInt 8).toInt64.toUInt64 &&& Int64.toUInt64 63)).toInt64 = bn a / 256 := fun a => bn_shr (k := 8) (by decide +kernel)
  have s16 : ∀ a : Int64, bn (a.toUInt64 >>> ((Int32.ofInt 16).toInt64.toUInt64 &&& Int64.toUInt64 63)).toInt64 = bn a / 65536 := fun a => bn_shr (k := 16) (by decide +kernel)
  have s32 : ∀ a : Int64, bn (a.toUInt64 >>> ((Int32.ofInt 32).toInt64.toUInt64 &&& Int64.toUInt64 63)).toInt64 = bn a / 4294967296 := fun a => bn_shr (k := 32) (by decide +kernel)
  have q1 : bk_d 4 2 32 (bn (bc_1 x)) (bct (bn x).testBit 64) := by
    unfold bc_1
    rw [bn_sub (by rw [bn_and, s1, m1]; exact p1), bn_and, s1, m1]
    exact p2
  have q2 : bk_d 16 4 16 (bn (bc_2 (bc_1 x))) (bct (bn x).testBit 64) := by
    have h := bk_s2 16 _ _ q1
    have hu := bk_up (by decide) (by decide) h
    have e16 : (16 : Nat) ^ 16 = 2 ^ 64 := by decide
    unfold bc_2
    rw [bn_add (by rw [bn_and, bn_and, s2, m2, ← e16]; exact hu), bn_and, bn_and, s2, m2]
    exact h
  have q3 : bk_d 256 8 8 (bn (bc_3 (bc_2 (bc_1 x)))) (bct (bn x).testBit 64) := by
    have h := bk_s3 8 _ _ q2
    have hu : bn (bc_2 (bc_1 x)) + bn (bc_2 (bc_1 x)) / 16 < 2 ^ 64 := by
      have := bk_up2 q2
      have e16 : (16 : Nat) ^ 16 = 18446744073709551616 := by decide
      rw [e16] at this
      omega
    unfold bc_3
    rw [bn_and, bn_add (by rw [s4]; exact hu), s4, m3]
    exact h
  obtain ⟨g1, W0, W1, W2, w1, w2, w3, w4, w5, w6, w7⟩ := bk_s4 q3
  have r4 : bn (bc_4 (bc_3 (bc_2 (bc_1 x)))) = W0 := by unfold bc_4; rw [bn_add (by rw [s8, w1]; exact w2), s8, w1]
  have r5 : bn (bc_5 (bc_4 (bc_3 (bc_2 (bc_1 x))))) = W1 := by unfold bc_5; rw [bn_add (by rw [s16, r4, w3]; exact w4), s16, r4, w3]
  have r6 : bn (bc_6 (bc_5 (bc_4 (bc_3 (bc_2 (bc_1 x)))))) = W2 := by unfold bc_6; rw [bn_add (by rw [s32, r5, w5]; exact w6), s32, r5, w5]
  unfold pf_bc
  generalize bc_6 (bc_5 (bc_4 (bc_3 (bc_2 (bc_1 x))))) = y at *
  have e64 : bct (bs_t x) 64 = bct (bn x).testBit 64 := rfl
  rw [e64]
  generalize bct (bn x).testBit 64 = s at *
  apply Int32.toBitVec_inj.mp
  apply BitVec.eq_of_toNat_eq
  have z1 : (y.toInt32 &&& Int32.ofInt 127).toBitVec.toNat = (bn y % 2 ^ 32) &&& 127 := by
    rw [Int32.toBitVec_and, BitVec.toNat_and]
    congr 1
    rw [Int64.toBitVec_toInt32, BitVec.signExtend_eq_setWidth_of_le _ (by decide), BitVec.toNat_setWidth]
    rfl
  rw [z1, bk_127, r6]
  have z2 : (Int32.ofInt ((s : Nat) : Int)).toBitVec.toNat = s := by
    rw [Int32.toBitVec_ofInt, BitVec.toNat_ofInt]
    omega
  rw [z2]
  omega
