-- numbers: Int32.ofInt as a map from Int
theorem jn_lt {a b : Int} (h1 : -2147483648 ≤ a) (h2 : a < 2147483648) (h3 : -2147483648 ≤ b) (h4 : b < 2147483648) : (Int32.ofInt a < Int32.ofInt b) ↔ a < b := by
  rw [Int32.lt_iff_toInt_lt, Int32.toInt_ofInt_of_le (by omega) (by omega), Int32.toInt_ofInt_of_le (by omega) (by omega)]
theorem jn_le {a b : Int} (h1 : -2147483648 ≤ a) (h2 : a < 2147483648) (h3 : -2147483648 ≤ b) (h4 : b < 2147483648) : (Int32.ofInt a ≤ Int32.ofInt b) ↔ a ≤ b := by
  rw [Int32.le_iff_toInt_le, Int32.toInt_ofInt_of_le (by omega) (by omega), Int32.toInt_ofInt_of_le (by omega) (by omega)]
theorem jn_eq {a b : Int} (h1 : -2147483648 ≤ a) (h2 : a < 2147483648) (h3 : -2147483648 ≤ b) (h4 : b < 2147483648) : (Int32.ofInt a = Int32.ofInt b) ↔ a = b := by
  rw [← Int32.toInt_inj, Int32.toInt_ofInt_of_le (by omega) (by omega), Int32.toInt_ofInt_of_le (by omega) (by omega)]
theorem jn_to {a : Int} (h1 : -2147483648 ≤ a) (h2 : a < 2147483648) : (Int32.ofInt a).toInt = a := Int32.toInt_ofInt_of_le (by omega) (by omega)
theorem jn_cl {a : Int} (h1 : -2147483648 ≤ a) (h2 : a < 2147483648) : (Int32.ofInt a).toNatClampNeg = a.toNat := Int32.toNatClampNeg_ofInt_of_le (by omega) (by omega)
theorem jn_add (a b : Int) : Int32.ofInt a + Int32.ofInt b = Int32.ofInt (a + b) := (Int32.ofInt_add a b).symm
theorem jn_sub (a b : Int) : Int32.ofInt a - Int32.ofInt b = Int32.ofInt (a - b) := (Int32.ofInt_sub a b).symm
theorem jn_mul (a b : Int) : Int32.ofInt a * Int32.ofInt b = Int32.ofInt (a * b) := (Int32.ofInt_mul a b).symm
theorem jn_0 : (0 : Int32) = Int32.ofInt 0 := by decide
theorem jn_1 : (1 : Int32) = Int32.ofInt 1 := by decide
theorem jt_0 : (0 : Int32).toInt = 0 := rfl
theorem jt_1 : (1 : Int32).toInt = 1 := rfl
theorem jn_in {a : Int} {n : Nat} (h1 : -2147483648 ≤ a) (h2 : a < 2147483648) : vp_in (Int32.ofInt a) n ↔ 0 ≤ a ∧ a < n := by
  rw [vp_in_iff, jn_to h1 h2]
theorem jn_of (x : Int32) : ∃ a : Int, -2147483648 ≤ a ∧ a < 2147483648 ∧ x = Int32.ofInt a :=
  ⟨x.toInt, x.le_toInt, x.toInt_lt, (Int32.ofInt_toInt x).symm⟩
theorem jn_self (x : Int32) : Int32.ofInt x.toInt = x := Int32.ofInt_toInt x
-- sets of bits
def bs_t (x : Int64) (i : Nat) : Bool := x.toBitVec.getLsbD i
theorem bs_and (x y : Int64) (i : Nat) : bs_t (x &&& y) i = (bs_t x i && bs_t y i) := by simp [bs_t]
theorem bs_or (x y : Int64) (i : Nat) : bs_t (x ||| y) i = (bs_t x i || bs_t y i) := by simp [bs_t]
theorem bs_big {x : Int64} {i : Nat} (h : 64 ≤ i) : bs_t x i = false := by simp [bs_t, BitVec.getLsbD_of_ge _ _ h]
theorem bs_ext {x y : Int64} (h : ∀ i, i < 64 → bs_t x i = bs_t y i) : x = y := by
  apply Int64.toBitVec.inj
  apply BitVec.eq_of_getLsbD_eq
  intro i hi
  exact h i hi
theorem bs_m1 : ∀ i, i < 64 → bs_t (Int64.ofNat 18446744073709551615) i = true := by decide +kernel
theorem bs_not (x : Int64) {i : Nat} (h : i < 64) : bs_t (x ^^^ Int64.ofNat 18446744073709551615) i = !bs_t x i := by
  have := bs_m1 i h
  simp only [bs_t, Int64.toBitVec_xor, BitVec.getLsbD_xor] at this ⊢
  rw [this]
  cases x.toBitVec.getLsbD i <;> rfl
theorem bs_0 (i : Nat) : bs_t (Int64.ofNat 0) i = false := by simp [bs_t]
-- truth values as ints
def sm_z (b : Bool) : Int32 := bif b then 1 else 0
theorem sm_z0 {b : Bool} : sm_z b = 0 ↔ b = false := by cases b <;> decide
theorem sm_zb (b : Bool) : sm_z b = 0 ∨ sm_z b = 1 := by cases b <;> decide
theorem sm_zi {a b : Bool} : sm_z a = sm_z b ↔ a = b := by cases a <;> cases b <;> decide
theorem sm_o0 : Int32.ofInt 0 = sm_z false := by decide
theorem sm_o1 : Int32.ofInt 1 = sm_z true := by decide
-- the little methods' answers
def pf_hv (o c : Int) : Bool := (decide (c = 1) && (decide (o ≤ 4) || decide (o = 8) || decide (o = 9))) || (decide (c = 2) && ((decide (1 ≤ o) && decide (o ≤ 4)) || decide (o = 6) || decide (o = 7))) || (decide (c = 3) && (decide (2 ≤ o) && decide (o ≤ 4)))
def pf_dv (o : Int) : Bool := decide (o ≤ 4) || decide (o = 8)
def pf_tc (o : Int) : Int := if o = 5 then 2 else if o = 6 then 3 else -1
def pf_bit (n : Int32) : Int64 := Int64.ofNat 1 <<< (n.toInt64 &&& 63)
def pf_hb (s : Int64) (n : Int32) : Bool := decide (¬ lg_cmp ((s >>> (n.toInt64 &&& 63)) &&& Int64.ofNat 1) (Int64.ofNat 0) = 0)
def pf_rD (o : Int) : Bool := decide (o < 5) || decide (7 < o)
def pf_rA (o : Int) : Bool := (decide (1 ≤ o) && decide (o ≤ 4)) || decide (o = 6) || decide (o = 7)
def pf_rB (o : Int) : Bool := decide (1 < o) && decide (o ≤ 4)
def pf_iv (v : Int) : Bool := decide (0 ≤ v) && decide (v < 10)
def pf_il (v : Int) : Bool := decide (0 ≤ v) && decide (v ≤ 16)
abbrev sm_P (v : Value) (M : sm_M) : Option Value → sm_M → Prop := fun o M' => o = some v ∧ M' = M
-- a code's lines, as numbers: line i, column j (0 op, 1 d, 2 a, 3 b, 4 origin); its size
def cd_l (M : sm_M) (c : Nat) (i j : Int) : Int := (M.1 (c + 1) (i * 5 + j).toNat).toInt
def cd_n (M : sm_M) (c : Nat) : Int := (M.1 c 1).toInt
def cd_on (M : sm_M) (c : Nat) (i : Int) : Int := if cd_l M c i 0 = 5 then cd_n M c else i + 1
def cd_as (M : sm_M) (c : Nat) (i : Int) : Int := if pf_tc (cd_l M c i 0) = -1 then cd_n M c else if cd_n M c < cd_l M c i (pf_tc (cd_l M c i 0)) then cd_n M c else cd_l M c i (pf_tc (cd_l M c i 0))
def cd_df (M : sm_M) (c : Nat) (i : Int) : Int64 := if pf_dv (cd_l M c i 0) = true then pf_bit (Int32.ofInt (cd_l M c i 1)) else Int64.ofNat 0
def cd_u0 (M : sm_M) (c : Nat) (i : Int) : Int64 := if cd_l M c i 0 = 9 then pf_bit (Int32.ofInt (cd_l M c i 1)) else Int64.ofNat 0
def cd_u1 (M : sm_M) (c : Nat) (i : Int) : Int64 := if pf_hv (cd_l M c i 0) 2 = true then cd_u0 M c i ||| pf_bit (Int32.ofInt (cd_l M c i 2)) else cd_u0 M c i
def cd_us (M : sm_M) (c : Nat) (i : Int) : Int64 := if pf_hv (cd_l M c i 0) 3 = true then cd_u1 M c i ||| pf_bit (Int32.ofInt (cd_l M c i 3)) else cd_u1 M c i
-- the spiller's slots
def cd_sl (M : sm_M) (i j : Int) : Int := if pf_hv (cd_l M 23 i 0) j = true then (M.1 21 (cd_l M 23 i j).toNat).toInt else -1
def cd_tw (M : sm_M) (i : Int) : Bool := decide (¬ cd_sl M i 2 = -1) && (decide (¬ cd_sl M i 3 = -1) && decide (cd_l M 23 i 2 = cd_l M 23 i 3))
-- put
def pf_ft (o j n : Int) : Bool := if pf_hv o j = true then decide (0 ≤ n) && decide (n < 10) else if j = pf_tc o then decide (0 ≤ n) && decide (n ≤ 16) else true
def pf_mt (o j n : Int) : Int := if pf_hv o j = true ∨ j = pf_tc o ∨ (o = 0 ∧ j = 2) then n else 0
-- the reference's lines: place 36 ops, 37 ds, 38 as, 39 bs, 40 origins
def rf_l (M : sm_M) (i : Int) (j : Nat) : Int := (M.1 (36 + j) i.toNat).toInt
def rf_us (M : sm_M) (i v : Int) : Bool := (pf_rA (rf_l M i 0) && decide (rf_l M i 2 = v)) || ((pf_rB (rf_l M i 0) && decide (rf_l M i 3 = v)) || (decide (rf_l M i 0 = 9) && decide (rf_l M i 1 = v)))
def rf_to (M : sm_M) (n i : Int) : Int := if rf_l M i 0 = 5 then rf_l M i 2 else if rf_l M i 0 = 6 then rf_l M i 3 else n
def rf_cm (M : sm_M) (b n i v : Int) : Bool := (decide (¬ rf_l M (b + i) 0 = 5) && (decide (i + 1 < n) && decide (¬ M.1 41 (60 * (i + 1) + v).toNat = 0))) || (decide (rf_to M n (b + i) < n) && decide (¬ M.1 41 (60 * rf_to M n (b + i) + v).toNat = 0))
theorem cd_in {i j : Int32} (h : 0 ≤ i.toInt ∧ i.toInt < 48 ∧ 0 ≤ j.toInt ∧ j.toInt < 5) : vp_in (i * Int32.ofInt 5 + j) 240 ∧ (i * Int32.ofInt 5 + j).toNatClampNeg = (i.toInt * 5 + j.toInt).toNat := by
  have e : i * Int32.ofInt 5 + j = Int32.ofInt (i.toInt * 5 + j.toInt) := by
    rw [Int32.ofInt_add, Int32.ofInt_mul, jn_self, jn_self]
  rw [e, jn_in (by omega) (by omega), jn_cl (by omega) (by omega)]
  exact ⟨by omega, rfl⟩
theorem cd_lt {M : sm_M} {c : Nat} {i j : Int} : (Int32.ofInt (cd_l M c i j)).toInt = cd_l M c i j := by unfold cd_l; rw [jn_self]
theorem cd_lr {M : sm_M} {c : Nat} {i j : Int} : -2147483648 ≤ cd_l M c i j ∧ cd_l M c i j < 2147483648 := ⟨(M.1 (c + 1) (i * 5 + j).toNat).le_toInt, (M.1 (c + 1) (i * 5 + j).toNat).toInt_lt⟩
theorem pf_tcr (o : Int) : -1 ≤ pf_tc o ∧ pf_tc o ≤ 3 := by unfold pf_tc; split <;> (try split) <;> omega
theorem pf_tct {o : Int} : (Int32.ofInt (pf_tc o)).toInt = pf_tc o := by have := pf_tcr o; exact jn_to (by omega) (by omega)
def cd_uh (M : sm_M) (i j : Int) : Bool := !pf_hv (cd_l M 3 i 0) j || pf_hb (M.1 28 (i * 16 + cd_l M 3 i j).toNat).toInt64 (Int32.ofInt (cd_l M 1 (cd_l M 3 i 4) j))
theorem rf_lt {M : sm_M} {i : Int} {j : Nat} : (Int32.ofInt (rf_l M i j)).toInt = rf_l M i j := by unfold rf_l; rw [jn_self]
theorem rf_at (M : sm_M) (a : Int) (j : Nat) : M.1 (36 + j) a.toNat = Int32.ofInt (rf_l M a j) := (jn_self _).symm
