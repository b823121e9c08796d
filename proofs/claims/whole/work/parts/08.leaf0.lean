-- the little methods: what they answer
theorem sp_bf {α : Type} {b : Bool} {x : Option α} {y : α} (h : (bif b then x else none) = some y) : b = true ∧ x = some y := by
  cases b
  · cases h
  · exact ⟨rfl, h⟩
def sm_ic (c : Nat) : Bool := Nat.beq c 1 || (Nat.beq c 3 || (Nat.beq c 23 || Nat.beq c 25))
theorem sm_ic_of {c : Nat} (h : sm_ic c = true) : c = 1 ∨ c = 3 ∨ c = 23 ∨ c = 25 := by
  simp only [sm_ic, Bool.or_eq_true] at h
  rcases h with h | h | h | h
  · exact Or.inl (Nat.eq_of_beq_eq_true h)
  · exact Or.inr (Or.inl (Nat.eq_of_beq_eq_true h))
  · exact Or.inr (Or.inr (Or.inl (Nat.eq_of_beq_eq_true h)))
  · exact Or.inr (Or.inr (Or.inr (Nat.eq_of_beq_eq_true h)))
theorem sm_zt (b : Bool) : (sm_z b).toInt = if b = true then 1 else 0 := by cases b <;> rfl
def bc_1 (x : Int64) : Int64 := x - ((x.toUInt64 >>> ((Int32.ofInt 1).toInt64.toUInt64 &&& Int64.toUInt64 63)).toInt64 &&& Int64.ofNat 6148914691236517205)
def bc_2 (x : Int64) : Int64 := (x &&& Int64.ofNat 3689348814741910323) + ((x.toUInt64 >>> ((Int32.ofInt 2).toInt64.toUInt64 &&& Int64.toUInt64 63)).toInt64 &&& Int64.ofNat 3689348814741910323)
def bc_3 (x : Int64) : Int64 := (x + (x.toUInt64 >>> ((Int32.ofInt 4).toInt64.toUInt64 &&& Int64.toUInt64 63)).toInt64) &&& Int64.ofNat 1085102592571150095
def bc_4 (x : Int64) : Int64 := x + (x.toUInt64 >>> ((Int32.ofInt 8).toInt64.toUInt64 &&& Int64.toUInt64 63)).toInt64
def bc_5 (x : Int64) : Int64 := x + (x.toUInt64 >>> ((Int32.ofInt 16).toInt64.toUInt64 &&& Int64.toUInt64 63)).toInt64
def bc_6 (x : Int64) : Int64 := x + (x.toUInt64 >>> ((Int32.ofInt 32).toInt64.toUInt64 &&& Int64.toUInt64 63)).toInt64
def pf_bc (x : Int64) : Int32 := (bc_6 (bc_5 (bc_4 (bc_3 (bc_2 (bc_1 x)))))).toInt32 &&& Int32.ofInt 127
section
variable {g : sm_G} {M : sm_M}
theorem c_bit {n : Int32} : sm_Sm g 70 [.int n] M (sm_P (.long (pf_bit n)) M) := by
  refine sm_entry (Nat.le_of_ble_eq_true rfl) (Nat.le_of_ble_eq_true rfl) ?_
  refine k70_0 (fun _ _ _ _ h => h) ?_
  exact ⟨rfl, rfl⟩
theorem c_hasBit {s : Int64} {n : Int32} : sm_Sm g 71 [.long s, .int n] M (sm_P (.int (sm_z (pf_hb s n))) M) := by
  refine sm_entry (Nat.le_of_ble_eq_true rfl) (Nat.le_of_ble_eq_true rfl) ?_
  refine k71_0 (fun _ _ _ _ h => h) ⟨fun h => ⟨Or.inl rfl, ?_, rfl⟩, fun h => ⟨Or.inr rfl, ?_, rfl⟩⟩
  · rw [sm_o0]; simp only [pf_hb, h]; rfl
  · rw [sm_o1]; simp only [pf_hb, h]; rfl
theorem c_targetColumn {o : Int32} : sm_Sm g 69 [.int o] M (sm_P (.int (Int32.ofInt (pf_tc o.toInt))) M) := by
  refine sm_entry (Nat.le_of_ble_eq_true rfl) (Nat.le_of_ble_eq_true rfl) ?_
  refine k69_0 (fun _ _ _ _ h => h) ?_
  unfold pf_tc
  simp (disch := omega) only [← Int32.toInt_inj, jn_to, sm_P, and_true, or_true, true_or, true_and, Option.some.injEq, Value.int.injEq]
  refine ⟨fun h1 => ⟨fun h2 => ?_, fun h2 => ?_⟩, fun h1 => ?_⟩ <;> simp [*]
theorem c_definesValue {o : Int32} : sm_Sm g 68 [.int o] M (sm_P (.int (sm_z (pf_dv o.toInt))) M) := by
  refine sm_entry (Nat.le_of_ble_eq_true rfl) (Nat.le_of_ble_eq_true rfl) ?_
  refine k68_0 (fun _ _ _ _ h => h) ?_
  simp (disch := omega) only [← Int32.toInt_inj, Int32.le_iff_toInt_le, Int32.lt_iff_toInt_lt, jn_to, jt_0, jt_1, sm_zt, sm_P, and_true, or_true, true_or, true_and, Option.some.injEq, Value.int.injEq, pf_dv, Bool.or_eq_true, decide_eq_true_eq]
  generalize o.toInt = t
  split <;> omega
theorem c_defines {o : Int32} : sm_Sm g 76 [.int o] M (sm_P (.int (sm_z (pf_dv o.toInt))) M) := by
  refine sm_entry (Nat.le_of_ble_eq_true rfl) (Nat.le_of_ble_eq_true rfl) ?_
  refine k76_0 (fun _ _ _ _ h => h) ?_
  simp (disch := omega) only [← Int32.toInt_inj, Int32.le_iff_toInt_le, Int32.lt_iff_toInt_lt, jn_to, jt_0, jt_1, sm_zt, sm_P, and_true, or_true, true_or, true_and, Option.some.injEq, Value.int.injEq, pf_dv, Bool.or_eq_true, decide_eq_true_eq]
  generalize o.toInt = t
  split <;> omega
theorem c_hasD {o : Int32} : sm_Sm g 73 [.int o] M (sm_P (.int (sm_z (pf_rD o.toInt))) M) := by
  refine sm_entry (Nat.le_of_ble_eq_true rfl) (Nat.le_of_ble_eq_true rfl) ?_
  refine k73_0 (fun _ _ _ _ h => h) ?_
  simp (disch := omega) only [← Int32.toInt_inj, Int32.le_iff_toInt_le, Int32.lt_iff_toInt_lt, jn_to, jt_0, jt_1, sm_zt, sm_P, and_true, or_true, true_or, true_and, Option.some.injEq, Value.int.injEq, pf_rD, Bool.or_eq_true, decide_eq_true_eq]
  generalize o.toInt = t
  split <;> omega
theorem c_hasB {o : Int32} : sm_Sm g 75 [.int o] M (sm_P (.int (sm_z (pf_rB o.toInt))) M) := by
  refine sm_entry (Nat.le_of_ble_eq_true rfl) (Nat.le_of_ble_eq_true rfl) ?_
  refine k75_0 (fun _ _ _ _ h => h) ?_
  simp (disch := omega) only [← Int32.toInt_inj, Int32.le_iff_toInt_le, Int32.lt_iff_toInt_lt, jn_to, jt_0, jt_1, sm_zt, sm_P, and_true, or_true, true_or, true_and, Option.some.injEq, Value.int.injEq, pf_rB, Bool.and_eq_true, decide_eq_true_eq]
  generalize o.toInt = t
  split <;> omega
theorem c_isValue {o : Int32} : sm_Sm g 77 [.int o] M (sm_P (.int (sm_z (pf_iv o.toInt))) M) := by
  refine sm_entry (Nat.le_of_ble_eq_true rfl) (Nat.le_of_ble_eq_true rfl) ?_
  refine k77_0 (fun _ _ _ _ h => h) ?_
  simp (disch := omega) only [← Int32.toInt_inj, Int32.le_iff_toInt_le, Int32.lt_iff_toInt_lt, jn_to, jt_0, jt_1, sm_zt, sm_P, and_true, or_true, true_or, true_and, Option.some.injEq, Value.int.injEq, pf_iv, Bool.and_eq_true, decide_eq_true_eq]
  generalize o.toInt = t
  split <;> omega
theorem c_isLine {o : Int32} : sm_Sm g 78 [.int o] M (sm_P (.int (sm_z (pf_il o.toInt))) M) := by
  refine sm_entry (Nat.le_of_ble_eq_true rfl) (Nat.le_of_ble_eq_true rfl) ?_
  refine k78_0 (fun _ _ _ _ h => h) ?_
  simp (disch := omega) only [← Int32.toInt_inj, Int32.le_iff_toInt_le, Int32.lt_iff_toInt_lt, jn_to, jt_0, jt_1, sm_zt, sm_P, and_true, or_true, true_or, true_and, Option.some.injEq, Value.int.injEq, pf_il, Bool.and_eq_true, decide_eq_true_eq]
  generalize o.toInt = t
  split <;> omega
theorem c_hasA {o : Int32} : sm_Sm g 74 [.int o] M (sm_P (.int (sm_z (pf_rA o.toInt))) M) := by
  refine sm_entry (Nat.le_of_ble_eq_true rfl) (Nat.le_of_ble_eq_true rfl) ?_
  refine k74_0 (fun _ _ _ _ h => h) ⟨fun h1 => k74_10 (fun _ _ _ _ h => h) ?_, fun h1 => ⟨fun h2 => ?_, fun h2 => k74_10 (fun _ _ _ _ h => h) ?_⟩⟩ <;>
  (simp (disch := omega) only [← Int32.toInt_inj, Int32.le_iff_toInt_le, Int32.lt_iff_toInt_lt, jn_to, jt_0, jt_1, sm_zt, sm_P, and_true, or_true, true_or, true_and, Option.some.injEq, Value.int.injEq, pf_rA, Bool.or_eq_true, Bool.and_eq_true, decide_eq_true_eq] at *
   generalize o.toInt = t at *
   split <;> omega)
theorem c_holdsValue {o j : Int32} : sm_Sm g 67 [.int o, .int j] M (sm_P (.int (sm_z (pf_hv o.toInt j.toInt))) M) := by
  refine sm_entry (Nat.le_of_ble_eq_true rfl) (Nat.le_of_ble_eq_true rfl) ?_
  refine k67_0 (fun _ _ _ _ h => h) ⟨?_, ?_, fun h0 => ⟨fun h1 => k67_61 (fun _ _ _ _ h => h) ?_, fun h1 => ⟨?_, fun h2 => k67_61 (fun _ _ _ _ h => h) ?_⟩⟩, ?_, trivial⟩ <;>
  (simp (disch := omega) only [← Int32.toInt_inj, Int32.le_iff_toInt_le, Int32.lt_iff_toInt_lt, jn_to, jt_0, jt_1, sm_zt, sm_P, and_true, or_true, true_or, true_and, Option.some.injEq, Value.int.injEq, pf_hv, Bool.or_eq_true, Bool.and_eq_true, decide_eq_true_eq] at *
   generalize o.toInt = t at *
   generalize j.toInt = u at *
   split <;> omega)
theorem c_max {i j : Int32} : sm_Sm g 121 [.int i, .int j] M (sm_P (.int (if i < j then j else i)) M) := by
  refine sm_entry (Nat.le_of_ble_eq_true rfl) (Nat.le_of_ble_eq_true rfl) ?_
  refine k121_0 (fun _ _ _ _ h => h) ⟨fun h => ?_, fun h => ?_⟩ <;> simp [sm_P, h]
theorem c_min {i j : Int32} : sm_Sm g 122 [.int i, .int j] M (sm_P (.int (if j < i then j else i)) M) := by
  refine sm_entry (Nat.le_of_ble_eq_true rfl) (Nat.le_of_ble_eq_true rfl) ?_
  refine k122_0 (fun _ _ _ _ h => h) ⟨fun h => ?_, fun h => ?_⟩ <;> simp [sm_P, h]
theorem c_bitCount {s : Int64} : sm_Sm g 120 [.long s] M (sm_P (.int (pf_bc s)) M) := by
  refine sm_entry (Nat.le_of_ble_eq_true rfl) (Nat.le_of_ble_eq_true rfl) ?_
  refine k120_0 (fun _ _ _ _ h => h) ?_
  exact ⟨rfl, rfl⟩
theorem c_slotCount {p : Nat} (h : Nat.beq p 8 = true) : sm_Sm g 2 [.ref p] M (sm_P (.int (M.1 20 3)) M) := by
  have e := Nat.eq_of_beq_eq_true h
  subst e
  refine sm_entry (Nat.le_of_ble_eq_true rfl) (Nat.le_of_ble_eq_true rfl) ?_
  refine k2_0 (fun _ _ _ _ h => h) ?_
  exact ⟨rfl, rfl⟩
theorem c_joinCount {p : Nat} (h : Nat.beq p 8 = true) : sm_Sm g 3 [.ref p] M (sm_P (.int (M.1 12 5)) M) := by
  have e := Nat.eq_of_beq_eq_true h
  subst e
  refine sm_entry (Nat.le_of_ble_eq_true rfl) (Nat.le_of_ble_eq_true rfl) ?_
  refine k3_0 (fun _ _ _ _ h => h) ?_
  exact ⟨rfl, rfl⟩
theorem c_thrown {p : Nat} (h : Nat.beq p 35 = true) : sm_Sm g 72 [.ref p] M (sm_P (.int (M.1 35 0)) M) := by
  have e := Nat.eq_of_beq_eq_true h
  subst e
  refine sm_entry (Nat.le_of_ble_eq_true rfl) (Nat.le_of_ble_eq_true rfl) ?_
  refine k72_0 (fun _ _ _ _ h => h) ?_
  exact ⟨rfl, rfl⟩
theorem c_at {c : Nat} {i j : Int32} (hc : sm_ic c = true) (h : 0 ≤ i.toInt ∧ i.toInt < 48 ∧ 0 ≤ j.toInt ∧ j.toInt < 5) : sm_Sm g 10 [.ref c, .int i, .int j] M (sm_P (.int (Int32.ofInt (cd_l M c i.toInt j.toInt))) M) := by
  refine sm_entry (Nat.le_of_ble_eq_true rfl) (Nat.le_of_ble_eq_true rfl) ?_
  refine k10_0 (sm_ic_of hc) (fun _ _ _ _ h => h) ?_
  obtain ⟨h1, h2⟩ := cd_in h
  refine ⟨h1, ?_, rfl⟩
  rw [h2, cd_l, jn_self]
theorem c_isLighter {p q : Nat} {i j : Int32} (hc : (Nat.beq p 16 && Nat.beq q 12) = true) (h : vp_in i 60 ∧ vp_in j 60) : sm_Sm g 22 [.ref p, .ref q, .int i, .int j] M (sm_P (.int (sm_z (decide (¬ M.1 14 j.toNatClampNeg * M.1 19 i.toNatClampNeg ≤ M.1 14 i.toNatClampNeg * M.1 19 j.toNatClampNeg)))) M) := by
  obtain ⟨h1, h2⟩ := sm_an hc
  have e := Nat.eq_of_beq_eq_true h1
  have e2 := Nat.eq_of_beq_eq_true h2
  subst e
  subst e2
  refine sm_entry (Nat.le_of_ble_eq_true rfl) (Nat.le_of_ble_eq_true rfl) ?_
  refine k22_0 (fun _ _ _ _ h => h) ⟨h.1, h.2, h.2, h.1, fun q => ⟨Or.inl rfl, ?_, rfl⟩, fun q => ⟨Or.inr rfl, ?_, rfl⟩⟩
  · rw [sm_o0]; simp only [q]; rfl
  · rw [sm_o1]; simp only [q]; rfl
theorem c_target {p : Nat} {i : Int32} (hc : Nat.beq p 35 = true) (h : vp_in i 112) : sm_Sm g 80 [.ref p, .int i] M (sm_P (.int (if M.1 36 i.toNatClampNeg = Int32.ofInt 5 then M.1 38 i.toNatClampNeg else M.1 39 i.toNatClampNeg)) M) := by
  have e := Nat.eq_of_beq_eq_true hc
  subst e
  refine sm_entry (Nat.le_of_ble_eq_true rfl) (Nat.le_of_ble_eq_true rfl) ?_
  refine k80_0 (fun _ _ _ _ h => h) ⟨h, fun q => ⟨h, ?_, rfl⟩, fun q => ⟨h, ?_, rfl⟩⟩ <;> simp only [q] <;> rfl
theorem c_hasResultLine {p : Nat} {i : Int32} (hc : Nat.beq p 0 = true) : sm_Sm g 64 [.ref p, .int i] M (sm_P (.int (sm_z (decide (¬ M.1 0 6 = 0) && (decide (¬ i < 0) && decide (¬ M.1 3 1 ≤ i))))) M) := by
  have e := Nat.eq_of_beq_eq_true hc
  subst e
  refine sm_entry (Nat.le_of_ble_eq_true rfl) (Nat.le_of_ble_eq_true rfl) ?_
  refine k64_0 (fun _ _ _ _ h => h) ⟨fun h1 => ⟨Or.inl rfl, ?_, rfl⟩, fun h1 => ⟨fun h2 => ⟨Or.inl rfl, ?_, rfl⟩, fun h2 => ⟨fun h3 => ⟨Or.inl rfl, ?_, rfl⟩, fun h3 => ⟨Or.inr rfl, ?_, rfl⟩⟩⟩⟩ <;> simp only [sm_o0, sm_o1, *] <;> rfl
theorem c_isResult {p : Nat} {i : Int32} (hc : Nat.beq p 35 = true) : sm_Sm g 105 [.ref p, .int i] M (sm_P (.int (sm_z (decide (¬ M.1 35 24 = 0) && (decide (¬ i < 0) && decide (¬ M.1 35 7 ≤ i))))) M) := by
  have e := Nat.eq_of_beq_eq_true hc
  subst e
  refine sm_entry (Nat.le_of_ble_eq_true rfl) (Nat.le_of_ble_eq_true rfl) ?_
  refine k105_0 (fun _ _ _ _ h => h) ⟨fun h1 => ⟨Or.inl rfl, ?_, rfl⟩, fun h1 => ⟨fun h2 => ⟨Or.inl rfl, ?_, rfl⟩, fun h2 => ⟨fun h3 => ⟨Or.inl rfl, ?_, rfl⟩, fun h3 => ⟨Or.inr rfl, ?_, rfl⟩⟩⟩⟩ <;> simp only [sm_o0, sm_o1, *] <;> rfl
end
