def sp_0 (a : Nat) (as : List Value) (M : sm_M) : Option (Option Prop × Value) :=
  bif Nat.beq a 2 then (match as with | [.ref p] => bif Nat.beq p 8 then some (none, .int (M.1 20 3)) else none | _ => none) else
  bif Nat.beq a 3 then (match as with | [.ref p] => bif Nat.beq p 8 then some (none, .int (M.1 12 5)) else none | _ => none) else
  bif Nat.beq a 10 then (match as with | [.ref c, .int i, .int j] => bif sm_ic c then some (some ((0 ≤ i.toInt ∧ i.toInt < 48 ∧ 0 ≤ j.toInt ∧ j.toInt < 5)), .int (Int32.ofInt (cd_l M c i.toInt j.toInt))) else none | _ => none) else
  bif Nat.beq a 22 then (match as with | [.ref p, .ref q, .int i, .int j] => bif Nat.beq p 16 && Nat.beq q 12 then some (some ((vp_in i 60 ∧ vp_in j 60)), .int (sm_z (decide (¬ M.1 14 j.toNatClampNeg * M.1 19 i.toNatClampNeg ≤ M.1 14 i.toNatClampNeg * M.1 19 j.toNatClampNeg)))) else none | _ => none) else
  bif Nat.beq a 64 then (match as with | [.ref p, .int i] => bif Nat.beq p 0 then some (none, .int (sm_z (decide (¬ M.1 0 6 = 0) && (decide (¬ i < 0) && decide (¬ M.1 3 1 ≤ i))))) else none | _ => none) else
  bif Nat.beq a 67 then (match as with | [.int o, .int j] => some (none, .int (sm_z (pf_hv o.toInt j.toInt))) | _ => none) else
  bif Nat.beq a 68 then (match as with | [.int o] => some (none, .int (sm_z (pf_dv o.toInt))) | _ => none) else
  bif Nat.beq a 69 then (match as with | [.int o] => some (none, .int (Int32.ofInt (pf_tc o.toInt))) | _ => none) else
  bif Nat.beq a 70 then (match as with | [.int o] => some (none, .long (pf_bit o)) | _ => none) else
  bif Nat.beq a 71 then (match as with | [.long s, .int o] => some (none, .int (sm_z (pf_hb s o))) | _ => none) else
  bif Nat.beq a 72 then (match as with | [.ref p] => bif Nat.beq p 35 then some (none, .int (M.1 35 0)) else none | _ => none) else
  bif Nat.beq a 73 then (match as with | [.int o] => some (none, .int (sm_z (pf_rD o.toInt))) | _ => none) else
  bif Nat.beq a 74 then (match as with | [.int o] => some (none, .int (sm_z (pf_rA o.toInt))) | _ => none) else
  bif Nat.beq a 75 then (match as with | [.int o] => some (none, .int (sm_z (pf_rB o.toInt))) | _ => none) else
  bif Nat.beq a 76 then (match as with | [.int o] => some (none, .int (sm_z (pf_dv o.toInt))) | _ => none) else
  bif Nat.beq a 77 then (match as with | [.int o] => some (none, .int (sm_z (pf_iv o.toInt))) | _ => none) else
  bif Nat.beq a 78 then (match as with | [.int o] => some (none, .int (sm_z (pf_il o.toInt))) | _ => none) else
  bif Nat.beq a 80 then (match as with | [.ref p, .int i] => bif Nat.beq p 35 then some (some (vp_in i 112), .int (if M.1 36 i.toNatClampNeg = Int32.ofInt 5 then M.1 38 i.toNatClampNeg else M.1 39 i.toNatClampNeg)) else none | _ => none) else
  bif Nat.beq a 105 then (match as with | [.ref p, .int i] => bif Nat.beq p 35 then some (none, .int (sm_z (decide (¬ M.1 35 24 = 0) && (decide (¬ i < 0) && decide (¬ M.1 35 7 ≤ i))))) else none | _ => none) else
  bif Nat.beq a 120 then (match as with | [.long s] => some (none, .int (pf_bc s)) | _ => none) else
  bif Nat.beq a 121 then (match as with | [.int i, .int j] => some (none, .int (if i < j then j else i)) | _ => none) else
  bif Nat.beq a 122 then (match as with | [.int i, .int j] => some (none, .int (if j < i then j else i)) | _ => none) else
  none
theorem sp_0_ok {g : sm_G} {a : Nat} {as : List Value} {M : sm_M} {q : Option Prop} {v : Value} (h : sp_0 a as M = some (q, v)) (hq : q.getD True) : sm_Sm g a as M (sm_P v M) := by
  unfold sp_0 at h
  cases h2 : Nat.beq a 2 with
  | true =>
    rw [h2] at h
    have e := Nat.eq_of_beq_eq_true h2
    subst e
    simp only [cond_true] at h
    split at h
    · obtain ⟨hc, h⟩ := sp_bf h
      cases h
      exact c_slotCount hc
    · cases h
  | false =>
  rw [h2] at h
  simp only [cond_false] at h
  cases h3 : Nat.beq a 3 with
  | true =>
    rw [h3] at h
    have e := Nat.eq_of_beq_eq_true h3
    subst e
    simp only [cond_true] at h
    split at h
    · obtain ⟨hc, h⟩ := sp_bf h
      cases h
      exact c_joinCount hc
    · cases h
  | false =>
  rw [h3] at h
  simp only [cond_false] at h
  cases h10 : Nat.beq a 10 with
  | true =>
    rw [h10] at h
    have e := Nat.eq_of_beq_eq_true h10
    subst e
    simp only [cond_true] at h
    split at h
    · obtain ⟨hc, h⟩ := sp_bf h
      cases h
      exact c_at hc hq
    · cases h
  | false =>
  rw [h10] at h
  simp only [cond_false] at h
  cases h22 : Nat.beq a 22 with
  | true =>
    rw [h22] at h
    have e := Nat.eq_of_beq_eq_true h22
    subst e
    simp only [cond_true] at h
    split at h
    · obtain ⟨hc, h⟩ := sp_bf h
      cases h
      exact c_isLighter hc hq
    · cases h
  | false =>
  rw [h22] at h
  simp only [cond_false] at h
  cases h64 : Nat.beq a 64 with
  | true =>
    rw [h64] at h
    have e := Nat.eq_of_beq_eq_true h64
    subst e
    simp only [cond_true] at h
    split at h
    · obtain ⟨hc, h⟩ := sp_bf h
      cases h
      exact c_hasResultLine hc
    · cases h
  | false =>
  rw [h64] at h
  simp only [cond_false] at h
  cases h67 : Nat.beq a 67 with
  | true =>
    rw [h67] at h
    have e := Nat.eq_of_beq_eq_true h67
    subst e
    simp only [cond_true] at h
    split at h
    · cases h
      exact c_holdsValue
    · cases h
  | false =>
  rw [h67] at h
  simp only [cond_false] at h
  cases h68 : Nat.beq a 68 with
  | true =>
    rw [h68] at h
    have e := Nat.eq_of_beq_eq_true h68
    subst e
    simp only [cond_true] at h
    split at h
    · cases h
      exact c_definesValue
    · cases h
  | false =>
  rw [h68] at h
  simp only [cond_false] at h
  cases h69 : Nat.beq a 69 with
  | true =>
    rw [h69] at h
    have e := Nat.eq_of_beq_eq_true h69
    subst e
    simp only [cond_true] at h
    split at h
    · cases h
      exact c_targetColumn
    · cases h
  | false =>
  rw [h69] at h
  simp only [cond_false] at h
  cases h70 : Nat.beq a 70 with
  | true =>
    rw [h70] at h
    have e := Nat.eq_of_beq_eq_true h70
    subst e
    simp only [cond_true] at h
    split at h
    · cases h
      exact c_bit
    · cases h
  | false =>
  rw [h70] at h
  simp only [cond_false] at h
  cases h71 : Nat.beq a 71 with
  | true =>
    rw [h71] at h
    have e := Nat.eq_of_beq_eq_true h71
    subst e
    simp only [cond_true] at h
    split at h
    · cases h
      exact c_hasBit
    · cases h
  | false =>
  rw [h71] at h
  simp only [cond_false] at h
  cases h72 : Nat.beq a 72 with
  | true =>
    rw [h72] at h
    have e := Nat.eq_of_beq_eq_true h72
    subst e
    simp only [cond_true] at h
    split at h
    · obtain ⟨hc, h⟩ := sp_bf h
      cases h
      exact c_thrown hc
    · cases h
  | false =>
  rw [h72] at h
  simp only [cond_false] at h
  cases h73 : Nat.beq a 73 with
  | true =>
    rw [h73] at h
    have e := Nat.eq_of_beq_eq_true h73
    subst e
    simp only [cond_true] at h
    split at h
    · cases h
      exact c_hasD
    · cases h
  | false =>
  rw [h73] at h
  simp only [cond_false] at h
  cases h74 : Nat.beq a 74 with
  | true =>
    rw [h74] at h
    have e := Nat.eq_of_beq_eq_true h74
    subst e
    simp only [cond_true] at h
    split at h
    · cases h
      exact c_hasA
    · cases h
  | false =>
  rw [h74] at h
  simp only [cond_false] at h
  cases h75 : Nat.beq a 75 with
  | true =>
    rw [h75] at h
    have e := Nat.eq_of_beq_eq_true h75
    subst e
    simp only [cond_true] at h
    split at h
    · cases h
      exact c_hasB
    · cases h
  | false =>
  rw [h75] at h
  simp only [cond_false] at h
  cases h76 : Nat.beq a 76 with
  | true =>
    rw [h76] at h
    have e := Nat.eq_of_beq_eq_true h76
    subst e
    simp only [cond_true] at h
    split at h
    · cases h
      exact c_defines
    · cases h
  | false =>
  rw [h76] at h
  simp only [cond_false] at h
  cases h77 : Nat.beq a 77 with
  | true =>
    rw [h77] at h
    have e := Nat.eq_of_beq_eq_true h77
    subst e
    simp only [cond_true] at h
    split at h
    · cases h
      exact c_isValue
    · cases h
  | false =>
  rw [h77] at h
  simp only [cond_false] at h
  cases h78 : Nat.beq a 78 with
  | true =>
    rw [h78] at h
    have e := Nat.eq_of_beq_eq_true h78
    subst e
    simp only [cond_true] at h
    split at h
    · cases h
      exact c_isLine
    · cases h
  | false =>
  rw [h78] at h
  simp only [cond_false] at h
  cases h80 : Nat.beq a 80 with
  | true =>
    rw [h80] at h
    have e := Nat.eq_of_beq_eq_true h80
    subst e
    simp only [cond_true] at h
    split at h
    · obtain ⟨hc, h⟩ := sp_bf h
      cases h
      exact c_target hc hq
    · cases h
  | false =>
  rw [h80] at h
  simp only [cond_false] at h
  cases h105 : Nat.beq a 105 with
  | true =>
    rw [h105] at h
    have e := Nat.eq_of_beq_eq_true h105
    subst e
    simp only [cond_true] at h
    split at h
    · obtain ⟨hc, h⟩ := sp_bf h
      cases h
      exact c_isResult hc
    · cases h
  | false =>
  rw [h105] at h
  simp only [cond_false] at h
  cases h120 : Nat.beq a 120 with
  | true =>
    rw [h120] at h
    have e := Nat.eq_of_beq_eq_true h120
    subst e
    simp only [cond_true] at h
    split at h
    · cases h
      exact c_bitCount
    · cases h
  | false =>
  rw [h120] at h
  simp only [cond_false] at h
  cases h121 : Nat.beq a 121 with
  | true =>
    rw [h121] at h
    have e := Nat.eq_of_beq_eq_true h121
    subst e
    simp only [cond_true] at h
    split at h
    · cases h
      exact c_max
    · cases h
  | false =>
  rw [h121] at h
  simp only [cond_false] at h
  cases h122 : Nat.beq a 122 with
  | true =>
    rw [h122] at h
    have e := Nat.eq_of_beq_eq_true h122
    subst e
    simp only [cond_true] at h
    split at h
    · cases h
      exact c_min
    · cases h
  | false =>
  rw [h122] at h
  simp only [cond_false] at h
  cases h
def sm_S0 (g : sm_G) (a : Nat) (as : List Value) (M : sm_M) (P : Option Value → sm_M → Prop) : Prop := match sp_0 a as M with
  | some (some q, v) => q ∧ P (some v) M
  | some (none, v) => P (some v) M
  | none => sm_Sm g a as M P
theorem sm_S0_ok {g : sm_G} : ∀ a as M P, sm_S0 g a as M P → sm_Sm g a as M P := by
  intro a as M P h
  unfold sm_S0 at h
  split at h
  · rename_i q v he
    exact sm_Sm_mono (sp_0_ok he h.1) (fun r M' hr => by rw [hr.1, hr.2]; exact h.2)
  · rename_i v he
    exact sm_Sm_mono (sp_0_ok he trivial) (fun r M' hr => by rw [hr.1, hr.2]; exact h)
  · exact h
