def sp_1 (a : Nat) (as : List Value) (M : sm_M) : Option (Option Prop × Value) :=
  bif Nat.beq a 9 then (match as with | [.ref p, .ref c, .ref d, .int i, .int j] => bif Nat.beq p 27 && (Nat.beq c 1 && Nat.beq d 3) then some (some ((0 ≤ i.toInt ∧ i.toInt < 48 ∧ (j.toInt = 2 ∨ j.toInt = 3) ∧ (pf_hv (cd_l M 3 i.toInt 0) j.toInt = true → (0 ≤ cd_l M 3 i.toInt j.toInt ∧ cd_l M 3 i.toInt j.toInt < 16) ∧ (0 ≤ cd_l M 3 i.toInt 4 ∧ cd_l M 3 i.toInt 4 < 48)))), .int (sm_z (cd_uh M i.toInt j.toInt))) else none | _ => none) else
  bif Nat.beq a 14 then (match as with | [.ref c, .int i] => bif sm_ic c then some (some ((0 ≤ i.toInt ∧ i.toInt < 48)), .int (Int32.ofInt (cd_on M c i.toInt))) else none | _ => none) else
  bif Nat.beq a 15 then (match as with | [.ref c, .int i] => bif sm_ic c then some (some ((0 ≤ i.toInt ∧ i.toInt < 48)), .int (Int32.ofInt (cd_as M c i.toInt))) else none | _ => none) else
  bif Nat.beq a 16 then (match as with | [.ref c, .int i] => bif sm_ic c then some (some ((0 ≤ i.toInt ∧ i.toInt < 48)), .long (cd_df M c i.toInt)) else none | _ => none) else
  bif Nat.beq a 17 then (match as with | [.ref c, .int i] => bif sm_ic c then some (some ((0 ≤ i.toInt ∧ i.toInt < 48)), .long (cd_us M c i.toInt)) else none | _ => none) else
  bif Nat.beq a 31 then (match as with | [.ref p, .int i, .int s, .int t] => bif Nat.beq p 12 then some (some (vp_in i 60), .int (if (pf_hb (M.2 15 i.toNatClampNeg) s && pf_hb (M.2 15 i.toNatClampNeg) t) = true then pf_bc (M.2 15 i.toNatClampNeg) - Int32.ofInt 1 else pf_bc (M.2 15 i.toNatClampNeg))) else none | _ => none) else
  bif Nat.beq a 35 then (match as with | [.ref p] => bif Nat.beq p 31 then some (none, .int (if Int32.ofInt 20 < M.1 31 3 then Int32.ofInt 20 else M.1 31 3)) else none | _ => none) else
  bif Nat.beq a 45 then (match as with | [.ref p, .ref c, .int i, .int j] => bif Nat.beq p 20 && Nat.beq c 23 then some (some ((0 ≤ i.toInt ∧ i.toInt < 48 ∧ 1 ≤ j.toInt ∧ j.toInt < 4 ∧ (pf_hv (cd_l M 23 i.toInt 0) j.toInt = true → 0 ≤ cd_l M 23 i.toInt j.toInt ∧ cd_l M 23 i.toInt j.toInt < 60))), .int (Int32.ofInt (cd_sl M i.toInt j.toInt))) else none | _ => none) else
  bif Nat.beq a 65 then (match as with | [.int o, .int j, .int i] => some (none, .int (sm_z (pf_ft o.toInt j.toInt i.toInt))) | _ => none) else
  bif Nat.beq a 66 then (match as with | [.int o, .int j, .int i] => some (none, .int (Int32.ofInt (pf_mt o.toInt j.toInt i.toInt))) | _ => none) else
  bif Nat.beq a 79 then (match as with | [.ref p, .int i, .int j] => bif Nat.beq p 35 then some (some ((0 ≤ i.toInt ∧ i.toInt < 112)), .int (sm_z (rf_us M i.toInt j.toInt))) else none | _ => none) else
  bif Nat.beq a 85 then (match as with | [.ref p, .int b, .int n, .int i, .int j] => bif Nat.beq p 35 then some (some (((0 ≤ b.toInt ∧ b.toInt ≤ 64 ∧ 0 ≤ n.toInt ∧ n.toInt ≤ 48 ∧ 0 ≤ i.toInt ∧ i.toInt < n.toInt ∧ 0 ≤ j.toInt ∧ j.toInt < 60) ∧ 0 ≤ rf_to M n.toInt (b.toInt + i.toInt))), .int (sm_z (rf_cm M b.toInt n.toInt i.toInt j.toInt))) else none | _ => none) else
  sp_0 a as M
theorem sp_1_ok {g : sm_G} {a : Nat} {as : List Value} {M : sm_M} {q : Option Prop} {v : Value} (h : sp_1 a as M = some (q, v)) (hq : q.getD True) : sm_Sm g a as M (sm_P v M) := by
  unfold sp_1 at h
  cases h9 : Nat.beq a 9 with
  | true =>
    rw [h9] at h
    have e := Nat.eq_of_beq_eq_true h9
    subst e
    simp only [cond_true] at h
    split at h
    · obtain ⟨hc, h⟩ := sp_bf h
      cases h
      exact c_useHolds hc hq
    · cases h
  | false =>
  rw [h9] at h
  simp only [cond_false] at h
  cases h14 : Nat.beq a 14 with
  | true =>
    rw [h14] at h
    have e := Nat.eq_of_beq_eq_true h14
    subst e
    simp only [cond_true] at h
    split at h
    · obtain ⟨hc, h⟩ := sp_bf h
      cases h
      exact c_wayOn hc hq
    · cases h
  | false =>
  rw [h14] at h
  simp only [cond_false] at h
  cases h15 : Nat.beq a 15 with
  | true =>
    rw [h15] at h
    have e := Nat.eq_of_beq_eq_true h15
    subst e
    simp only [cond_true] at h
    split at h
    · obtain ⟨hc, h⟩ := sp_bf h
      cases h
      exact c_wayAside hc hq
    · cases h
  | false =>
  rw [h15] at h
  simp only [cond_false] at h
  cases h16 : Nat.beq a 16 with
  | true =>
    rw [h16] at h
    have e := Nat.eq_of_beq_eq_true h16
    subst e
    simp only [cond_true] at h
    split at h
    · obtain ⟨hc, h⟩ := sp_bf h
      cases h
      exact c_defined hc hq
    · cases h
  | false =>
  rw [h16] at h
  simp only [cond_false] at h
  cases h17 : Nat.beq a 17 with
  | true =>
    rw [h17] at h
    have e := Nat.eq_of_beq_eq_true h17
    subst e
    simp only [cond_true] at h
    split at h
    · obtain ⟨hc, h⟩ := sp_bf h
      cases h
      exact c_used hc hq
    · cases h
  | false =>
  rw [h17] at h
  simp only [cond_false] at h
  cases h31 : Nat.beq a 31 with
  | true =>
    rw [h31] at h
    have e := Nat.eq_of_beq_eq_true h31
    subst e
    simp only [cond_true] at h
    split at h
    · obtain ⟨hc, h⟩ := sp_bf h
      cases h
      exact c_degreeIfJoined hc hq
    · cases h
  | false =>
  rw [h31] at h
  simp only [cond_false] at h
  cases h35 : Nat.beq a 35 with
  | true =>
    rw [h35] at h
    have e := Nat.eq_of_beq_eq_true h35
    subst e
    simp only [cond_true] at h
    split at h
    · obtain ⟨hc, h⟩ := sp_bf h
      cases h
      exact c_keptCount hc
    · cases h
  | false =>
  rw [h35] at h
  simp only [cond_false] at h
  cases h45 : Nat.beq a 45 with
  | true =>
    rw [h45] at h
    have e := Nat.eq_of_beq_eq_true h45
    subst e
    simp only [cond_true] at h
    split at h
    · obtain ⟨hc, h⟩ := sp_bf h
      cases h
      exact c_slotAt hc hq
    · cases h
  | false =>
  rw [h45] at h
  simp only [cond_false] at h
  cases h65 : Nat.beq a 65 with
  | true =>
    rw [h65] at h
    have e := Nat.eq_of_beq_eq_true h65
    subst e
    simp only [cond_true] at h
    split at h
    · cases h
      exact c_fits
    · cases h
  | false =>
  rw [h65] at h
  simp only [cond_false] at h
  cases h66 : Nat.beq a 66 with
  | true =>
    rw [h66] at h
    have e := Nat.eq_of_beq_eq_true h66
    subst e
    simp only [cond_true] at h
    split at h
    · cases h
      exact c_meant
    · cases h
  | false =>
  rw [h66] at h
  simp only [cond_false] at h
  cases h79 : Nat.beq a 79 with
  | true =>
    rw [h79] at h
    have e := Nat.eq_of_beq_eq_true h79
    subst e
    simp only [cond_true] at h
    split at h
    · obtain ⟨hc, h⟩ := sp_bf h
      cases h
      exact c_uses hc hq
    · cases h
  | false =>
  rw [h79] at h
  simp only [cond_false] at h
  cases h85 : Nat.beq a 85 with
  | true =>
    rw [h85] at h
    have e := Nat.eq_of_beq_eq_true h85
    subst e
    simp only [cond_true] at h
    split at h
    · obtain ⟨hc, h⟩ := sp_bf h
      cases h
      exact c_comes hc hq
    · cases h
  | false =>
  rw [h85] at h
  simp only [cond_false] at h
  exact sp_0_ok h hq
def sm_S1 (g : sm_G) (a : Nat) (as : List Value) (M : sm_M) (P : Option Value → sm_M → Prop) : Prop := match sp_1 a as M with
  | some (some q, v) => q ∧ P (some v) M
  | some (none, v) => P (some v) M
  | none => sm_Sm g a as M P
theorem sm_S1_ok {g : sm_G} : ∀ a as M P, sm_S1 g a as M P → sm_Sm g a as M P := by
  intro a as M P h
  unfold sm_S1 at h
  split at h
  · rename_i q v he
    exact sm_Sm_mono (sp_1_ok he h.1) (fun r M' hr => by rw [hr.1, hr.2]; exact h.2)
  · rename_i v he
    exact sm_Sm_mono (sp_1_ok he trivial) (fun r M' hr => by rw [hr.1, hr.2]; exact h)
  · exact h
