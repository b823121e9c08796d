section
variable {g : sm_G} {M : sm_M}
theorem c_wayOn {c : Nat} {i : Int32} (hc : sm_ic c = true) (h : 0 ≤ i.toInt ∧ i.toInt < 48) : sm_Sm g 14 [.ref c, .int i] M (sm_P (.int (Int32.ofInt (cd_on M c i.toInt))) M) := by
  refine sm_entry (Nat.le_of_ble_eq_true rfl) (Nat.le_of_ble_eq_true rfl) ?_
  refine k14_0 (sm_ic_of hc) (fun _ _ _ _ h => h) ⟨⟨h.1, h.2, by decide, by decide⟩, fun q => ⟨?_, rfl⟩, fun q => ⟨?_, rfl⟩⟩ <;>
    simp (disch := omega) only [← Int32.toInt_inj, cd_lt, jn_to] at q
  · rw [cd_on, if_neg q, Int32.ofInt_add, jn_self]
  · rw [cd_on, if_pos q, cd_n, jn_self]
theorem c_wayAside {c : Nat} {i : Int32} (hc : sm_ic c = true) (h : 0 ≤ i.toInt ∧ i.toInt < 48) : sm_Sm g 15 [.ref c, .int i] M (sm_P (.int (Int32.ofInt (cd_as M c i.toInt))) M) := by
  refine sm_entry (Nat.le_of_ble_eq_true rfl) (Nat.le_of_ble_eq_true rfl) ?_
  refine k15_0 (sm_ic_of hc) (fun _ _ _ _ h => h) ?_
  simp (disch := omega) only [← Int32.toInt_inj, Int32.lt_iff_toInt_lt, cd_lt, jn_to, pf_tct]
  have h3 := pf_tcr (cd_l M c i.toInt 0)
  refine ⟨⟨h.1, h.2, by decide, by decide⟩, fun q => ⟨⟨h.1, h.2, by omega, by omega⟩, ?_, rfl⟩, fun q => ⟨?_, rfl⟩⟩
  · rw [cd_as, if_neg q]
    unfold cd_n
    split
    · rw [jn_self]
    · rfl
  · rw [cd_as, if_pos q, cd_n, jn_self]
theorem c_defined {c : Nat} {i : Int32} (hc : sm_ic c = true) (h : 0 ≤ i.toInt ∧ i.toInt < 48) : sm_Sm g 16 [.ref c, .int i] M (sm_P (.long (cd_df M c i.toInt)) M) := by
  refine sm_entry (Nat.le_of_ble_eq_true rfl) (Nat.le_of_ble_eq_true rfl) ?_
  refine k16_0 (sm_ic_of hc) (fun _ _ _ _ h => h) ?_
  simp (disch := omega) only [cd_lt, jn_to, sm_z0]
  refine ⟨⟨h.1, h.2, by decide, by decide⟩, fun q => ⟨?_, rfl⟩, fun q => ⟨⟨h.1, h.2, by decide, by decide⟩, ?_, rfl⟩⟩
  · rw [cd_df, if_neg (by simp [q])]
  · rw [cd_df, if_pos (by simpa using q)]
theorem c_used {c : Nat} {i : Int32} (hc : sm_ic c = true) (h : 0 ≤ i.toInt ∧ i.toInt < 48) : sm_Sm g 17 [.ref c, .int i] M (sm_P (.long (cd_us M c i.toInt)) M) := by
  refine sm_entry (Nat.le_of_ble_eq_true rfl) (Nat.le_of_ble_eq_true rfl) ?_
  have hi := sm_ic_of hc
  have b3 : ∀ (x2 : Int32) (l : Int64), x2.toInt = cd_l M c i.toInt 0 → l = cd_u1 M c i.toInt → sm_Go g 17 (sm_Fn g (sm_P (.long (cd_us M c i.toInt)) M)) 47 [.ref c, .int i, .int x2, .long l, .null] [] M := by
    intro x2 l hx hl
    refine k17_47 hi (fun _ _ _ _ h => h) ?_
    simp (disch := omega) only [cd_lt, jn_to, sm_z0, hx]
    refine ⟨fun q => ⟨?_, rfl⟩, fun q => ⟨⟨h.1, h.2, by decide, by decide⟩, ?_, rfl⟩⟩
    · rw [cd_us, if_neg (by simp [q]), hl]
    · rw [cd_us, if_pos (by simpa using q), hl]
  have b2 : ∀ (x2 : Int32) (l : Int64), x2.toInt = cd_l M c i.toInt 0 → l = cd_u0 M c i.toInt → sm_Go g 17 (sm_Fn g (sm_P (.long (cd_us M c i.toInt)) M)) 26 [.ref c, .int i, .int x2, .null, .null] [.long l] M := by
    intro x2 l hx hl
    refine k17_26 hi (fun _ _ _ _ h => h) ?_
    simp (disch := omega) only [cd_lt, jn_to, sm_z0, hx]
    refine ⟨fun q => b3 _ _ hx ?_, fun q => ⟨⟨h.1, h.2, by decide, by decide⟩, b3 _ _ hx ?_⟩⟩
    · rw [cd_u1, if_neg (by simp [q]), hl]
    · rw [cd_u1, if_pos (by simpa using q), hl]
  refine k17_0 hi (fun _ _ _ _ h => h) ⟨⟨h.1, h.2, by decide, by decide⟩, fun q => b2 _ _ ?_ ?_, fun q => ⟨⟨h.1, h.2, by decide, by decide⟩, b2 _ _ ?_ ?_⟩⟩ <;>
    simp (disch := omega) only [← Int32.toInt_inj, cd_lt, jn_to] at q ⊢
  · rw [cd_u0, if_neg q]
  · rw [cd_u0, if_pos q]
theorem c_keptCount {p : Nat} (h : Nat.beq p 31 = true) : sm_Sm g 35 [.ref p] M (sm_P (.int (if Int32.ofInt 20 < M.1 31 3 then Int32.ofInt 20 else M.1 31 3)) M) := by
  have e := Nat.eq_of_beq_eq_true h
  subst e
  refine sm_entry (Nat.le_of_ble_eq_true rfl) (Nat.le_of_ble_eq_true rfl) ?_
  refine k35_0 (fun _ _ _ _ h => h) ?_
  exact ⟨rfl, rfl⟩
theorem c_slotAt {p c : Nat} {i j : Int32} (hc : (Nat.beq p 20 && Nat.beq c 23) = true) (h : 0 ≤ i.toInt ∧ i.toInt < 48 ∧ 1 ≤ j.toInt ∧ j.toInt < 4 ∧ (pf_hv (cd_l M 23 i.toInt 0) j.toInt = true → 0 ≤ cd_l M 23 i.toInt j.toInt ∧ cd_l M 23 i.toInt j.toInt < 60)) : sm_Sm g 45 [.ref p, .ref c, .int i, .int j] M (sm_P (.int (Int32.ofInt (cd_sl M i.toInt j.toInt))) M) := by
  obtain ⟨h1, h2⟩ := sm_an hc
  have e := Nat.eq_of_beq_eq_true h1
  have e2 := Nat.eq_of_beq_eq_true h2
  subst e
  subst e2
  obtain ⟨a1, a2, a3, a4, a5⟩ := h
  refine sm_entry (Nat.le_of_ble_eq_true rfl) (Nat.le_of_ble_eq_true rfl) ?_
  refine k45_0 (fun _ _ _ _ h => h) ?_
  simp (disch := omega) only [cd_lt, jn_to, sm_z0]
  refine ⟨⟨a1, a2, by decide, by decide⟩, fun q => ⟨?_, rfl⟩, fun q => ?_⟩
  · rw [cd_sl, if_neg (by simp [q])]
  · have q' : pf_hv (cd_l M 23 i.toInt 0) j.toInt = true := by simpa using q
    obtain ⟨b1, b2⟩ := a5 q'
    refine ⟨⟨a1, a2, by omega, by omega⟩, ?_, ?_, rfl⟩
    · rw [jn_in (by omega) (by omega)]; omega
    · rw [cd_sl, if_pos q', jn_self, jn_cl (by omega) (by omega)]
theorem c_fits {o j i : Int32} : sm_Sm g 65 [.int o, .int j, .int i] M (sm_P (.int (sm_z (pf_ft o.toInt j.toInt i.toInt))) M) := by
  refine sm_entry (Nat.le_of_ble_eq_true rfl) (Nat.le_of_ble_eq_true rfl) ?_
  refine k65_0 (fun _ _ _ _ h => h) ?_
  simp (disch := omega) only [sm_z0, ← Int32.toInt_inj, Int32.le_iff_toInt_le, Int32.lt_iff_toInt_lt, pf_tct, jn_to, jt_0, jt_1, sm_zt, sm_P, and_true, or_true, true_or, true_and, Option.some.injEq, Value.int.injEq, pf_ft]
  generalize i.toInt = t
  generalize j.toInt = u
  cases pf_hv o.toInt u <;> generalize pf_tc o.toInt = w <;> simp <;> (try split) <;> (try split) <;> omega
theorem c_meant {o j i : Int32} : sm_Sm g 66 [.int o, .int j, .int i] M (sm_P (.int (Int32.ofInt (pf_mt o.toInt j.toInt i.toInt))) M) := by
  refine sm_entry (Nat.le_of_ble_eq_true rfl) (Nat.le_of_ble_eq_true rfl) ?_
  have b1 : (pf_hv o.toInt j.toInt = true ∨ j.toInt = pf_tc o.toInt ∨ (o.toInt = 0 ∧ j.toInt = 2)) → sm_Go g 66 (sm_Fn g (sm_P (.int (Int32.ofInt (pf_mt o.toInt j.toInt i.toInt))) M)) 25 [.int o, .int j, .int i, .null] [] M := by
    intro q
    refine k66_25 (fun _ _ _ _ h => h) (k66_30 (fun _ _ _ _ h => h) ⟨fun e => absurd e (by decide), fun _ => ⟨?_, rfl⟩⟩)
    rw [pf_mt, if_pos q, jn_self]
  have b2 : ¬ (pf_hv o.toInt j.toInt = true ∨ j.toInt = pf_tc o.toInt ∨ (o.toInt = 0 ∧ j.toInt = 2)) → sm_Go g 66 (sm_Fn g (sm_P (.int (Int32.ofInt (pf_mt o.toInt j.toInt i.toInt))) M)) 29 [.int o, .int j, .int i, .null] [] M := by
    intro q
    refine k66_29 (fun _ _ _ _ h => h) (k66_30 (fun _ _ _ _ h => h) ⟨fun _ => ⟨?_, rfl⟩, fun e => absurd (by decide) e⟩)
    rw [pf_mt, if_neg q]
  refine k66_0 (fun _ _ _ _ h => h) ?_
  simp only [sm_z0]
  simp (disch := omega) only [← Int32.toInt_inj, pf_tct, jn_to, jt_0]
  refine ⟨fun q => b1 (Or.inl (by simpa using q)), fun q => ⟨fun q2 => b1 (Or.inr (Or.inl q2)), fun q2 => ⟨fun q3 => b2 ?_, fun q3 => ⟨fun q4 => b2 ?_, fun q4 => b1 (Or.inr (Or.inr ⟨q3, q4⟩))⟩⟩⟩⟩
  · rintro (r | r | r)
    · rw [q] at r; cases r
    · exact q2 r
    · exact q3 r.1
  · rintro (r | r | r)
    · rw [q] at r; cases r
    · exact q2 r
    · exact q4 r.2
theorem c_degreeIfJoined {p : Nat} {i s t : Int32} (hc : Nat.beq p 12 = true) (h : vp_in i 60) : sm_Sm g 31 [.ref p, .int i, .int s, .int t] M (sm_P (.int (if (pf_hb (M.2 15 i.toNatClampNeg) s && pf_hb (M.2 15 i.toNatClampNeg) t) = true then pf_bc (M.2 15 i.toNatClampNeg) - Int32.ofInt 1 else pf_bc (M.2 15 i.toNatClampNeg))) M) := by
  have e := Nat.eq_of_beq_eq_true hc
  subst e
  refine sm_entry (Nat.le_of_ble_eq_true rfl) (Nat.le_of_ble_eq_true rfl) ?_
  refine k31_0 (fun _ _ _ _ h => h) ?_
  simp only [sm_z0]
  refine ⟨h, h, fun q => k31_41 (fun _ _ _ _ h => h) (k31_42 (fun _ _ _ _ h => h) ⟨fun _ => ⟨?_, rfl⟩, fun e => absurd (by decide) e⟩), fun q => ⟨h, fun q2 => k31_41 (fun _ _ _ _ h => h) (k31_42 (fun _ _ _ _ h => h) ⟨fun _ => ⟨?_, rfl⟩, fun e => absurd (by decide) e⟩), fun q2 => k31_42 (fun _ _ _ _ h => h) ⟨fun e => absurd e (by decide), fun _ => ⟨?_, rfl⟩⟩⟩⟩
  · rw [if_neg (by simp [q])]
  · rw [if_neg (by simp [q2])]
  · rw [if_pos (by simp at q q2; simp [q, q2])]
theorem c_uses {p : Nat} {i j : Int32} (hc : Nat.beq p 35 = true) (h : 0 ≤ i.toInt ∧ i.toInt < 112) : sm_Sm g 79 [.ref p, .int i, .int j] M (sm_P (.int (sm_z (rf_us M i.toInt j.toInt))) M) := by
  have e := Nat.eq_of_beq_eq_true hc
  subst e
  obtain ⟨a, a1, a2, rfl⟩ := jn_of i
  obtain ⟨v, v1, v2, rfl⟩ := jn_of j
  rw [jn_to a1 a2] at h
  rw [jn_to a1 a2, jn_to v1 v2]
  have hin : vp_in (Int32.ofInt a) 112 := by rw [jn_in a1 a2]; omega
  have hcl : (Int32.ofInt a).toNatClampNeg = a.toNat := jn_cl a1 a2
  have e0 : M.1 36 a.toNat = Int32.ofInt (rf_l M a 0) := rf_at M a 0
  have e1 : M.1 37 a.toNat = Int32.ofInt (rf_l M a 1) := rf_at M a 1
  have e2 : M.1 38 a.toNat = Int32.ofInt (rf_l M a 2) := rf_at M a 2
  have e3 : M.1 39 a.toNat = Int32.ofInt (rf_l M a 3) := rf_at M a 3
  have eq : ∀ k, (Int32.ofInt (rf_l M a k) = Int32.ofInt v) ↔ rf_l M a k = v := fun k => by rw [← Int32.toInt_inj, rf_lt, jn_to v1 v2]
  have eq9 : (Int32.ofInt (rf_l M a 0) = Int32.ofInt 9) ↔ rf_l M a 0 = 9 := by rw [← Int32.toInt_inj, rf_lt, jn_to (by omega) (by omega)]
  refine sm_entry (Nat.le_of_ble_eq_true rfl) (Nat.le_of_ble_eq_true rfl) ?_
  have b3 : (pf_rA (rf_l M a 0) && decide (rf_l M a 2 = v)) = false → (pf_rB (rf_l M a 0) && decide (rf_l M a 3 = v)) = false → sm_Go g 79 (sm_Fn g (sm_P (.int (sm_z (rf_us M a v))) M)) 41 [.ref 35, .int (Int32.ofInt a), .int (Int32.ofInt v), .int (Int32.ofInt (rf_l M a 0))] [] M := by
    intro q1 q2
    refine k79_41 (fun _ _ _ _ h => h) ?_
    rw [hcl, e1, eq, eq9]
    refine ⟨fun r => ⟨Or.inl rfl, ?_, rfl⟩, fun r => ⟨hin, fun r2 => ⟨Or.inl rfl, ?_, rfl⟩, fun r2 => ⟨Or.inr rfl, ?_, rfl⟩⟩⟩ <;> rw [rf_us, q1, q2] <;> simp [r, *, sm_o0, sm_o1]
  have b2 : (pf_rA (rf_l M a 0) && decide (rf_l M a 2 = v)) = false → sm_Go g 79 (sm_Fn g (sm_P (.int (sm_z (rf_us M a v))) M)) 24 [.ref 35, .int (Int32.ofInt a), .int (Int32.ofInt v), .int (Int32.ofInt (rf_l M a 0))] [] M := by
    intro q1
    refine k79_24 (fun _ _ _ _ h => h) ?_
    rw [hcl, e3, eq, rf_lt, sm_z0]
    refine ⟨fun r => b3 q1 (by rw [r]; rfl), fun r => ⟨hin, fun r2 => ⟨Or.inr rfl, ?_, rfl⟩, fun r2 => b3 q1 (by simp [r2])⟩⟩
    rw [rf_us, q1]
    simp at r
    simp [r, r2, sm_o1]
  refine k79_0 (fun _ _ _ _ h => h) ?_
  rw [hcl, e0, e2, eq, rf_lt, sm_z0]
  refine ⟨hin, fun r => b2 (by rw [r]; rfl), fun r => ⟨hin, fun r2 => ⟨Or.inr rfl, ?_, rfl⟩, fun r2 => b2 (by simp [r2])⟩⟩
  rw [rf_us]
  simp at r
  simp [r, r2, sm_o1]
theorem c_comes {p : Nat} {b n i j : Int32} (hc : Nat.beq p 35 = true) (h : (0 ≤ b.toInt ∧ b.toInt ≤ 64 ∧ 0 ≤ n.toInt ∧ n.toInt ≤ 48 ∧ 0 ≤ i.toInt ∧ i.toInt < n.toInt ∧ 0 ≤ j.toInt ∧ j.toInt < 60) ∧ 0 ≤ rf_to M n.toInt (b.toInt + i.toInt)) : sm_Sm g 85 [.ref p, .int b, .int n, .int i, .int j] M (sm_P (.int (sm_z (rf_cm M b.toInt n.toInt i.toInt j.toInt))) M) := by
  have e := Nat.eq_of_beq_eq_true hc
  subst e
  obtain ⟨b0, b1, b2, rfl⟩ := jn_of b
  obtain ⟨n0, n1, n2, rfl⟩ := jn_of n
  obtain ⟨i0, i1, i2, rfl⟩ := jn_of i
  obtain ⟨j0, j1, j2, rfl⟩ := jn_of j
  rw [jn_to b1 b2, jn_to n1 n2, jn_to i1 i2, jn_to j1 j2] at h
  rw [jn_to b1 b2, jn_to n1 n2, jn_to i1 i2, jn_to j1 j2]
  obtain ⟨hr, hto⟩ := h
  have hin : vp_in (Int32.ofInt (b0 + i0)) 112 := by rw [jn_in (by omega) (by omega)]; omega
  have hcl : (Int32.ofInt (b0 + i0)).toNatClampNeg = (b0 + i0).toNat := jn_cl (by omega) (by omega)
  have e0 : M.1 36 (b0 + i0).toNat = Int32.ofInt (rf_l M (b0 + i0) 0) := rf_at M (b0 + i0) 0
  have e2 : M.1 38 (b0 + i0).toNat = Int32.ofInt (rf_l M (b0 + i0) 2) := rf_at M (b0 + i0) 2
  have e3 : M.1 39 (b0 + i0).toNat = Int32.ofInt (rf_l M (b0 + i0) 3) := rf_at M (b0 + i0) 3
  have eqk : ∀ z : Int, -100 ≤ z ∧ z ≤ 100 → ((Int32.ofInt (rf_l M (b0 + i0) 0) = Int32.ofInt z) ↔ rf_l M (b0 + i0) 0 = z) := fun z hz => by rw [← Int32.toInt_inj, rf_lt, jn_to (by omega) (by omega)]
  refine sm_entry (Nat.le_of_ble_eq_true rfl) (Nat.le_of_ble_eq_true rfl) ?_
  have w4 : (decide (¬ rf_l M (b0 + i0) 0 = 5) && (decide (i0 + 1 < n0) && decide (¬ M.1 41 (60 * (i0 + 1) + j0).toNat = 0))) = false → sm_Go g 85 (sm_Fn g (sm_P (.int (sm_z (rf_cm M b0 n0 i0 j0))) M)) 66 [.ref 35, .int (Int32.ofInt b0), .int (Int32.ofInt n0), .int (Int32.ofInt i0), .int (Int32.ofInt j0), .int (Int32.ofInt (rf_l M (b0 + i0) 0)), .int (Int32.ofInt (rf_to M n0 (b0 + i0)))] [] M := by
    intro q
    have hrt : -2147483648 ≤ rf_to M n0 (b0 + i0) ∧ rf_to M n0 (b0 + i0) < 2147483648 := by
      unfold rf_to
      have r2 := (M.1 (36 + 2) (b0 + i0).toNat).toInt_lt
      have r3 := (M.1 (36 + 3) (b0 + i0).toNat).toInt_lt
      have r4 := (M.1 (36 + 2) (b0 + i0).toNat).le_toInt
      have r5 := (M.1 (36 + 3) (b0 + i0).toNat).le_toInt
      unfold rf_l
      split
      · omega
      · split <;> omega
    refine k85_66 (fun _ _ _ _ h => h) ?_
    rw [jn_le (by omega) (by omega) (by omega) (by omega)]
    refine ⟨fun r => ⟨Or.inl rfl, ?_, rfl⟩, fun r => ?_⟩
    · rw [rf_cm, q, show decide (rf_to M n0 (b0 + i0) < n0) = false from decide_eq_false (by omega)]; exact congrArg _ (congrArg _ sm_o0)
    · rw [jn_mul, jn_add, jn_in (by omega) (by omega), jn_cl (by omega) (by omega)]
      refine ⟨by omega, fun r2 => ⟨Or.inl rfl, ?_, rfl⟩, fun r2 => ⟨Or.inr rfl, ?_, rfl⟩⟩
      · rw [rf_cm, q, show decide (¬ M.1 41 (60 * rf_to M n0 (b0 + i0) + j0).toNat = 0) = false from decide_eq_false (fun z => z r2), Bool.and_false]; exact congrArg _ (congrArg _ sm_o0)
      · rw [rf_cm, q, show decide (¬ M.1 41 (60 * rf_to M n0 (b0 + i0) + j0).toNat = 0) = true from decide_eq_true r2, show decide (rf_to M n0 (b0 + i0) < n0) = true from decide_eq_true (by omega)]; exact congrArg _ (congrArg _ sm_o1)
  have w3 : sm_Go g 85 (sm_Fn g (sm_P (.int (sm_z (rf_cm M b0 n0 i0 j0))) M)) 34 [.ref 35, .int (Int32.ofInt b0), .int (Int32.ofInt n0), .int (Int32.ofInt i0), .int (Int32.ofInt j0), .int (Int32.ofInt (rf_l M (b0 + i0) 0)), .null] [.int (Int32.ofInt (rf_to M n0 (b0 + i0)))] M := by
    refine k85_34 (fun _ _ _ _ h => h) ?_
    rw [eqk 5 (by omega), jn_add, jn_le (by omega) (by omega) (by omega) (by omega), jn_mul, jn_add]
    refine ⟨fun r => w4 (by simp [r]), fun r => ⟨fun r2 => w4 (by simp; intro _ q; omega), fun r2 => ?_⟩⟩
    rw [jn_in (by omega) (by omega), jn_cl (by omega) (by omega)]
    refine ⟨by omega, fun r3 => ⟨Or.inr rfl, ?_, rfl⟩, fun r3 => w4 (by simp [r3])⟩
    rw [rf_cm, show decide (¬ rf_l M (b0 + i0) 0 = 5) = true from decide_eq_true r, show decide (i0 + 1 < n0) = true from decide_eq_true (by omega), show decide (¬ M.1 41 (60 * (i0 + 1) + j0).toNat = 0) = true from decide_eq_true r3]
    exact congrArg _ (congrArg _ sm_o1)
  have w2 : (rf_l M (b0 + i0) 0 = 5 ∨ rf_l M (b0 + i0) 0 = 6) → sm_Go g 85 (sm_Fn g (sm_P (.int (sm_z (rf_cm M b0 n0 i0 j0))) M)) 23 [.ref 35, .int (Int32.ofInt b0), .int (Int32.ofInt n0), .int (Int32.ofInt i0), .int (Int32.ofInt j0), .int (Int32.ofInt (rf_l M (b0 + i0) 0)), .null] [] M := by
    intro q
    refine k85_23 (fun _ _ _ _ h => h) ?_
    rw [jn_add, hcl, e0, e2, e3]
    refine ⟨hin, ?_⟩
    have hv : (if Int32.ofInt (rf_l M (b0 + i0) 0) = Int32.ofInt 5 then Int32.ofInt (rf_l M (b0 + i0) 2) else Int32.ofInt (rf_l M (b0 + i0) 3)) = Int32.ofInt (rf_to M n0 (b0 + i0)) := by
      unfold rf_to
      by_cases z : rf_l M (b0 + i0) 0 = 5
      · rw [if_pos ((eqk 5 (by omega)).mpr z), if_pos z]
      · rw [if_neg (fun y => z ((eqk 5 (by omega)).mp y)), if_neg z, if_pos (by omega)]
    rw [hv]
    exact w3
  refine k85_0 (fun _ _ _ _ h => h) ?_
  rw [jn_add, hcl, e0, eqk 5 (by omega), eqk 6 (by omega)]
  refine ⟨hin, fun r => w2 (Or.inl r), fun r => ⟨fun r2 => ?_, fun r2 => w2 (Or.inr r2)⟩⟩
  have hv : rf_to M n0 (b0 + i0) = n0 := by unfold rf_to; rw [if_neg r, if_neg r2]
  have w := w3
  rw [hv] at w
  exact w
theorem c_useHolds {p c d : Nat} {i j : Int32} (hc : (Nat.beq p 27 && (Nat.beq c 1 && Nat.beq d 3)) = true) (h : 0 ≤ i.toInt ∧ i.toInt < 48 ∧ (j.toInt = 2 ∨ j.toInt = 3) ∧ (pf_hv (cd_l M 3 i.toInt 0) j.toInt = true → (0 ≤ cd_l M 3 i.toInt j.toInt ∧ cd_l M 3 i.toInt j.toInt < 16) ∧ (0 ≤ cd_l M 3 i.toInt 4 ∧ cd_l M 3 i.toInt 4 < 48))) : sm_Sm g 9 [.ref p, .ref c, .ref d, .int i, .int j] M (sm_P (.int (sm_z (cd_uh M i.toInt j.toInt))) M) := by
  obtain ⟨h1, h2⟩ := sm_an hc
  obtain ⟨h2, h3⟩ := sm_an h2
  have e1 := Nat.eq_of_beq_eq_true h1
  have e2 := Nat.eq_of_beq_eq_true h2
  have e3 := Nat.eq_of_beq_eq_true h3
  subst e1
  subst e2
  subst e3
  obtain ⟨i0, i1, i2, rfl⟩ := jn_of i
  obtain ⟨j0, j1, j2, rfl⟩ := jn_of j
  rw [jn_to i1 i2, jn_to j1 j2] at h
  rw [jn_to i1 i2, jn_to j1 j2]
  obtain ⟨a1, a2, a3, a4⟩ := h
  refine sm_entry (Nat.le_of_ble_eq_true rfl) (Nat.le_of_ble_eq_true rfl) ?_
  refine k9_0 (fun _ _ _ _ h => h) ?_
  simp (disch := omega) only [jn_to, cd_lt]
  simp only [sm_z0]
  refine ⟨⟨a1, a2, by omega, by omega⟩, fun q => ?_, fun q => ⟨Or.inr rfl, ?_, rfl⟩⟩
  · have q' : pf_hv (cd_l M 3 i0 0) j0 = true := by simpa using q
    obtain ⟨⟨c1, c2⟩, c3, c4⟩ := a4 q'
    rw [jn_mul, jn_add, jn_in (by omega) (by omega), jn_cl (by omega) (by omega)]
    refine ⟨⟨a1, a2, by omega, by omega⟩, by omega, ⟨a1, a2, by omega, by omega⟩, ⟨c3, c4, by omega, by omega⟩, ?_⟩
    have hv : cd_uh M i0 j0 = pf_hb (M.1 28 (i0 * 16 + cd_l M 3 i0 j0).toNat).toInt64 (Int32.ofInt (cd_l M 1 (cd_l M 3 i0 4) j0)) := by rw [cd_uh, q']; rfl
    rw [hv]
    exact ⟨by rw [← sm_z0]; exact sm_zb _, rfl, rfl⟩
  · rw [cd_uh, q]; exact congrArg _ (congrArg _ sm_o1)
end
