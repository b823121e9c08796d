-- spoil
section
variable {g : sm_G} {M : sm_M}
/-- a register set in the reference's result -/
theorem c_rspoil {n : Nat} (hn2 : n ≤ 48) (h24 : M.1 35 24 = Int32.ofInt 1) (hn : M.1 35 7 = Int32.ofInt (n : Int)) {k : Nat} (hk : M.1 35 23 = Int32.ofInt (k : Int)) (hk2 : k ≤ 6) {L : Int → Int → Int} (hL : Ln n (rf_L M 16) L) (h09 : ∀ i : Nat, i < n → 0 ≤ L i 0 ∧ L i 0 ≤ 9) {a b c : Int} (ha : -2147483648 ≤ a ∧ a < 2147483648) (hb : -2147483648 ≤ b ∧ b < 2147483648) (hc : -2147483648 ≤ c ∧ c < 2147483648) :
    sm_Sm g 110 [.ref 35, .int (Int32.ofInt a), .int (Int32.ofInt b), .int (Int32.ofInt c)] M (fun o M' => o = some (.int (sm_z (decide (0 ≤ a ∧ a < n ∧ 0 ≤ c ∧ c < k) && pf_hv (L a 0) b))) ∧ (∀ p, p ≠ 35 → p ≠ 37 → p ≠ 38 → p ≠ 39 → M'.1 p = M.1 p) ∧ (∀ i, i ≠ 0 → M'.1 35 i = M.1 35 i) ∧ M'.2 = M.2 ∧ (∀ j, j < 5 → ∀ t, t < 16 → M'.1 (36 + j) t = M.1 (36 + j) t) ∧ Ln n (rf_L M' 16) (fun i j => if (decide (0 ≤ a ∧ a < n ∧ 0 ≤ c ∧ c < k) && pf_hv (L a 0) b) = true ∧ i = a ∧ j = b then c else L i j)) := by
  generalize hQ : (fun (o : Option Value) (M' : sm_M) => o = some (.int (sm_z (decide (0 ≤ a ∧ a < n ∧ 0 ≤ c ∧ c < k) && pf_hv (L a 0) b))) ∧ (∀ p, p ≠ 35 → p ≠ 37 → p ≠ 38 → p ≠ 39 → M'.1 p = M.1 p) ∧ (∀ i, i ≠ 0 → M'.1 35 i = M.1 35 i) ∧ M'.2 = M.2 ∧ (∀ j, j < 5 → ∀ t, t < 16 → M'.1 (36 + j) t = M.1 (36 + j) t) ∧ Ln n (rf_L M' 16) (fun i j => if (decide (0 ≤ a ∧ a < n ∧ 0 ≤ c ∧ c < k) && pf_hv (L a 0) b) = true ∧ i = a ∧ j = b then c else L i j)) = Q
  have LnId : Ln n (fun i j => if (false : Bool) = true ∧ i = a ∧ j = b then c else L i j) L := fun i hi => ⟨rfl, rfl, rfl, rfl, rfl⟩
  have bad : (decide (0 ≤ a ∧ a < n ∧ 0 ≤ c ∧ c < k) && pf_hv (L a 0) b) = false → Q (some (.int (Int32.ofInt 0))) (sm_sI M 35 0 (Int32.ofInt 0)) := fun e => by
    rw [← hQ, e, ← sm_o0]
    exact ⟨rfl, fun p p1 _ _ _ => sI_1 p1, fun i hi => by rw [sI_s, pk_un hi], rfl, fun j hj t ht => by rw [sI_1 (by omega)], Ln_t (rL_c hL (sI_1 (by decide)) (sI_1 (by decide)) (sI_1 (by decide)) (sI_1 (by decide)) (sI_1 (by decide))) (Ln_s LnId)⟩
  refine sm_entry (Nat.le_of_ble_eq_true rfl) (Nat.le_of_ble_eq_true rfl) (k110_0 (fun _ _ _ _ h => h) ?_)
  rw [pk_un (by decide), pk_un (by decide), pk_un (by decide), h24, hn, hk, sm_z0]
  have c1 : decide (¬ Int32.ofInt 1 = (0 : Int32)) = true := by decide
  have c2 : decide (¬ Int32.ofInt a < (0 : Int32)) = decide (0 ≤ a) := decide_eq_decide.mpr (by rw [jn_0, jn_lt (by omega) (by omega) (by omega) (by omega)]; omega)
  have c3 : decide (¬ Int32.ofInt (n : Int) ≤ Int32.ofInt a) = decide (a < n) := decide_eq_decide.mpr (by rw [jn_le (by omega) (by omega) (by omega) (by omega)]; omega)
  have c4 : Int32.ofInt c < (0 : Int32) ↔ c < 0 := by rw [jn_0, jn_lt (by omega) (by omega) (by omega) (by omega)]
  rw [c1, c2, c3, c4, jn_lt (by omega) (by omega) (by omega) (by omega), jn_eq (by omega) (by omega) (by omega) (by omega), jn_eq (by omega) (by omega) (by omega) (by omega), jn_eq (by omega) (by omega) (by omega) (by omega)]
  refine ⟨fun q => ⟨Or.inl rfl, bad ?_⟩, fun q => ⟨fun q2 => ⟨Or.inl rfl, bad ?_⟩, fun q2 => ⟨fun q3 => ?_, fun q3 => ⟨Or.inl rfl, bad ?_⟩⟩⟩⟩
  · rw [decide_eq_false, Bool.false_and]
    intro z
    rw [decide_eq_true z.1, decide_eq_true z.2.1] at q; cases q
  · rw [decide_eq_false (by omega), Bool.false_and]
  · rw [Bool.not_eq_false, Bool.true_and, Bool.and_eq_true, decide_eq_true_eq, decide_eq_true_eq] at q
    have g4 : 0 ≤ a ∧ a < n ∧ 0 ≤ c ∧ c < k := by omega
    rw [decide_eq_true g4, Bool.true_and] at hQ bad
    have ea : ((a.toNat : Nat) : Int) = a := by omega
    obtain ⟨l0, l1, l2, l3, l4⟩ := rL_at hL (i := a.toNat) (by omega)
    rw [ea] at l0 l1 l2 l3 l4
    have r0 := rh_lr hL (i := a.toNat) (by omega) (j := 0) (by omega)
    have r1 := rh_lr hL (i := a.toNat) (by omega) (j := 1) (by omega)
    have r2 := rh_lr hL (i := a.toNat) (by omega) (j := 2) (by omega)
    have r3 := rh_lr hL (i := a.toNat) (by omega) (j := 3) (by omega)
    rw [ea] at r0 r1 r2 r3
    have o09 := h09 a.toNat (by omega)
    rw [ea] at o09
    have ix : vp_in (Int32.ofInt (16 + a)) 112 := by rw [jn_in (by omega) (by omega)]; omega
    have clx : (Int32.ofInt (16 + a)).toNatClampNeg = 16 + a.toNat := by rw [jn_cl (by omega) (by omega)]; omega
    have t0 : (Int32.ofInt (L a 0)).toInt = L a 0 := jn_to r0.1 r0.2
    rw [jn_add, clx, l0, t0, sm_z0]
    generalize hM1 : sm_sI M 35 0 (Int32.ofInt 0) = M1
    have m1 : ∀ p, p ≠ 35 → M1.1 p = M.1 p := fun p hp => by rw [← hM1, sI_1 hp]
    have m35 : ∀ i, i ≠ 0 → M1.1 35 i = M.1 35 i := fun i hi => by rw [← hM1, sI_s, pk_un hi]
    have m2 : M1.2 = M.2 := by rw [← hM1]; rfl
    have L1 : Ln n (rf_L M1 16) L := rL_c hL (m1 36 (by decide)) (m1 37 (by decide)) (m1 38 (by decide)) (m1 39 (by decide)) (m1 40 (by decide))
    obtain ⟨k0, k1, k2, k3, k4⟩ := rL_at L1 (i := a.toNat) (by omega)
    rw [ea] at k0 k1 k2 k3 k4
    -- the three cells
    have fin : ∀ (y1 y2 y3 : Int) (is : Bool), is = pf_hv (L a 0) b → (y1 = if is = true ∧ b = 1 then c else L a 1) → (y2 = if is = true ∧ b = 2 then c else L a 2) → (y3 = if is = true ∧ b = 3 then c else L a 3) → Q (some (.int (sm_z is))) (sm_sI (sm_sI (sm_sI M1 37 (16 + a.toNat) (Int32.ofInt y1)) 38 (16 + a.toNat) (Int32.ofInt y2)) 39 (16 + a.toNat) (Int32.ofInt y3)) := by
      intro y1 y2 y3 is his e1 e2 e3
      rw [← hQ, ← his]
      have N : ∀ j, j < 5 → ∀ t, t ≠ 16 + a.toNat → (sm_sI (sm_sI (sm_sI M1 37 (16 + a.toNat) (Int32.ofInt y1)) 38 (16 + a.toNat) (Int32.ofInt y2)) 39 (16 + a.toNat) (Int32.ofInt y3)).1 (36 + j) t = M.1 (36 + j) t := fun j hj t ht => by
        rw [← m1 (36 + j) (by omega)]
        have hj5 : j = 0 ∨ j = 1 ∨ j = 2 ∨ j = 3 ∨ j = 4 := by omega
        rcases hj5 with e | e | e | e | e <;> subst e
        · rw [sI_1 (by decide), sI_1 (by decide), sI_1 (by decide)]
        · rw [sI_1 (by decide), sI_1 (by decide)]
          show (sm_sI M1 37 (16 + a.toNat) (Int32.ofInt y1)).1 37 t = M1.1 37 t
          rw [sI_s, pk_un ht]
        · rw [sI_1 (by decide)]
          show (sm_sI (sm_sI M1 37 (16 + a.toNat) (Int32.ofInt y1)) 38 (16 + a.toNat) (Int32.ofInt y2)).1 38 t = M1.1 38 t
          rw [sI_s, pk_un ht, sI_1 (by decide)]
        · show (sm_sI (sm_sI (sm_sI M1 37 (16 + a.toNat) (Int32.ofInt y1)) 38 (16 + a.toNat) (Int32.ofInt y2)) 39 (16 + a.toNat) (Int32.ofInt y3)).1 39 t = M1.1 39 t
          rw [sI_s, pk_un ht, sI_1 (by decide), sI_1 (by decide)]
        · rw [sI_1 (by decide), sI_1 (by decide), sI_1 (by decide)]
      refine ⟨rfl, fun p p1 p2 p3 p4 => by rw [sI_1 p4, sI_1 p3, sI_1 p2]; exact m1 p p1, fun i hi => by rw [sI_1 (by decide), sI_1 (by decide), sI_1 (by decide)]; exact m35 i hi, m2, fun j hj t ht => N j hj t (by omega), rL_of (fun i hi j hj => ?_)⟩
      have bj : pf_hv (L a 0) b = true → 1 ≤ b ∧ b ≤ 3 := fun z => by
        unfold pf_hv at z
        simp only [Bool.or_eq_true, Bool.and_eq_true, decide_eq_true_eq] at z
        omega
      by_cases e : i = a.toNat
      · have ei : ((i : Nat) : Int) = a := by omega
        rw [e, ea]
        have hj5 : j = 0 ∨ j = 1 ∨ j = 2 ∨ j = 3 ∨ j = 4 := by omega
        have y1r : -2147483648 ≤ y1 ∧ y1 < 2147483648 := by rw [e1]; split <;> omega
        have y2r : -2147483648 ≤ y2 ∧ y2 < 2147483648 := by rw [e2]; split <;> omega
        have y3r : -2147483648 ≤ y3 ∧ y3 < 2147483648 := by rw [e3]; split <;> omega
        rcases hj5 with e | e | e | e | e <;> subst e
        · rw [sI_1 (by decide), sI_1 (by decide), sI_1 (by decide)]
          show (M1.1 36 (16 + a.toNat)).toInt = _
          rw [k0, t0, if_neg (fun z => by have := bj (by rw [← his]; exact z.1); omega)]; rfl
        · rw [sI_1 (by decide), sI_1 (by decide)]
          show ((sm_sI M1 37 (16 + a.toNat) (Int32.ofInt y1)).1 37 (16 + a.toNat)).toInt = _
          rw [sI_s, pk_us, jn_to y1r.1 y1r.2, e1]
          by_cases z : is = true ∧ b = 1
          · rw [if_pos z, if_pos ⟨z.1, rfl, by omega⟩]
          · rw [if_neg z, if_neg (fun w => z ⟨w.1, by omega⟩)]; rfl
        · rw [sI_1 (by decide)]
          show ((sm_sI (sm_sI M1 37 (16 + a.toNat) (Int32.ofInt y1)) 38 (16 + a.toNat) (Int32.ofInt y2)).1 38 (16 + a.toNat)).toInt = _
          rw [sI_s, pk_us, jn_to y2r.1 y2r.2, e2]
          by_cases z : is = true ∧ b = 2
          · rw [if_pos z, if_pos ⟨z.1, rfl, by omega⟩]
          · rw [if_neg z, if_neg (fun w => z ⟨w.1, by omega⟩)]; rfl
        · show ((sm_sI (sm_sI (sm_sI M1 37 (16 + a.toNat) (Int32.ofInt y1)) 38 (16 + a.toNat) (Int32.ofInt y2)) 39 (16 + a.toNat) (Int32.ofInt y3)).1 39 (16 + a.toNat)).toInt = _
          rw [sI_s, pk_us, jn_to y3r.1 y3r.2, e3]
          by_cases z : is = true ∧ b = 3
          · rw [if_pos z, if_pos ⟨z.1, rfl, by omega⟩]
          · rw [if_neg z, if_neg (fun w => z ⟨w.1, by omega⟩)]; rfl
        · rw [sI_1 (by decide), sI_1 (by decide), sI_1 (by decide)]
          show (M1.1 40 (16 + a.toNat)).toInt = _
          have r4 := rh_lr hL (i := a.toNat) (by omega) (j := 4) (by omega)
          rw [ea] at r4
          rw [k4, jn_to r4.1 r4.2, if_neg (fun z => by have := bj (by rw [← his]; exact z.1); omega)]; rfl
      · rw [N j hj (16 + i) (by omega), if_neg (fun z => e (by have := z.2.1; omega))]
        have := Ln_o hL hi (j := (j : Int)) (by omega)
        rw [← this]
        unfold rf_L rf_l
        rw [show (16 + (i : Int)).toNat = 16 + i by omega, show ((j : Nat) : Int).toNat = j by omega]
    have f92 : ∀ is : Bool, is = pf_hv (L a 0) b → sm_Go g 110 (sm_Fn g Q) 92 [.ref 35, .int (Int32.ofInt a), .int (Int32.ofInt b), .int (Int32.ofInt c), .int (Int32.ofInt (16 + a)), .null] [.int (sm_z is)] M1 := by
      intro is his
      have bj : is = true → 1 ≤ b ∧ b ≤ 3 := fun z => by
        rw [his] at z
        unfold pf_hv at z
        simp only [Bool.or_eq_true, Bool.and_eq_true, decide_eq_true_eq] at z
        omega
      -- the last cell
      have f170 : ∀ y1 y2 : Int, (y1 = if is = true ∧ b = 1 then c else L a 1) → (y2 = if is = true ∧ b = 2 then c else L a 2) → ¬ (is = true ∧ b = 3) → sm_Go g 110 (sm_Fn g Q) 170 [.ref 35, .int (Int32.ofInt a), .int (Int32.ofInt b), .int (Int32.ofInt c), .int (Int32.ofInt (16 + a)), .int (sm_z is)] [.int (Int32.ofInt (16 + a)), .ref 39] (sm_sI (sm_sI M1 37 (16 + a.toNat) (Int32.ofInt y1)) 38 (16 + a.toNat) (Int32.ofInt y2)) := fun y1 y2 e1 e2 z => by
        refine k110_170 (fun _ _ _ _ h => h) ⟨ix, ix, sm_zb _, ?_⟩
        rw [clx, sI_1 (by decide), sI_1 (by decide), k3]
        exact fin y1 y2 (L a 3) is his e1 e2 (by rw [if_neg z])
      have f149 : ∀ y1 y2 : Int, (y1 = if is = true ∧ b = 1 then c else L a 1) → (y2 = if is = true ∧ b = 2 then c else L a 2) → sm_Go g 110 (sm_Fn g Q) 149 [.ref 35, .int (Int32.ofInt a), .int (Int32.ofInt b), .int (Int32.ofInt c), .int (Int32.ofInt (16 + a)), .int (sm_z is)] [.int (Int32.ofInt y2), .int (Int32.ofInt (16 + a)), .ref 38] (sm_sI M1 37 (16 + a.toNat) (Int32.ofInt y1)) := fun y1 y2 e1 e2 => by
        refine k110_149 (fun _ _ _ _ h => h) ⟨ix, ?_⟩
        rw [clx, sm_z0, jn_eq (by omega) (by omega) (by omega) (by omega)]
        refine ⟨fun z => f170 y1 y2 e1 e2 (fun w => by rw [z] at w; cases w.1), fun z => ⟨fun z2 => f170 y1 y2 e1 e2 (fun w => z2 w.2), fun z2 => ⟨ix, by rw [← sm_z0]; exact sm_zb _, ?_⟩⟩⟩
        rw [Bool.not_eq_false] at z
        exact fin y1 y2 c is his e1 e2 (by rw [if_pos ⟨z, z2⟩])
      have f142 : ∀ y1 : Int, (y1 = if is = true ∧ b = 1 then c else L a 1) → ¬ (is = true ∧ b = 2) → sm_Go g 110 (sm_Fn g Q) 142 [.ref 35, .int (Int32.ofInt a), .int (Int32.ofInt b), .int (Int32.ofInt c), .int (Int32.ofInt (16 + a)), .int (sm_z is)] [.int (Int32.ofInt (16 + a)), .ref 38] (sm_sI M1 37 (16 + a.toNat) (Int32.ofInt y1)) := fun y1 e1 z => by
        refine k110_142 (fun _ _ _ _ h => h) ⟨ix, ?_⟩
        rw [clx, sI_1 (by decide), k2]
        exact f149 y1 (L a 2) e1 (by rw [if_neg z])
      have f121 : ∀ y1 : Int, (y1 = if is = true ∧ b = 1 then c else L a 1) → sm_Go g 110 (sm_Fn g Q) 121 [.ref 35, .int (Int32.ofInt a), .int (Int32.ofInt b), .int (Int32.ofInt c), .int (Int32.ofInt (16 + a)), .int (sm_z is)] [.int (Int32.ofInt y1), .int (Int32.ofInt (16 + a)), .ref 37] M1 := fun y1 e1 => by
        refine k110_121 (fun _ _ _ _ h => h) ⟨ix, ?_⟩
        rw [clx, sm_z0, jn_eq (by omega) (by omega) (by omega) (by omega)]
        refine ⟨fun z => f142 y1 e1 (fun w => by rw [z] at w; cases w.1), fun z => ⟨fun z2 => f142 y1 e1 (fun w => z2 w.2), fun z2 => ?_⟩⟩
        rw [Bool.not_eq_false] at z
        exact f149 y1 c e1 (by rw [if_pos ⟨z, z2⟩])
      have f114 : ¬ (is = true ∧ b = 1) → sm_Go g 110 (sm_Fn g Q) 114 [.ref 35, .int (Int32.ofInt a), .int (Int32.ofInt b), .int (Int32.ofInt c), .int (Int32.ofInt (16 + a)), .int (sm_z is)] [.int (Int32.ofInt (16 + a)), .ref 37] M1 := fun z => by
        refine k110_114 (fun _ _ _ _ h => h) ⟨ix, ?_⟩
        rw [clx, k1]
        exact f121 (L a 1) (by rw [if_neg z])
      refine k110_92 (fun _ _ _ _ h => h) ?_
      rw [sm_z0, jn_eq (by omega) (by omega) (by omega) (by omega)]
      refine ⟨fun z => f114 (fun w => by rw [z] at w; cases w.1), fun z => ⟨fun z2 => f114 (fun w => z2 w.2), fun z2 => ?_⟩⟩
      rw [Bool.not_eq_false] at z
      exact f121 c (by rw [if_pos ⟨z, z2⟩])
    have f91 : pf_hv (L a 0) b = false → sm_Go g 110 (sm_Fn g Q) 91 [.ref 35, .int (Int32.ofInt a), .int (Int32.ofInt b), .int (Int32.ofInt c), .int (Int32.ofInt (16 + a)), .null] [] M1 := fun e => by
      refine k110_91 (fun _ _ _ _ h => h) ?_
      rw [sm_o0]; exact f92 false e.symm
    refine ⟨fun z1 => ⟨fun z2 => ⟨fun z3 => f91 ?_, fun z3 => ⟨ix, fun z => f91 ?_, fun z => ?_⟩⟩, fun z2 => ⟨ix, f92 _ ?_⟩⟩, fun z1 => ⟨ix, f92 _ ?_⟩⟩
    · unfold pf_hv; rw [decide_eq_false z1, decide_eq_false z2, decide_eq_false z3]; rfl
    · rw [z3, pf_hv3]; exact z
    · rw [Bool.not_eq_false] at z
      rw [sm_o1]; exact f92 true (by rw [z3, pf_hv3, z])
    · rw [z2, pf_hv2]
    · rw [z1, pf_hv1 o09]
  · rw [decide_eq_false (by omega), Bool.false_and]
theorem p_spoil (h : INV M) {x1 x2 x3 : Int32} : pair g 59 110 [.int x1, .int x2, .int x3] M := by
  have h' := h
  obtain ⟨ns, Ls, ⟨s1, s2, s3, s4, s5, s6⟩, r, m⟩ := h
  have t1 : x1 = Int32.ofInt x1.toInt := (jn_self x1).symm
  have t2 : x2 = Int32.ofInt x2.toInt := (jn_self x2).symm
  have t3 : x3 = Int32.ofInt x3.toInt := (jn_self x3).symm
  have r1 : -2147483648 ≤ x1.toInt ∧ x1.toInt < 2147483648 := ⟨x1.le_toInt, x1.toInt_lt⟩
  have r2 : -2147483648 ≤ x2.toInt ∧ x2.toInt < 2147483648 := ⟨x2.le_toInt, x2.toInt_lt⟩
  have r3 : -2147483648 ≤ x3.toInt ∧ x3.toInt < 2147483648 := ⟨x3.le_toInt, x3.toInt_lt⟩
  generalize x1.toInt = a at *
  generalize x2.toInt = b at *
  generalize x3.toInt = c at *
  subst t1 t2 t3
  have ta : (Int32.ofInt a).toInt = a := jn_to (by omega) (by omega)
  have tb : (Int32.ofInt b).toInt = b := jn_to (by omega) (by omega)
  have t0 : (Int32.ofInt 0).toInt = 0 := rfl
  refine sm_entry (Nat.le_of_ble_eq_true rfl) (Nat.le_of_ble_eq_true rfl) (k59_0 (fun _ _ _ _ h => h) ?_)
  rcases r with ⟨q1, q2⟩ | ⟨q1, q2, n, k, L, a1, a2, a3, a4, a5, a6, a7, a8, a9, a10⟩
  · rw [q1, sm_z0]
    refine ⟨fun _ => ⟨Or.inl rfl, _, rfl, ?_⟩, fun q => absurd rfl q⟩
    refine sm_entry (Nat.le_of_ble_eq_true rfl) (Nat.le_of_ble_eq_true rfl) (k110_0 (fun _ _ _ _ h => h) ?_)
    rw [pk_un (by decide), q2, sm_z0]
    exact ⟨fun _ => ⟨Or.inl rfl, rfl, INV_0 h' _⟩, fun q => absurd rfl q⟩
  · have h09 : ∀ i : Nat, i < n → 0 ≤ L i 0 ∧ L i 0 ≤ 9 := fun i hi => (a6 i hi).1
    have c1 : decide (¬ Int32.ofInt 1 = (0 : Int32)) = true := by decide
    have c2 : decide (¬ Int32.ofInt a < (0 : Int32)) = decide (0 ≤ a) := decide_eq_decide.mpr (by rw [jn_0, jn_lt (by omega) (by omega) (by omega) (by omega)]; omega)
    have c3 : decide (¬ Int32.ofInt (n : Int) ≤ Int32.ofInt a) = decide (a < n) := decide_eq_decide.mpr (by rw [jn_le (by omega) (by omega) (by omega) (by omega)]; omega)
    have bad : (decide (0 ≤ a ∧ a < n ∧ 0 ≤ c ∧ c < k) && pf_hv (L a 0) b) = false → ∃ r, some (Value.int (Int32.ofInt 0)) = some (Value.int r) ∧ sm_Sm g 110 [.ref 35, .int (Int32.ofInt a), .int (Int32.ofInt b), .int (Int32.ofInt c)] M (fun o2 M2 => o2 = some (.int r) ∧ INV M2) := fun e => by
      refine ⟨_, rfl, sm_Sm_mono (c_rspoil a1.1 q2 a3 a8 a1.2.2 a5 h09 r1 r2 r3) (fun o M2 h2 => ?_)⟩
      rw [e] at h2
      obtain ⟨e1, e2, e3, e4, e5, e6⟩ := h2
      refine ⟨by rw [e1, ← sm_o0], ns, Ls, ⟨s1, by rw [e2 1 (by decide) (by decide) (by decide) (by decide)]; exact s2, by rw [e3 6 (by decide)]; exact s3, by rw [cd_lc (e2 2 (by decide) (by decide) (by decide) (by decide))]; exact s4, fun i hi => ?_, s6⟩, Or.inr ⟨by rw [e2 0 (by decide) (by decide) (by decide) (by decide)]; exact q1, by rw [e3 24 (by decide)]; exact q2, n, k, L, a1, by rw [e2 3 (by decide) (by decide) (by decide) (by decide)]; exact a2, by rw [e3 7 (by decide)]; exact a3, by rw [cd_lc (e2 4 (by decide) (by decide) (by decide) (by decide))]; exact a4, Ln_t e6 (fun i hi => ⟨rfl, rfl, rfl, rfl, rfl⟩), a6, by rw [e2 8 (by decide) (by decide) (by decide) (by decide)]; exact a7, by rw [e3 23 (by decide)]; exact a8, by rw [e2 20 (by decide) (by decide) (by decide) (by decide), e3 22 (by decide)]; exact a9, by rw [e2 12 (by decide) (by decide) (by decide) (by decide), e3 20 (by decide)]; exact a10⟩, ?_⟩
      · obtain ⟨b0, b1, b2, b3, b4⟩ := s5 i hi
        have z : (0 + (i : Int)).toNat = i := by omega
        have w := fun j hj => e5 j hj i (by omega)
        refine ⟨?_, ?_, ?_, ?_, ?_⟩
        · rw [← b0]; show (M2.1 36 (0 + (i : Int)).toNat).toInt = (M.1 36 (0 + (i : Int)).toNat).toInt; rw [z]; rw [show M2.1 36 i = M.1 36 i from w 0 (by omega)]
        · rw [← b1]; show (M2.1 37 (0 + (i : Int)).toNat).toInt = (M.1 37 (0 + (i : Int)).toNat).toInt; rw [z]; rw [show M2.1 37 i = M.1 37 i from w 1 (by omega)]
        · rw [← b2]; show (M2.1 38 (0 + (i : Int)).toNat).toInt = (M.1 38 (0 + (i : Int)).toNat).toInt; rw [z]; rw [show M2.1 38 i = M.1 38 i from w 2 (by omega)]
        · rw [← b3]; show (M2.1 39 (0 + (i : Int)).toNat).toInt = (M.1 39 (0 + (i : Int)).toNat).toInt; rw [z]; rw [show M2.1 39 i = M.1 39 i from w 3 (by omega)]
        · rw [← b4]; show (M2.1 40 (0 + (i : Int)).toNat).toInt = (M.1 40 (0 + (i : Int)).toNat).toInt; rw [z]; rw [show M2.1 40 i = M.1 40 i from w 4 (by omega)]
      · obtain ⟨m1, m2, m3, m4, m5⟩ := m
        have e31 := e2 31 (by decide) (by decide) (by decide) (by decide)
        exact ⟨by rw [e31, e3 33 (by decide)]; exact m1, by rw [e31]; exact m2, by rw [e31, e3 34 (by decide)]; exact m3, by rw [e31]; exact m4, fun t ht => by rw [e2 34 (by decide) (by decide) (by decide) (by decide), e2 58 (by decide) (by decide) (by decide) (by decide)]; exact m5 t ht⟩
    rw [q1, sm_z0, a2, c1, c2, c3, a7, ta, tb, t0, cd_lt]
    refine ⟨fun q => ⟨Or.inl rfl, bad ?_⟩, fun q => ⟨fun z => ⟨Or.inl rfl, bad ?_⟩, fun z => ⟨fun z2 => ?_, fun z2 => ⟨Or.inl rfl, bad ?_⟩⟩⟩⟩
    · rw [decide_eq_false, Bool.false_and]
      intro w
      rw [decide_eq_true w.1, decide_eq_true w.2.1] at q; cases q
    · rw [jn_0, jn_lt (by omega) (by omega) (by omega) (by omega)] at z
      rw [decide_eq_false (by omega), Bool.false_and]
    · rw [Bool.not_eq_false, Bool.true_and, Bool.and_eq_true, decide_eq_true_eq, decide_eq_true_eq] at q
      rw [jn_0, jn_lt (by omega) (by omega) (by omega) (by omega)] at z
      rw [jn_lt (by omega) (by omega) (by omega) (by omega)] at z2
      have g4 : 0 ≤ a ∧ a < n ∧ 0 ≤ c ∧ c < k := by omega
      have ea : ((a.toNat : Nat) : Int) = a := by omega
      have l0 : cd_l M 3 a 0 = L a 0 := by have := (a4 a.toNat (by omega)).1; rwa [ea] at this
      rw [l0, sm_z0]
      refine ⟨⟨by omega, by omega, by omega, by omega⟩, fun w => ?_, fun w => ⟨Or.inl rfl, bad (by rw [w, Bool.and_false])⟩⟩
      rw [Bool.not_eq_false] at w
      have bj : 1 ≤ b ∧ b ≤ 3 := by
        have z := w
        unfold pf_hv at z
        simp only [Bool.or_eq_true, Bool.and_eq_true, decide_eq_true_eq] at z
        omega
      refine sm_Sm_mono (c_change (c := 3) (by omega) (i := a) (j := b) (by omega) (by omega)) (fun o M1 h1 => ?_)
      obtain ⟨rfl, h1⟩ := h1
      have m1 : ∀ p, p ≠ 4 → M1.1 p = M.1 p := fun p hp => by rw [h1, sI_1 hp]
      refine ⟨Or.inr rfl, _, rfl, ?_⟩
      have R := c_rspoil (g := g) (M := M1) a1.1 (by rw [m1 35 (by decide)]; exact q2) (by rw [m1 35 (by decide)]; exact a3) (by rw [m1 35 (by decide)]; exact a8) a1.2.2 (rL_c a5 (m1 36 (by decide)) (m1 37 (by decide)) (m1 38 (by decide)) (m1 39 (by decide)) (m1 40 (by decide))) h09 r1 r2 r3
      refine sm_Sm_mono R (fun o M2 h2 => ?_)
      rw [decide_eq_true g4, w, Bool.true_and] at h2
      obtain ⟨e1, e2, e3, e4, e5, e6⟩ := h2
      have Lc : Ln n (cd_l M2 3) (fun i j => if (true : Bool) = true ∧ i = a ∧ j = b then c else L i j) := Ln_j (fun i hi j hj => by
        rw [cd_lc (e2 4 (by decide) (by decide) (by decide) (by decide)), h1, cd_set (by omega) (by omega) (by omega) hj]
        by_cases e : (i : Int) = a ∧ j = b
        · rw [if_pos e, if_pos ⟨rfl, e.1, e.2⟩, jn_to (by omega) (by omega)]
        · rw [if_neg e, if_neg (fun w => e ⟨w.2.1, w.2.2⟩)]; exact Ln_o a4 hi hj)
      refine ⟨by rw [e1, ← sm_o1], ns, Ls, ⟨s1, by rw [e2 1 (by decide) (by decide) (by decide) (by decide), m1 1 (by decide)]; exact s2, by rw [e3 6 (by decide), m1 35 (by decide)]; exact s3, by rw [cd_lc (e2 2 (by decide) (by decide) (by decide) (by decide)), cd_lc (m1 2 (by decide))]; exact s4, fun i hi => ?_, s6⟩, Or.inr ⟨by rw [e2 0 (by decide) (by decide) (by decide) (by decide), m1 0 (by decide)]; exact q1, by rw [e3 24 (by decide), m1 35 (by decide)]; exact q2, n, k, _, a1, by rw [e2 3 (by decide) (by decide) (by decide) (by decide), m1 3 (by decide)]; exact a2, by rw [e3 7 (by decide), m1 35 (by decide)]; exact a3, Lc, e6, fun i hi => ?_, by rw [e2 8 (by decide) (by decide) (by decide) (by decide), m1 8 (by decide)]; exact a7, by rw [e3 23 (by decide), m1 35 (by decide)]; exact a8, by rw [e2 20 (by decide) (by decide) (by decide) (by decide), e3 22 (by decide), m1 20 (by decide), m1 35 (by decide)]; exact a9, by rw [e2 12 (by decide) (by decide) (by decide) (by decide), e3 20 (by decide), m1 12 (by decide), m1 35 (by decide)]; exact a10⟩, ?_⟩
      · obtain ⟨b0, b1, b2, b3, b4⟩ := s5 i hi
        have z : (0 + (i : Int)).toNat = i := by omega
        have w := fun j hj => e5 j hj i (by omega)
        refine ⟨?_, ?_, ?_, ?_, ?_⟩
        · rw [← b0]; show (M2.1 36 (0 + (i : Int)).toNat).toInt = (M.1 36 (0 + (i : Int)).toNat).toInt; rw [z, show M2.1 36 i = M1.1 36 i from w 0 (by omega), m1 36 (by decide)]
        · rw [← b1]; show (M2.1 37 (0 + (i : Int)).toNat).toInt = (M.1 37 (0 + (i : Int)).toNat).toInt; rw [z, show M2.1 37 i = M1.1 37 i from w 1 (by omega), m1 37 (by decide)]
        · rw [← b2]; show (M2.1 38 (0 + (i : Int)).toNat).toInt = (M.1 38 (0 + (i : Int)).toNat).toInt; rw [z, show M2.1 38 i = M1.1 38 i from w 2 (by omega), m1 38 (by decide)]
        · rw [← b3]; show (M2.1 39 (0 + (i : Int)).toNat).toInt = (M.1 39 (0 + (i : Int)).toNat).toInt; rw [z, show M2.1 39 i = M1.1 39 i from w 3 (by omega), m1 39 (by decide)]
        · rw [← b4]; show (M2.1 40 (0 + (i : Int)).toNat).toInt = (M.1 40 (0 + (i : Int)).toNat).toInt; rw [z, show M2.1 40 i = M1.1 40 i from w 4 (by omega), m1 40 (by decide)]
      · -- a line with another register
        obtain ⟨k0, k1, k2, k3, k4, k5⟩ := a6 i hi
        by_cases ei : (i : Int) = a
        · rw [ei] at k0 k1 k2 k3 k4 k5 ⊢
          generalize hl : (fun j : Int => if (true : Bool) = true ∧ a = a ∧ j = b then c else L a j) = l
          have fb : ∀ j : Int, l j = if j = b then c else L a j := fun j => by
            rw [← hl]
            by_cases e : j = b
            · rw [if_pos e]; exact if_pos ⟨rfl, rfl, e⟩
            · rw [if_neg e]; exact if_neg (fun z => e z.2.2)
          have f0 : l 0 = L a 0 := by rw [fb, if_neg (by omega)]
          have f4 : l 4 = L a 4 := by rw [fb, if_neg (by omega)]
          refine ⟨by rw [f0]; exact k0, fun v hv => ?_, fun q => ?_, fun q => ?_, fun q => ?_, fun q => ?_⟩
          · unfold stn at hv
            rw [f0] at hv
            have key : ∀ j : Int, 1 ≤ j ∧ j < 4 → pf_hv (L a 0) j = true → l j = v → 0 ≤ v ∧ v < (k : Int) := fun j hj p1 p2 => by
              rw [fb] at p2
              by_cases e : j = b
              · rw [if_pos e] at p2; omega
              · rw [if_neg e] at p2
                rw [← p2]; exact k1 _ (stn_hv hj p1)
            rcases hv with hv | hv | hv
            · exact key 1 (by omega) hv.1 hv.2
            · exact key 2 (by omega) hv.1 hv.2
            · exact key 3 (by omega) hv.1 hv.2
          · rw [f0] at q
            rw [q] at w
            have nb : b ≠ 2 := fun z => by rw [z] at w; exact absurd w (by decide)
            rw [fb, if_neg (fun z => nb z.symm)]; exact k2 q
          · rw [f0] at q
            rw [q] at w
            have nb : b ≠ 3 := fun z => by rw [z] at w; exact absurd w (by decide)
            rw [fb, if_neg (fun z => nb z.symm)]; exact k3 q
          · rw [f0] at q
            have nb : b ≠ 2 := fun z => by
              have o : L a 0 = 8 ∨ L a 0 = 9 := by omega
              rw [z] at w
              rcases o with o | o <;> rw [o] at w <;> exact absurd w (by decide)
            rw [f4, fb, if_neg (fun z => nb z.symm)]; exact k4 q
          · rw [f0] at q
            rw [f0, f4]; exact k5 q
        · have fj : ∀ j : Int, (if (true : Bool) = true ∧ (i : Int) = a ∧ j = b then c else L i j) = L i j := fun j => if_neg (fun z => ei z.2.1)
          exact rok_c ⟨fj 0, fj 1, fj 2, fj 3, fj 4⟩ (a6 i hi)
      · obtain ⟨n1, n2, n3, n4, n5⟩ := m
        have e31 : M2.1 31 = M.1 31 := by rw [e2 31 (by decide) (by decide) (by decide) (by decide), m1 31 (by decide)]
        exact ⟨by rw [e31, e3 33 (by decide), m1 35 (by decide)]; exact n1, by rw [e31]; exact n2, by rw [e31, e3 34 (by decide), m1 35 (by decide)]; exact n3, by rw [e31]; exact n4, fun t ht => by rw [e2 34 (by decide) (by decide) (by decide) (by decide), e2 58 (by decide) (by decide) (by decide) (by decide), m1 34 (by decide), m1 58 (by decide)]; exact n5 t ht⟩
    · rw [jn_lt (by omega) (by omega) (by omega) (by omega)] at z2
      rw [decide_eq_false (by omega), Bool.false_and]
end
