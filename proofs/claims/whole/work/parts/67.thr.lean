-- the throwing methods in a known run
set_option maxRecDepth 100000 in
theorem x51_0 {g : sm_G} {K : sx_K} {Fi : sm_F} {Q : Option Value → sm_M → Prop} {x1 x2 x3 x4 : Int32} {M : sm_M} (hF : ∀ below args s t, MQ below (sm_Qc g Q) args s 0 0 (sm_A g) t → Fi below args s t) (h : ((x1 < 0 → sx_Go g 51 K (0, 0) Fi 38 [.ref 0, .int x1, .int x2, .int x3, .int x4] [] M) ∧ (¬ x1 < 0 → (((Int32.ofInt 7) < x1 → sx_Go g 51 K (0, 0) Fi 38 [.ref 0, .int x1, .int x2, .int x3, .int x4] [] M) ∧ (¬ (Int32.ofInt 7) < x1 → (((sm_z (pf_ft x1.toInt (Int32.ofInt 1).toInt x2.toInt)) = 0 → sx_Go g 51 K (0, 0) Fi 38 [.ref 0, .int x1, .int x2, .int x3, .int x4] [] M) ∧ (¬ (sm_z (pf_ft x1.toInt (Int32.ofInt 1).toInt x2.toInt)) = 0 → (((sm_z (pf_ft x1.toInt (Int32.ofInt 2).toInt x3.toInt)) = 0 → sx_Go g 51 K (0, 0) Fi 38 [.ref 0, .int x1, .int x2, .int x3, .int x4] [] M) ∧ (¬ (sm_z (pf_ft x1.toInt (Int32.ofInt 2).toInt x3.toInt)) = 0 → ((¬ (sm_z (pf_ft x1.toInt (Int32.ofInt 3).toInt x4.toInt)) = 0 → (((M.1 1 1) < (Int32.ofInt 16) → (sm_S1 g 12 [.ref 1, .int x1, .int (Int32.ofInt (pf_mt x1.toInt (Int32.ofInt 1).toInt x2.toInt)), .int (Int32.ofInt (pf_mt x1.toInt (Int32.ofInt 2).toInt x3.toInt)), .int (Int32.ofInt (pf_mt x1.toInt (Int32.ofInt 3).toInt x4.toInt)), .int (M.1 1 1)] M (fun o1 M1 => sm_ov ((((Int32.ofInt 0) = 0 ∨ (Int32.ofInt 0) = 1) ∧ Q (some (.int (M1.1 1 1))) (sm_sI M1 0 6 (Int32.ofInt 0)))) o1))) ∧ (¬ (M.1 1 1) < (Int32.ofInt 16) → sx_Go g 51 K (0, 0) Fi 58 [.ref 0, .int x1, .int x2, .int x3, .int x4] [] M))) ∧ ((sm_z (pf_ft x1.toInt (Int32.ofInt 3).toInt x4.toInt)) = 0 → sx_Go g 51 K (0, 0) Fi 38 [.ref 0, .int x1, .int x2, .int x3, .int x4] [] M))))))))))) : sx_Go g 51 K (0, 0) Fi 0 [.ref 0, .int x1, .int x2, .int x3, .int x4] [] M := by
  exact sx_ok (S := sm_S1 g) (G := sx_Go g 51 K (0, 0) Fi) sm_S1_ok hF (fun _ _ _ _ h => h) 51 0 _ _ _ h
set_option maxRecDepth 100000 in
theorem x54_0 {g : sm_G} {K : sx_K} {Fi : sm_F} {Q : Option Value → sm_M → Prop} {x1 : Int32} {M : sm_M} (hF : ∀ below args s t, MQ below (sm_Qc g Q) args s 0 0 (sm_A g) t → Fi below args s t) (h : ((x1 < (Int32.ofInt 3) → sx_Go g 54 K (0, 0) Fi 11 [.ref 0, .int x1, .null] [] M) ∧ (¬ x1 < (Int32.ofInt 3) → ((x1 ≤ (Int32.ofInt 6) → (sm_S1 g 0 [.ref 8, .ref 1, .int x1] M (fun o1 M1 => sm_oi (fun r1 => ((r1 = (Int32.ofInt (-1)) → sx_Go g 54 K (0, 0) Fi 43 [.ref 0, .int x1, .int r1] [.int (Int32.ofInt 0), .ref 0] M1) ∧ (¬ r1 = (Int32.ofInt (-1)) → sx_Go g 54 K (0, 0) Fi 43 [.ref 0, .int x1, .int r1] [.int (Int32.ofInt 1), .ref 0] M1))) o1))) ∧ (¬ x1 ≤ (Int32.ofInt 6) → sx_Go g 54 K (0, 0) Fi 11 [.ref 0, .int x1, .null] [] M))))) : sx_Go g 54 K (0, 0) Fi 0 [.ref 0, .int x1, .null] [] M := by
  exact sx_ok (S := sm_S1 g) (G := sx_Go g 54 K (0, 0) Fi) sm_S1_ok hF (fun _ _ _ _ h => h) 19 0 _ _ _ h
set_option maxRecDepth 100000 in
theorem x54_43 {g : sm_G} {K : sx_K} {Fi : sm_F} {Q : Option Value → sm_M → Prop} {x1 x2 s0 : Int32} {M : sm_M} (hF : ∀ below args s t, MQ below (sm_Qc g Q) args s 0 0 (sm_A g) t → Fi below args s t) (h : ((s0 = 0 ∨ s0 = 1) ∧ ((((upd (M.1 0) 6 s0) 6) = 0 → Q (some (.int x2)) (sm_sI M 0 6 s0)) ∧ (¬ ((upd (M.1 0) 6 s0) 6) = 0 → (sm_S1 g 1 [.ref 8, .ref 3] (sm_sI M 0 6 s0) (fun o1 M1 => sm_ov (Q (some (.int x2)) M1) o1)))))) : sx_Go g 54 K (0, 0) Fi 43 [.ref 0, .int x1, .int x2] [.int s0, .ref 0] M := by
  exact sx_ok (S := sm_S1 g) (G := sx_Go g 54 K (0, 0) Fi) sm_S1_ok hF (fun _ _ _ _ h => h) 11 43 _ _ _ h
set_option maxRecDepth 100000 in
theorem x56_0 {g : sm_G} {K : sx_K} {Fi : sm_F} {Q : Option Value → sm_M → Prop} {x1 x2 : Int32} {M : sm_M} (hF : ∀ below args s t, MQ below (sm_Qc g Q) args s 0 0 (sm_A g) t → Fi below args s t) (h : (((sm_z (decide (¬ (M.1 0) 6 = 0) && (decide (¬ x1 < 0) && decide (¬ (M.1 3) 1 ≤ x1)))) = 0 → sx_Go g 56 K (0, 0) Fi 17 [.ref 0, .int x1, .int x2] [] M) ∧ (¬ (sm_z (decide (¬ (M.1 0) 6 = 0) && (decide (¬ x1 < 0) && decide (¬ (M.1 3) 1 ≤ x1)))) = 0 → ((x2 < 0 → sx_Go g 56 K (0, 0) Fi 17 [.ref 0, .int x1, .int x2] [] M) ∧ (¬ x2 < 0 → ((x2 < (Int32.ofInt 5) → ((0 ≤ x1.toInt ∧ x1.toInt < 48 ∧ 0 ≤ x2.toInt ∧ x2.toInt < 5) ∧ Q (some (.int (Int32.ofInt (cd_l M 3 x1.toInt x2.toInt)))) M)) ∧ (¬ x2 < (Int32.ofInt 5) → sx_Go g 56 K (0, 0) Fi 17 [.ref 0, .int x1, .int x2] [] M))))))) : sx_Go g 56 K (0, 0) Fi 0 [.ref 0, .int x1, .int x2] [] M := by
  exact sx_ok (S := sm_S1 g) (G := sx_Go g 56 K (0, 0) Fi) sm_S1_ok hF (fun _ _ _ _ h => h) 15 0 _ _ _ h
set_option maxRecDepth 100000 in
theorem x61_0 {g : sm_G} {K : sx_K} {Fi : sm_F} {Q : Option Value → sm_M → Prop} {x1 : Int32} {M : sm_M} (hF : ∀ below args s t, MQ below (sm_Qc g Q) args s 0 0 (sm_A g) t → Fi below args s t) (h : ((x1 = 0 → sx_Go g 61 K (0, 0) Fi 17 [.ref 0, .int x1] [] M) ∧ (¬ x1 = 0 → ((x1 = (Int32.ofInt 1) → sx_Go g 61 K (0, 0) Fi 17 [.ref 0, .int x1] [] M) ∧ (¬ x1 = (Int32.ofInt 1) → sx_Go g 61 K (0, 0) Fi 9 [.ref 0, .int x1] [] M))))) : sx_Go g 61 K (0, 0) Fi 0 [.ref 0, .int x1] [] M := by
  exact sx_ok (S := sm_S1 g) (G := sx_Go g 61 K (0, 0) Fi) sm_S1_ok hF (fun _ _ _ _ h => h) 6 0 _ _ _ h
set_option maxRecDepth 100000 in
theorem x61_17 {g : sm_G} {K : sx_K} {Fi : sm_F} {Q : Option Value → sm_M → Prop} {x1 : Int32} {M : sm_M} (hF : ∀ below args s t, MQ below (sm_Qc g Q) args s 0 0 (sm_A g) t → Fi below args s t) (h : ((¬ x1 = (Int32.ofInt 1) → sx_Go g 61 K (0, 0) Fi 37 [.ref 0, .int x1] [] M) ∧ (x1 = (Int32.ofInt 1) → ((¬ (M.1 0 6) = 0 → sx_Go g 61 K (0, 0) Fi 37 [.ref 0, .int x1] [] M) ∧ ((M.1 0 6) = 0 → sx_Go g 61 K (0, 0) Fi 29 [.ref 0, .int x1] [] M))))) : sx_Go g 61 K (0, 0) Fi 17 [.ref 0, .int x1] [] M := by
  exact sx_ok (S := sm_S1 g) (G := sx_Go g 61 K (0, 0) Fi) sm_S1_ok hF (fun _ _ _ _ h => h) 7 17 _ _ _ h
set_option maxRecDepth 100000 in
theorem x61_37 {g : sm_G} {K : sx_K} {Fi : sm_F} {Q : Option Value → sm_M → Prop} {x1 : Int32} {M : sm_M} (hF : ∀ below args s t, MQ below (sm_Qc g Q) args s 0 0 (sm_A g) t → Fi below args s t) (h : ((¬ x1 = 0 → sx_Go g 61 K (0, 0) Fi 56 [.ref 0, .int x1] [.ref 3, .ref 31] M) ∧ (x1 = 0 → sx_Go g 61 K (0, 0) Fi 56 [.ref 0, .int x1] [.ref 1, .ref 31] M))) : sx_Go g 61 K (0, 0) Fi 37 [.ref 0, .int x1] [] M := by
  exact sx_ok (S := sm_S1 g) (G := sx_Go g 61 K (0, 0) Fi) sm_S1_ok hF (fun _ _ _ _ h => h) 7 37 _ _ _ h
set_option maxRecDepth 100000 in
theorem x61_56 {g : sm_G} {K : sx_K} {Fi : sm_F} {Q : Option Value → sm_M → Prop} {x1 : Int32} {M : sm_M} (hF : ∀ below args s t, MQ below (sm_Qc g Q) args s 0 0 (sm_A g) t → Fi below args s t) (h : (sm_S1 g 36 [.ref 31, .ref 3] M (fun o1 M1 => sm_ov (Q (some (.int (M1.1 31 3))) M1) o1))) : sx_Go g 61 K (0, 0) Fi 56 [.ref 0, .int x1] [.ref 3, .ref 31] M := by
  exact sx_ok (S := sm_S1 g) (G := sx_Go g 61 K (0, 0) Fi) sm_S1_ok hF (fun _ _ _ _ h => h) 5 56 _ _ _ h
set_option maxRecDepth 100000 in
theorem x62_0 {g : sm_G} {K : sx_K} {Fi : sm_F} {Q : Option Value → sm_M → Prop} {x1 : Int32} {M : sm_M} (hF : ∀ below args s t, MQ below (sm_Qc g Q) args s 0 0 (sm_A g) t → Fi below args s t) (h : ((x1 < 0 → sx_Go g 62 K (0, 0) Fi 15 [.ref 0, .int x1] [] M) ∧ (¬ x1 < 0 → ((x1 < (if Int32.ofInt 20 < (M.1 31) 3 then Int32.ofInt 20 else (M.1 31) 3) → (vp_in x1 20 ∧ Q (some (.int (M.1 34 (x1.toNatClampNeg)))) M)) ∧ (¬ x1 < (if Int32.ofInt 20 < (M.1 31) 3 then Int32.ofInt 20 else (M.1 31) 3) → sx_Go g 62 K (0, 0) Fi 15 [.ref 0, .int x1] [] M))))) : sx_Go g 62 K (0, 0) Fi 0 [.ref 0, .int x1] [] M := by
  exact sx_ok (S := sm_S1 g) (G := sx_Go g 62 K (0, 0) Fi) sm_S1_ok hF (fun _ _ _ _ h => h) 13 0 _ _ _ h
set_option maxRecDepth 100000 in
theorem x61_56b {g : sm_G} {K : sx_K} {Fi : sm_F} {Q : Option Value → sm_M → Prop} {x1 : Int32} {M : sm_M} (hF : ∀ below args s t, MQ below (sm_Qc g Q) args s 0 0 (sm_A g) t → Fi below args s t) (h : (sm_S1 g 36 [.ref 31, .ref 1] M (fun o1 M1 => sm_ov (Q (some (.int (M1.1 31 3))) M1) o1))) : sx_Go g 61 K (0, 0) Fi 56 [.ref 0, .int x1] [.ref 1, .ref 31] M := by
  exact sx_ok (S := sm_S1 g) (G := sx_Go g 61 K (0, 0) Fi) sm_S1_ok hF (fun _ _ _ _ h => h) 5 56 _ _ _ h
section
variable {g : sm_G} {M : sm_M}
theorem xq_put (h : INV M) {x1 x2 x3 x4 : Int32} {K : sx_K} {Fi : sm_F} (hF : ∀ below args s t, MQ below (sm_Qc g (i_ret g 83 [.int x1, .int x2, .int x3, .int x4])) args s 0 0 (sm_A g) t → Fi below args s t)
    (t1 : i_thr g 83 [.int x1, .int x2, .int x3, .int x4] M 1 → sx_Go g 51 K (0, 0) Fi 38 [.ref 0, .int x1, .int x2, .int x3, .int x4] [] M) (t2 : i_thr g 83 [.int x1, .int x2, .int x3, .int x4] M 2 → sx_Go g 51 K (0, 0) Fi 58 [.ref 0, .int x1, .int x2, .int x3, .int x4] [] M) : sx_Go g 51 K (0, 0) Fi 0 [.ref 0, .int x1, .int x2, .int x3, .int x4] [] M := by
  have h' := h
  obtain ⟨ns, Ls, ⟨s1, s2, s3, s4, s5, s6⟩, r, m⟩ := h
  have e1 : x1 = Int32.ofInt x1.toInt := (jn_self x1).symm
  have e2 : x2 = Int32.ofInt x2.toInt := (jn_self x2).symm
  have e3 : x3 = Int32.ofInt x3.toInt := (jn_self x3).symm
  have e4 : x4 = Int32.ofInt x4.toInt := (jn_self x4).symm
  have r1 : -2147483648 ≤ x1.toInt ∧ x1.toInt < 2147483648 := ⟨x1.le_toInt, x1.toInt_lt⟩
  have r2 : -2147483648 ≤ x2.toInt ∧ x2.toInt < 2147483648 := ⟨x2.le_toInt, x2.toInt_lt⟩
  have r3 : -2147483648 ≤ x3.toInt ∧ x3.toInt < 2147483648 := ⟨x3.le_toInt, x3.toInt_lt⟩
  have r4 : -2147483648 ≤ x4.toInt ∧ x4.toInt < 2147483648 := ⟨x4.le_toInt, x4.toInt_lt⟩
  generalize x1.toInt = o at *
  generalize x2.toInt = d at *
  generalize x3.toInt = a at *
  generalize x4.toInt = b at *
  subst e1 e2 e3 e4
  have to : (Int32.ofInt o).toInt = o := jn_to r1.1 r1.2
  have td : (Int32.ofInt d).toInt = d := jn_to r2.1 r2.2
  have ta : (Int32.ofInt a).toInt = a := jn_to r3.1 r3.2
  have tb : (Int32.ofInt b).toInt = b := jn_to r4.1 r4.2
  have v1 : (Int32.ofInt 1).toInt = 1 := rfl
  have v2 : (Int32.ofInt 2).toInt = 2 := rfl
  have v3 : (Int32.ofInt 3).toInt = 3 := rfl
  have R := fun {M : sm_M} hn => c_rput (g := g) (M := M) s1 hn r1 r2 r3 r4
  have bad : pt_ok o d a b = false → sx_Go g 51 K (0, 0) Fi 38 [.ref 0, .int (Int32.ofInt o), .int (Int32.ofInt d), .int (Int32.ofInt a), .int (Int32.ofInt b)] [] M := fun e => t1 (sm_Sm_mono (R s3) (fun r M2 hp => by
    obtain ⟨p1, p2⟩ := hp.1 e
    rw [p2]
    exact ⟨⟨_, p1⟩, by rw [sI_s, pk_us], INV_0 h' _⟩))
  refine x51_0 hF ?_
  rw [to, td, ta, tb, v1, v2, v3, sm_z0, sm_z0, sm_z0, s2, jn_0, jn_lt (by omega) (by omega) (by omega) (by omega), jn_lt (by omega) (by omega) (by omega) (by omega), jn_lt (by omega) (by omega) (by omega) (by omega)]
  refine ⟨fun q => bad ?_, fun q => ⟨fun q2 => bad ?_, fun q2 => ⟨fun q3 => bad ?_, fun q3 => ⟨fun q4 => bad ?_, fun q4 => ⟨fun q5 => ?_, fun q5 => bad ?_⟩⟩⟩⟩⟩
  · unfold pt_ok; rw [decide_eq_false (show ¬ 0 ≤ o by omega)]; rfl
  · unfold pt_ok; rw [decide_eq_false (show ¬ o ≤ 7 by omega)]; simp
  · unfold pt_ok; rw [q3]; simp
  · unfold pt_ok; rw [q4]; simp
  · rw [Bool.not_eq_false] at q3 q4 q5
    have ok : pt_ok o d a b = true := by unfold pt_ok; rw [decide_eq_true (show 0 ≤ o by omega), decide_eq_true (show o ≤ 7 by omega), q3, q4, q5]; rfl
    refine ⟨fun q6 => ?_, fun q6 => t2 (sm_Sm_mono (R s3) (fun r M2 hp => ?_))⟩
    · refine sm_Sm_mono (c_add (c := 1) (n := ns) (by omega) s2 (by omega)) (fun oo M1 h1 => ?_)
      obtain ⟨rfl, a1, a2, a3, a4⟩ := h1
      have er : M1.1 1 1 = Int32.ofInt ((ns + 1 : Nat) : Int) := by rw [a1, pk_us]
      refine ⟨Or.inl rfl, M1.1 1 1, rfl, ?_⟩
      have hn1 : (sm_sI M1 0 6 (Int32.ofInt 0)).1 35 6 = Int32.ofInt (ns : Int) := by rw [sI_1 (by decide), a3 35 (by decide) (by decide)]; exact s3
      refine sm_Sm_mono (R hn1) (fun r M2 hp => ?_)
      obtain ⟨p1, p2⟩ := hp.2.2 ok (by omega)
      have m0 : ∀ p, p ≠ 35 → (p < 36 ∨ 40 < p) → M2.1 p = (sm_sI M1 0 6 (Int32.ofInt 0)).1 p := fun p x1 x2 => by rw [p2]; unfold rp_new; rw [sI_1 x1, sI_1 x1, st_o x2, sI_1 x1]
      have m35 : ∀ i, i ≠ 0 → i ≠ 6 → i ≠ 24 → M2.1 35 i = M.1 35 i := fun i x1 x2 x3 => by rw [p2]; unfold rp_new; rw [sI_s, pk_un x3, sI_s, pk_un x2, st_o (by omega), sI_s, pk_un x1, sI_1 (by decide), a3 35 (by decide) (by decide)]
      have mc : ∀ p, 1 < p → p ≠ 2 → p < 35 ∨ 40 < p → M2.1 p = M.1 p := fun p x1 x2 x3 => by rw [m0 p (by omega) (by omega), sI_1 (by omega), a3 p (by omega) (by omega)]
      have Lc : Ln (ns + 1) (cd_l M2 1) (fun i j => if i = (ns : Int) then pt_l o d a b ns j else Ls i j) := Ln_j (fun i hi j hj => by
        have e : cd_l M2 1 i j = cd_l M1 1 i j := by unfold cd_l; rw [m0 2 (by decide) (by omega), sI_1 (by decide)]
        rw [e, a2 i j (by omega) hj]
        have mr1 := mt_r (o := o) (j := 1) r2
        have mr2 := mt_r (o := o) (j := 2) r3
        have mr3 := mt_r (o := o) (j := 3) r4
        by_cases c : (i : Int) = (ns : Int)
        · rw [if_pos c, if_pos c, to, jn_to mr1.1 mr1.2, jn_to mr2.1 mr2.2, jn_to mr3.1 mr3.2, jn_to (by omega) (by omega)]; rfl
        · rw [if_neg c, if_neg c]; exact Ln_o s4 (by omega) hj)
      have Lr : Ln (ns + 1) (rf_L M2 0) (fun i j => if i = (ns : Int) then pt_l o d a b ns j else Ls i j) := rL0_of (fun i hi j hj => by
        have mr1 := mt_r (o := o) (j := 1) r2
        have mr2 := mt_r (o := o) (j := 2) r3
        have mr3 := mt_r (o := o) (j := 3) r4
        have e : M2.1 (36 + j) i = (st_M (sm_sI (sm_sI M1 0 6 (Int32.ofInt 0)) 35 0 (Int32.ofInt 0)) ns (Int32.ofInt o) (Int32.ofInt (pf_mt o 1 d)) (Int32.ofInt (pf_mt o 2 a)) (Int32.ofInt (pf_mt o 3 b)) (Int32.ofInt (ns : Int))).1 (36 + j) i := by rw [p2]; unfold rp_new; rw [sI_1 (by omega), sI_1 (by omega)]
        rw [e]
        by_cases c : i = ns
        · rw [if_pos (by omega), c, st_s hj, to, jn_to mr1.1 mr1.2, jn_to mr2.1 mr2.2, jn_to mr3.1 mr3.2, jn_to (by omega) (by omega)]; rfl
        · rw [if_neg (by omega), st_n hj c, sI_1 (by omega), sI_1 (by omega), a3 (36 + j) (by omega) (by omega)]
          exact rL0_at s5 (by omega) hj)
      refine ⟨by rw [p1, er], by rw [p2]; unfold rp_new; rw [sI_s, pk_un (by decide), sI_s, pk_un (by decide), st_o (by omega), sI_s, pk_us], ns + 1, _, ⟨by omega, ?_, ?_, Lc, Lr, fun i hi => ?_⟩, Or.inl ⟨?_, ?_⟩, ?_⟩
      · rw [m0 1 (by decide) (by omega), sI_1 (by decide)]; exact er
      · rw [p2]; unfold rp_new; rw [sI_s, pk_un (by decide), sI_s, pk_us]
      · by_cases c : (i : Int) = (ns : Int)
        · have z := pt_sok (n := ns) ok
          refine ⟨sok_c (l' := pt_l o d a b ns) ⟨if_pos c, if_pos c, if_pos c, if_pos c, if_pos c⟩ z.1, ?_⟩
          show (if (i : Int) = (ns : Int) then pt_l o d a b ns 4 else Ls i 4) = _
          rw [if_pos c, z.2, c]
        · refine ⟨sok_c (l' := Ls i) ⟨if_neg c, if_neg c, if_neg c, if_neg c, if_neg c⟩ (s6 i (by omega)).1, ?_⟩
          show (if (i : Int) = (ns : Int) then pt_l o d a b ns 4 else Ls i 4) = _
          rw [if_neg c]; exact (s6 i (by omega)).2
      · rw [m0 0 (by decide) (by omega), sI_s, pk_us]
      · rw [p2]; unfold rp_new; rw [sI_s, pk_us]
      · obtain ⟨n1, n2, n3, n4, n5⟩ := m
        exact ⟨by rw [mc 31 (by decide) (by decide) (by omega), m35 33 (by decide) (by decide) (by decide)]; exact n1, by rw [mc 31 (by decide) (by decide) (by omega)]; exact n2, by rw [mc 31 (by decide) (by decide) (by omega), m35 34 (by decide) (by decide) (by decide)]; exact n3, by rw [mc 31 (by decide) (by decide) (by omega)]; exact n4, fun t ht => by rw [mc 34 (by decide) (by decide) (by omega), mc 58 (by decide) (by decide) (by omega)]; exact n5 t ht⟩
    · obtain ⟨p1, p2⟩ := hp.2.1 ok (by omega)
      rw [p2]
      exact ⟨⟨_, p1⟩, by rw [sI_s, pk_us], INV_0 h' _⟩
  · unfold pt_ok; rw [q5]; simp
theorem xq_allocate (h : INV M) {x1 : Int32} {K : sx_K} {Fi : sm_F} (hF : ∀ below args s t, MQ below (sm_Qc g (i_ret g 104 [.int x1])) args s 0 0 (sm_A g) t → Fi below args s t)
    (t1 : i_thr g 104 [.int x1] M 1 → sx_Go g 54 K (0, 0) Fi 11 [.ref 0, .int x1, .null] [] M) : sx_Go g 54 K (0, 0) Fi 0 [.ref 0, .int x1, .null] [] M := by
  have h' := h
  obtain ⟨ns, Ls, ⟨s1, s2, s3, s4, s5, s6⟩, r, m⟩ := h
  have e1 : x1 = Int32.ofInt x1.toInt := (jn_self x1).symm
  have r1 : -2147483648 ≤ x1.toInt ∧ x1.toInt < 2147483648 := ⟨x1.le_toInt, x1.toInt_lt⟩
  generalize x1.toInt = k at *
  subst e1
  have ha := aI_0 s1 s6
  have bad : ¬ (3 ≤ k ∧ k ≤ 6) → sx_Go g 54 K (0, 0) Fi 11 [.ref 0, .int (Int32.ofInt k), .null] [] M := fun e => t1 (sm_Sm_mono (c_rallocate r1 s3 s1 s5 ha) (fun o M2 hp => by
    unfold al_post at hp
    rw [if_neg e] at hp
    rw [hp.2]
    exact ⟨⟨_, hp.1⟩, by rw [sI_s, pk_us], INV_0 h' _⟩))
  refine x54_0 hF ?_
  rw [jn_lt (by omega) (by omega) (by omega) (by omega), jn_le (by omega) (by omega) (by omega) (by omega)]
  refine ⟨fun q => bad (by omega), fun q => ⟨fun q2 => ?_, fun q2 => bad (by omega)⟩⟩
  have h36 : 3 ≤ k ∧ k ≤ 6 := by omega
  have ek : ((k.toNat : Nat) : Int) = k := by omega
  have C := c_countRounds (g := g) (ns := ns) (Ls := Ls) (M0 := M) (k := k.toNat) (by omega) s2 s4 ha
  rw [ek] at C
  refine sm_Sm_mono C (fun o M1 h1 => ?_)
  obtain ⟨⟨c8, cp, cl⟩, hc⟩ := h1
  rw [ek] at c8
  -- the reference, from any memory whose part is as it was
  have R : ∀ M3 : sm_M, (∀ p, 35 ≤ p → M3.1 p = M.1 p) → sm_Sm g 104 [.ref 35, .int (Int32.ofInt k)] M3 (mi_post k.toNat M3 (ar k.toNat 11 (ns, Ls, 10, 0) 1)) := fun M3 hp => by
    have A := c_rallocate (g := g) (M0 := M3) r1 (by rw [hp 35 (by omega)]; exact s3) s1 (rL_c s5 (hp 36 (by omega)) (hp 37 (by omega)) (hp 38 (by omega)) (hp 39 (by omega)) (hp 40 (by omega))) ha
    refine sm_Sm_mono A (fun o M2 hp => ?_)
    unfold al_post at hp
    rw [if_pos h36] at hp; exact hp
  -- what the reference leaves
  have srcM : ∀ M3 M2 : sm_M, (∀ p, 35 ≤ p → M3.1 p = M.1 p) → M3.1 1 = M.1 1 → M3.1 2 = M.1 2 → mf k.toNat M3 M2 → i_src M2 ns Ls := fun M3 M2 hp q1 q2 hm => by
    refine ⟨s1, by rw [hm.1 1 (by omega), q1]; exact s2, by rw [hm.2.1 6 (by decide) (by decide) (by decide) (by decide) (by decide) (by decide) (by decide) (by decide) (by decide), hp 35 (by omega)]; exact s3, by rw [cd_lc (hm.1 2 (by omega)), cd_lc q2]; exact s4, rL0_of (fun i hi j hj => ?_), s6⟩
    rw [hm.2.2.1 j hj i (by omega), hp (36 + j) (by omega)]; exact rL0_at s5 hi hj
  have macM : ∀ M3 M2 : sm_M, (∀ p, 35 ≤ p → M3.1 p = M.1 p) → M3.1 31 = M.1 31 → M3.1 34 = M.1 34 → mf k.toNat M3 M2 → i_mac M2 := fun M3 M2 hp q1 q2 hm => by
    obtain ⟨n1, n2, n3, n4, n5⟩ := m
    have e33 : M2.1 35 33 = M.1 35 33 := by rw [hm.2.1 33 (by decide) (by decide) (by decide) (by decide) (by decide) (by decide) (by decide) (by decide) (by decide), hp 35 (by omega)]
    have e34 : M2.1 35 34 = M.1 35 34 := by rw [hm.2.1 34 (by decide) (by decide) (by decide) (by decide) (by decide) (by decide) (by decide) (by decide) (by decide), hp 35 (by omega)]
    have e31 : M2.1 31 = M.1 31 := by rw [hm.1 31 (by omega), q1]
    exact ⟨by rw [e31, e33]; exact n1, by rw [e31]; exact n2, by rw [e31, e34]; exact n3, by rw [e31]; exact n4, fun t ht => by rw [hm.1 34 (by omega), q2, hm.1 58 (by omega), hp 58 (by omega)]; exact n5 t ht⟩
  cases ea : ar k.toNat 11 (ns, Ls, 10, 0) 1 with
  | none =>
    rw [ea] at hc
    have hc : o = some (.int (Int32.ofInt (-1))) := hc
    subst hc
    show (_ → _) ∧ (_ → _)
    refine ⟨fun _ => ?_, fun q => absurd rfl q⟩
    refine x54_43 hF ⟨Or.inl rfl, ?_⟩
    rw [pk_us]
    refine ⟨fun _ => ⟨_, rfl, ?_⟩, fun q => absurd rfl q⟩
    have hp3 : ∀ p, 35 ≤ p → (sm_sI M1 0 6 (Int32.ofInt 0)).1 p = M.1 p := fun p hp => by rw [sI_1 (by omega), cp p (by omega)]
    refine sm_Sm_mono (R _ hp3) (fun o2 M2 h2 => ?_)
    rw [ea] at h2
    obtain ⟨hm, h2, h24⟩ := h2
    refine ⟨h2, hm.2.2.2.2.1, ns, Ls, srcM _ M2 hp3 (by rw [sI_1 (by decide), cp 1 (by omega)]) (by rw [sI_1 (by decide), cp 2 (by omega)]) hm, Or.inl ⟨by rw [hm.1 0 (by omega), sI_s, pk_us], h24⟩, macM _ M2 hp3 (by rw [sI_1 (by decide), cp 31 (by omega)]) (by rw [sI_1 (by decide), cp 34 (by omega)]) hm⟩
  | some rc =>
    obtain ⟨rr, c⟩ := rc
    rw [ea] at hc
    obtain ⟨ho, hend⟩ := hc
    subst ho
    obtain ⟨i1, i2, i3⟩ := ar_inv 11 _ _ _ _ ha ea
    show (_ → _) ∧ (_ → _)
    rw [jn_eq (by omega) (by omega) (by omega) (by omega)]
    refine ⟨fun q => by omega, fun _ => ?_⟩
    refine x54_43 hF ⟨Or.inr rfl, ?_⟩
    rw [pk_us]
    refine ⟨fun q => absurd q z01, fun _ => ?_⟩
    have hend2 : ci_end k.toNat M (sm_sI M1 0 6 (Int32.ofInt 1)) c := by
      obtain ⟨b1, b2, b3, b4, b5, b6⟩ := hend
      exact ⟨by rw [sI_1 (by decide)]; exact b1, by rw [cd_lc (sI_1 (by decide))]; exact b2, fun v hv => by rw [sI_1 (by decide)]; exact b3 v hv, fun v hv => by rw [sI_1 (by decide)]; exact b4 v hv, by rw [sI_1 (by decide)]; exact b5, by rw [sI_1 (by decide)]; exact b6⟩
    refine sm_Sm_mono (c_writeTo (k := k.toNat) (by omega) i1 hend2) (fun o3 M3 h3 => ?_)
    obtain ⟨rfl, w1, w2, w3, w4⟩ := h3
    refine ⟨_, rfl, ?_⟩
    have hp3 : ∀ p, 35 ≤ p → M3.1 p = M.1 p := fun p hp => by rw [w3 p (by omega) (by omega), sI_1 (by omega), cp p (by omega)]
    refine sm_Sm_mono (R M3 hp3) (fun o2 M2 h2 => ?_)
    rw [ea] at h2
    obtain ⟨hm, h2, h24, h7, hL, h22, h20⟩ := h2
    refine ⟨h2, hm.2.2.2.2.1, ns, Ls, srcM _ M2 hp3 (by rw [w3 1 (by decide) (by decide), sI_1 (by decide), cp 1 (by omega)]) (by rw [w3 2 (by decide) (by decide), sI_1 (by decide), cp 2 (by omega)]) hm, Or.inr ⟨by rw [hm.1 0 (by omega), w3 0 (by decide) (by decide), sI_s, pk_us], h24, c.1, k.toNat, r_fin k.toNat c, ⟨i1.1, by omega, by omega⟩, by rw [hm.1 3 (by omega)]; exact w1, h7, by rw [cd_lc (hm.1 4 (by omega))]; exact w2, hL, fun i hi => r_fin_ok i1 i2 i hi, by rw [hm.1 8 (by omega), w3 8 (by decide) (by decide), sI_1 (by decide), ek]; exact c8, hm.2.2.2.2.2, ?_, ?_⟩, macM _ M2 hp3 (by rw [w3 31 (by decide) (by decide), sI_1 (by decide), cp 31 (by omega)]) (by rw [w3 34 (by decide) (by decide), sI_1 (by decide), cp 34 (by omega)]) hm⟩
    · rw [hm.1 20 (by omega), w3 20 (by decide) (by decide), h22]; exact hend2.2.2.2.2.1
    · rw [hm.1 12 (by omega), w3 12 (by decide) (by decide), h20]; exact hend2.2.2.2.2.2
theorem xq_line (h : INV M) {x1 x2 : Int32} {K : sx_K} {Fi : sm_F} (hF : ∀ below args s t, MQ below (sm_Qc g (i_ret g 107 [.int x1, .int x2])) args s 0 0 (sm_A g) t → Fi below args s t)
    (t1 : i_thr g 107 [.int x1, .int x2] M 1 → sx_Go g 56 K (0, 0) Fi 17 [.ref 0, .int x1, .int x2] [] M) : sx_Go g 56 K (0, 0) Fi 0 [.ref 0, .int x1, .int x2] [] M := by
  have h' := h
  obtain ⟨ns, Ls, ⟨s1, s2, s3, s4, s5, s6⟩, r, m⟩ := h
  have e1 : x1 = Int32.ofInt x1.toInt := (jn_self x1).symm
  have e2 : x2 = Int32.ofInt x2.toInt := (jn_self x2).symm
  have r1 : -2147483648 ≤ x1.toInt ∧ x1.toInt < 2147483648 := ⟨x1.le_toInt, x1.toInt_lt⟩
  have r2 : -2147483648 ≤ x2.toInt ∧ x2.toInt < 2147483648 := ⟨x2.le_toInt, x2.toInt_lt⟩
  generalize x1.toInt = a at *
  generalize x2.toInt = b at *
  subst e1 e2
  have ta : (Int32.ofInt a).toInt = a := jn_to r1.1 r1.2
  have tb : (Int32.ofInt b).toInt = b := jn_to r2.1 r2.2
  have c4 : Int32.ofInt b < (0 : Int32) ↔ b < 0 := by rw [jn_0, jn_lt (by omega) (by omega) (by omega) (by omega)]
  -- the reference's exception
  have thr : ∀ (e : ¬ (∃ n : Nat, M.1 35 24 = Int32.ofInt 1 ∧ n ≤ 48 ∧ M.1 35 7 = Int32.ofInt (n : Int) ∧ 0 ≤ a ∧ a < n ∧ 0 ≤ b ∧ b < 5)), i_thr g 107 [.int (Int32.ofInt a), .int (Int32.ofInt b)] M 1 := fun e => by
    have f23 : sm_Go g 107 (sm_Fn g (fun o2 M2 => (∃ r, o2 = some (.int r)) ∧ M2.1 35 0 = Int32.ofInt 1 ∧ INV M2)) 18 [.ref 35, .int (Int32.ofInt a), .int (Int32.ofInt b), .null] [.ref 35] M := by
      refine k107_18 (fun _ _ _ _ h => h) (k107_23 (fun _ _ _ _ h => h) ⟨fun q => absurd q (by rw [pk_us]; decide), fun _ => ⟨⟨_, rfl⟩, by rw [sI_s, pk_us], INV_0 h' _⟩⟩)
    refine sm_entry (Nat.le_of_ble_eq_true rfl) (Nat.le_of_ble_eq_true rfl) (k107_0 (fun _ _ _ _ h => h) ?_)
    rcases r with ⟨q1, q2⟩ | ⟨q1, q2, n, k, L, a1, a2, a3, -⟩
    · rw [q2, sm_z0]
      exact ⟨fun _ => f23, fun q => absurd rfl q⟩
    · rw [q2, a3, sm_z0, has_l a1.1 r1, c4, jn_le (by omega) (by omega) (by omega) (by omega)]
      refine ⟨fun _ => f23, fun q => ⟨fun _ => f23, fun q5 => ⟨fun q6 => ?_, fun _ => f23⟩⟩⟩
      rw [Bool.not_eq_false, decide_eq_true_eq] at q
      exact absurd ⟨n, q2, a1.1, a3, by omega, by omega, by omega, by omega⟩ e
  refine x56_0 hF ?_
  rcases r with ⟨q1, q2⟩ | ⟨q1, q2, n, k, L, a1, a2, a3, a4, a5, -⟩
  · rw [q1, sm_z0]
    refine ⟨fun _ => t1 (thr ?_), fun q => absurd rfl q⟩
    rintro ⟨n, z, -⟩
    rw [q2] at z; exact absurd z (by decide)
  · have no : ¬ (0 ≤ a ∧ a < n ∧ 0 ≤ b ∧ b < 5) → sx_Go g 56 K (0, 0) Fi 17 [.ref 0, .int (Int32.ofInt a), .int (Int32.ofInt b)] [] M := fun e => t1 (thr (by
      rintro ⟨n2, -, z2, z3, z⟩
      rw [a3, jn_eq (by omega) (by omega) (by omega) (by omega)] at z3
      exact e (by omega)))
    rw [q1, a2, sm_z0, has_l a1.1 r1, c4, jn_lt (by omega) (by omega) (by omega) (by omega), ta, tb]
    refine ⟨fun q => no ?_, fun q => ⟨fun q5 => no (by omega), fun q5 => ⟨fun q6 => ?_, fun q6 => no (by omega)⟩⟩⟩
    · intro z
      rw [decide_eq_true (show 0 ≤ a ∧ a < (n : Int) by omega)] at q; cases q
    · rw [Bool.not_eq_false, decide_eq_true_eq] at q
      refine ⟨⟨by omega, by omega, by omega, by omega⟩, _, rfl, ?_⟩
      have ea : ((a.toNat : Nat) : Int) = a := by omega
      obtain ⟨l0, l1, l2, l3, l4⟩ := rL_at a5 (i := a.toNat) (by omega)
      rw [ea] at l0 l1 l2 l3 l4
      have cl : cd_l M 3 a b = L a b := by have := Ln_o a4 (i := a.toNat) (by omega) (j := b) (by omega); rwa [ea] at this
      rw [cl]
      have ix : vp_in (Int32.ofInt (16 + a)) 112 := by rw [jn_in (by omega) (by omega)]; omega
      have clx : (Int32.ofInt (16 + a)).toNatClampNeg = 16 + a.toNat := by rw [jn_cl (by omega) (by omega)]; omega
      have eb : ∀ x : Int32, (∀ j : Int, j = b → x = Int32.ofInt (L a j)) → x = Int32.ofInt (L a b) := fun x hx => hx b rfl
      refine sm_entry (Nat.le_of_ble_eq_true rfl) (Nat.le_of_ble_eq_true rfl) (k107_0 (fun _ _ _ _ h => h) ?_)
      rw [q2, a3, sm_z0, has_l a1.1 r1, c4, jn_le (by omega) (by omega) (by omega) (by omega)]
      refine ⟨fun z => ?_, fun _ => ⟨fun z => by omega, fun _ => ⟨fun _ => ?_, fun z => by omega⟩⟩⟩
      · rw [decide_eq_true (show 0 ≤ a ∧ a < (n : Int) by omega)] at z; cases z
      refine k107_23 (fun _ _ _ _ h => h) ⟨fun _ => ?_, fun z => absurd (by rw [pk_us]; decide) z⟩
      have c0 : Int32.ofInt b = (0 : Int32) ↔ b = 0 := by rw [jn_0, jn_eq (by omega) (by omega) (by omega) (by omega)]
      rw [c0, jn_eq (by omega) (by omega) (by omega) (by omega), jn_eq (by omega) (by omega) (by omega) (by omega), jn_eq (by omega) (by omega) (by omega) (by omega), jn_add, clx, l0, l1, l2, l3, l4]
      have fin : ∀ j : Int, b = j → (some (Value.int (Int32.ofInt (L a j))) = some (.int (Int32.ofInt (L a b))) ∧ (sm_sI M 35 0 (Int32.ofInt 0)).1 35 0 = Int32.ofInt 0 ∧ INV (sm_sI M 35 0 (Int32.ofInt 0))) := fun j hj => by
        rw [hj]; exact ⟨rfl, by rw [sI_s, pk_us], INV_0 h' _⟩
      exact ⟨fun z0 => ⟨fun z1 => ⟨fun z2 => ⟨fun z3 => ⟨ix, fin 4 (by omega)⟩, fun z3 => ⟨ix, fin 3 z3⟩⟩, fun z2 => ⟨ix, fin 2 z2⟩⟩, fun z1 => ⟨ix, fin 1 z1⟩⟩, fun z0 => ⟨ix, fin 0 z0⟩⟩
theorem xq_shown (h : INV M) {x1 : Int32} {K : sx_K} {Fi : sm_F} (hF : ∀ below args s t, MQ below (sm_Qc g (i_ret g 118 [.int x1])) args s 0 0 (sm_A g) t → Fi below args s t)
    (t1 : i_thr g 118 [.int x1] M 1 → sx_Go g 62 K (0, 0) Fi 15 [.ref 0, .int x1] [] M) : sx_Go g 62 K (0, 0) Fi 0 [.ref 0, .int x1] [] M := by
  have h' := h
  obtain ⟨ns, Ls, -, -, m1, m2, m3, m4, m5⟩ := h
  have e1 : x1 = Int32.ofInt x1.toInt := (jn_self x1).symm
  have r1 : -2147483648 ≤ x1.toInt ∧ x1.toInt < 2147483648 := ⟨x1.le_toInt, x1.toInt_lt⟩
  generalize x1.toInt = a at *
  subst e1
  have eo : M.1 31 3 = Int32.ofInt (M.1 31 3).toInt := (jn_self _).symm
  have ro : (M.1 31 3).toInt < 2147483648 := Int32.toInt_lt _
  generalize (M.1 31 3).toInt = oc at *
  have eo2 : M.1 35 33 = Int32.ofInt oc := by rw [← m1]; exact eo
  have c2 : Int32.ofInt a < (0 : Int32) ↔ a < 0 := by rw [jn_0, jn_lt (by omega) (by omega) (by omega) (by omega)]
  have thr : ¬ (0 ≤ a ∧ a < oc ∧ a < 20) → i_thr g 118 [.int (Int32.ofInt a)] M 1 := fun e => by
    have f19 : sm_Go g 118 (sm_Fn g (fun o2 M2 => (∃ r, o2 = some (.int r)) ∧ M2.1 35 0 = Int32.ofInt 1 ∧ INV M2)) 19 [.ref 35, .int (Int32.ofInt a)] [.ref 35] M := k118_19 (fun _ _ _ _ h => h) (k118_24 (fun _ _ _ _ h => h) ⟨fun q => absurd q (by rw [pk_us]; decide), fun _ => ⟨⟨_, rfl⟩, by rw [sI_s, pk_us], INV_0 h' _⟩⟩)
    refine sm_entry (Nat.le_of_ble_eq_true rfl) (Nat.le_of_ble_eq_true rfl) (k118_0 (fun _ _ _ _ h => h) ?_)
    rw [c2, eo2, jn_le (by omega) (by omega) (by omega) (by omega), jn_lt (by omega) (by omega) (by omega) (by omega)]
    exact ⟨fun _ => f19, fun q => ⟨fun _ => f19, fun q2 => ⟨fun q3 => absurd (by omega) e, fun _ => f19⟩⟩⟩
  have ek : (if Int32.ofInt 20 < M.1 31 3 then Int32.ofInt 20 else M.1 31 3) = Int32.ofInt (if 20 < oc then 20 else oc) := by
    rw [eo]
    have l : Int32.ofInt 20 < Int32.ofInt oc ↔ 20 < oc := jn_lt (by omega) (by omega) (by omega) (by omega)
    by_cases c : 20 < oc
    · rw [if_pos (l.mpr c), if_pos c]
    · rw [if_neg (fun z => c (l.mp z)), if_neg c]
  refine x62_0 hF ?_
  have rk : (if 20 < oc then (20 : Int) else oc) ≤ 20 ∧ 0 ≤ (if 20 < oc then (20 : Int) else oc) ∧ (a < (if 20 < oc then (20 : Int) else oc) ↔ a < oc ∧ a < 20) := by split <;> omega
  rw [ek, c2, jn_lt (by omega) (by omega) (by omega) (by omega)]
  refine ⟨fun q => t1 (thr (by omega)), fun q => ⟨fun q2 => ?_, fun q2 => t1 (thr (by omega))⟩⟩
  have q3 := rk.2.2.mp q2
  have cl : (Int32.ofInt a).toNatClampNeg = a.toNat := jn_cl (by omega) (by omega)
  have ia : vp_in (Int32.ofInt a) 20 := by rw [jn_in (by omega) (by omega)]; omega
  refine ⟨ia, _, rfl, ?_⟩
  refine sm_entry (Nat.le_of_ble_eq_true rfl) (Nat.le_of_ble_eq_true rfl) (k118_0 (fun _ _ _ _ h => h) ?_)
  rw [c2, eo2, jn_le (by omega) (by omega) (by omega) (by omega), jn_lt (by omega) (by omega) (by omega) (by omega)]
  refine ⟨fun z => by omega, fun _ => ⟨fun z => by omega, fun _ => ⟨fun _ => ?_, fun z => by omega⟩⟩⟩
  refine k118_24 (fun _ _ _ _ h => h) ⟨fun _ => ⟨ia, ?_, by rw [sI_s, pk_us], INV_0 h' _⟩, fun z => absurd (by rw [pk_us]; decide) z⟩
  rw [cl, m5 a.toNat (by omega)]
theorem xq_run (h : INV M) {x1 : Int32} {K : sx_K} {Fi : sm_F} (hF : ∀ below args s t, MQ below (sm_Qc g (i_ret g 117 [.int x1])) args s 0 0 (sm_A g) t → Fi below args s t)
    (t1 : i_thr g 117 [.int x1] M 1 → sx_Go g 61 K (0, 0) Fi 9 [.ref 0, .int x1] [] M) (t2 : i_thr g 117 [.int x1] M 2 → sx_Go g 61 K (0, 0) Fi 29 [.ref 0, .int x1] [] M) : sx_Go g 61 K (0, 0) Fi 0 [.ref 0, .int x1] [] M := by
  have h' := h
  obtain ⟨ns, Ls, ⟨s1, s2, s3, s4, s5, s6⟩, r, m⟩ := h
  have e1 : x1 = Int32.ofInt x1.toInt := (jn_self x1).symm
  have r1 : -2147483648 ≤ x1.toInt ∧ x1.toInt < 2147483648 := ⟨x1.le_toInt, x1.toInt_lt⟩
  generalize x1.toInt = a at *
  subst e1
  have ta : (Int32.ofInt a).toInt = a := jn_to r1.1 r1.2
  have c0 : Int32.ofInt a = (0 : Int32) ↔ a = 0 := by rw [jn_0, jn_eq (by omega) (by omega) (by omega) (by omega)]
  have c1 : Int32.ofInt a = Int32.ofInt 1 ↔ a = 1 := jn_eq (by omega) (by omega) (by omega) (by omega)
  refine x61_0 hF ?_
  rw [c0, c1]
  -- the source
  have src : a = 0 → sx_Go g 61 K (0, 0) Fi 17 [.ref 0, .int (Int32.ofInt a)] [] M := fun e => by
    refine x61_17 hF ?_
    rw [c1]
    refine ⟨fun _ => x61_37 hF ?_, fun q => by omega⟩
    rw [c0]
    refine ⟨fun q => absurd e q, fun _ => x61_56b hF ?_⟩
    have cn : cd_n M 1 = (ns : Int) := by unfold cd_n; rw [s2, jn_to (by omega) (by omega)]
    have okc : ∀ i : Int, 0 ≤ i → i < cd_n M 1 → mw_ok (cd_l M 1 i) := fun i i1 i2 => by
      rw [cn] at i2
      have := mw_ok_c (s4 i.toNat (by omega)) (sok_mw (s6 i.toNat (by omega)).1)
      rwa [show ((i.toNat : Nat) : Int) = i by omega] at this
    refine sm_Sm_mono (c_execute (c := 1) (by omega) (by omega) okc) (fun o M1 h1 => ?_)
    obtain ⟨rfl, h1⟩ := h1
    have RB := run_both (g := g) h' (c := 1) (n := ns) (x := 0) (b := 0) (by omega) (by omega) s2 s4 s5 (fun i hi => sok_mw (s6 i hi).1) (Or.inl ⟨rfl, rfl, by rw [s3, jn_to (by omega) (by omega)]⟩) h1
    rw [← e] at RB
    exact RB
  refine ⟨fun q => src q, fun q => ⟨fun q2 => ?_, fun q2 => t1 (sm_Sm_mono (c_rrunA (x := Int32.ofInt a) (by rw [ta]; omega)) (fun o M2 h2 => ?_))⟩⟩
  · subst q2
    refine x61_17 hF ⟨fun q => absurd rfl q, fun _ => ?_⟩
    rcases r with ⟨q1, q2⟩ | ⟨q1, q2, n, k, L, a1, a2, a3, a4, a5, a6, a7, a8, a9, a10⟩
    · rw [q1]
      refine ⟨fun q => absurd rfl q, fun _ => t2 (sm_Sm_mono (c_rrunB (by rw [q2]; rfl)) (fun o M2 h2 => ?_))⟩
      rw [h2.2]
      exact ⟨⟨_, h2.1⟩, by rw [sI_s, pk_us], INV_0 h' _⟩
    · rw [q1]
      refine ⟨fun _ => x61_37 hF ⟨fun _ => x61_56 hF ?_, fun q => absurd q z01⟩, fun q => absurd q z01⟩
      have cn : cd_n M 3 = (n : Int) := by unfold cd_n; rw [a2, jn_to (by omega) (by omega)]
      have okc : ∀ i : Int, 0 ≤ i → i < cd_n M 3 → mw_ok (cd_l M 3 i) := fun i i1 i2 => by
        rw [cn] at i2
        have := mw_ok_c (a4 i.toNat (by omega)) (rok_mw a1.2.2 (a6 i.toNat (by omega)))
        rwa [show ((i.toNat : Nat) : Int) = i by omega] at this
      refine sm_Sm_mono (c_execute (c := 3) (by omega) (by omega) okc) (fun o M1 h1 => ?_)
      obtain ⟨rfl, h1⟩ := h1
      exact run_both (g := g) h' (c := 3) (n := n) (x := 1) (b := 16) (by omega) (by omega) a2 a4 a5 (fun i hi => rok_mw a1.2.2 (a6 i hi)) (Or.inr ⟨rfl, rfl, by rw [a3, jn_to (by omega) (by omega)], by rw [q2]; exact z01⟩) h1
  · rw [h2.2]
    exact ⟨⟨_, h2.1⟩, by rw [sI_s, pk_us], INV_0 h' _⟩
end
